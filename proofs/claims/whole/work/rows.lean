section
-- ===== PART A: goes FIRST, ahead of the names: the tables' words, and 'selects' of the private methods out of them =====
/-- a private method of a class that the tables say can be made, by its rows of tables_1 -/
def lw_okq (q : MethodName × Nat) : Prop := (q.1.cls ≠ "java/lang/invoke/MethodHandle" ∧ q.1.cls ≠ "java/lang/invoke/VarHandle") ∧ Cond.instantiable q.1.cls q.2 ∈ tables_1 ∧ Cond.privateMethod q.1 ∈ tables_1 ∧ Cond.instanceMethod q.1 ∈ tables_1
theorem lw_p0 : lw_okq (⟨"ThumbnailRow", "brokenCuts", "()I"⟩, 6) := ⟨⟨by decide +kernel, by decide +kernel⟩, List.mem_of_getElem? (i := 33) (by decide +kernel), List.mem_of_getElem? (i := 138) (by decide +kernel), List.mem_of_getElem? (i := 139) (by decide +kernel)⟩
theorem lw_p1 : lw_okq (⟨"ThumbnailRow", "setupCount", "(Z)I"⟩, 6) := ⟨⟨by decide +kernel, by decide +kernel⟩, List.mem_of_getElem? (i := 33) (by decide +kernel), List.mem_of_getElem? (i := 191) (by decide +kernel), List.mem_of_getElem? (i := 192) (by decide +kernel)⟩
theorem lw_p2 : lw_okq (⟨"ThumbnailRow", "areNamesUnlike", "()Z"⟩, 6) := ⟨⟨by decide +kernel, by decide +kernel⟩, List.mem_of_getElem? (i := 33) (by decide +kernel), List.mem_of_getElem? (i := 231) (by decide +kernel), List.mem_of_getElem? (i := 232) (by decide +kernel)⟩
theorem lw_p3 : lw_okq (⟨"ThumbnailRow", "nameNumberOf", "(LThumbnailRow$Shot;)I"⟩, 6) := ⟨⟨by decide +kernel, by decide +kernel⟩, List.mem_of_getElem? (i := 33) (by decide +kernel), List.mem_of_getElem? (i := 235) (by decide +kernel), List.mem_of_getElem? (i := 236) (by decide +kernel)⟩
theorem lw_p4 : lw_okq (⟨"ThumbnailRow", "placeOf", "(LThumbnailRow$Shot;)I"⟩, 6) := ⟨⟨by decide +kernel, by decide +kernel⟩, List.mem_of_getElem? (i := 33) (by decide +kernel), List.mem_of_getElem? (i := 239) (by decide +kernel), List.mem_of_getElem? (i := 240) (by decide +kernel)⟩
theorem lw_p5 : lw_okq (⟨"ThumbnailRow", "isEachSeenAtItsBegin", "()Z"⟩, 6) := ⟨⟨by decide +kernel, by decide +kernel⟩, List.mem_of_getElem? (i := 33) (by decide +kernel), List.mem_of_getElem? (i := 243) (by decide +kernel), List.mem_of_getElem? (i := 244) (by decide +kernel)⟩
theorem lw_p6 : lw_okq (⟨"ThumbnailRow", "beginOf", "(I)I"⟩, 6) := ⟨⟨by decide +kernel, by decide +kernel⟩, List.mem_of_getElem? (i := 33) (by decide +kernel), List.mem_of_getElem? (i := 247) (by decide +kernel), List.mem_of_getElem? (i := 248) (by decide +kernel)⟩
theorem lw_p7 : lw_okq (⟨"ThumbnailRow", "indexSeen", "(I)I"⟩, 6) := ⟨⟨by decide +kernel, by decide +kernel⟩, List.mem_of_getElem? (i := 33) (by decide +kernel), List.mem_of_getElem? (i := 251) (by decide +kernel), List.mem_of_getElem? (i := 252) (by decide +kernel)⟩
theorem lw_p8 : lw_okq (⟨"ThumbnailRow", "doNotesSumUp", "()Z"⟩, 6) := ⟨⟨by decide +kernel, by decide +kernel⟩, List.mem_of_getElem? (i := 33) (by decide +kernel), List.mem_of_getElem? (i := 255) (by decide +kernel), List.mem_of_getElem? (i := 256) (by decide +kernel)⟩
theorem lw_p9 : lw_okq (⟨"ThumbnailRow", "notesOf", "(C)I"⟩, 6) := ⟨⟨by decide +kernel, by decide +kernel⟩, List.mem_of_getElem? (i := 33) (by decide +kernel), List.mem_of_getElem? (i := 259) (by decide +kernel), List.mem_of_getElem? (i := 260) (by decide +kernel)⟩
theorem lw_p10 : lw_okq (⟨"ThumbnailRow", "areEdgesOfMembers", "()Z"⟩, 6) := ⟨⟨by decide +kernel, by decide +kernel⟩, List.mem_of_getElem? (i := 33) (by decide +kernel), List.mem_of_getElem? (i := 263) (by decide +kernel), List.mem_of_getElem? (i := 264) (by decide +kernel)⟩
theorem lw_p11 : lw_okq (⟨"java/lang/Throwable", "fillInStackTrace", "(I)Ljava/lang/Throwable;"⟩, 6) := ⟨⟨by decide +kernel, by decide +kernel⟩, List.mem_of_getElem? (i := 324) (by decide +kernel), List.mem_of_getElem? (i := 322) (by decide +kernel), List.mem_of_getElem? (i := 323) (by decide +kernel)⟩
theorem lw_p12 : lw_okq (⟨"ThumbnailRow", "numberBehind", "(I)I"⟩, 6) := ⟨⟨by decide +kernel, by decide +kernel⟩, List.mem_of_getElem? (i := 33) (by decide +kernel), List.mem_of_getElem? (i := 360) (by decide +kernel), List.mem_of_getElem? (i := 361) (by decide +kernel)⟩
theorem lw_p13 : lw_okq (⟨"ThumbnailRow", "freeLetter", "(I)C"⟩, 6) := ⟨⟨by decide +kernel, by decide +kernel⟩, List.mem_of_getElem? (i := 33) (by decide +kernel), List.mem_of_getElem? (i := 364) (by decide +kernel), List.mem_of_getElem? (i := 365) (by decide +kernel)⟩
theorem lw_p14 : lw_okq (⟨"ThumbnailRow", "isNameTaken", "(IC)Z"⟩, 6) := ⟨⟨by decide +kernel, by decide +kernel⟩, List.mem_of_getElem? (i := 33) (by decide +kernel), List.mem_of_getElem? (i := 368) (by decide +kernel), List.mem_of_getElem? (i := 369) (by decide +kernel)⟩
theorem lw_p15 : lw_okq (⟨"java/util/ArrayList", "add", "(Ljava/lang/Object;[Ljava/lang/Object;I)V"⟩, 3) := ⟨⟨by decide +kernel, by decide +kernel⟩, List.mem_of_getElem? (i := 41) (by decide +kernel), List.mem_of_getElem? (i := 511) (by decide +kernel), List.mem_of_getElem? (i := 512) (by decide +kernel)⟩
def lw_privs_1 : List (MethodName × Nat) := [(⟨"ThumbnailRow", "brokenCuts", "()I"⟩, 6), (⟨"ThumbnailRow", "setupCount", "(Z)I"⟩, 6), (⟨"ThumbnailRow", "areNamesUnlike", "()Z"⟩, 6), (⟨"ThumbnailRow", "nameNumberOf", "(LThumbnailRow$Shot;)I"⟩, 6), (⟨"ThumbnailRow", "placeOf", "(LThumbnailRow$Shot;)I"⟩, 6), (⟨"ThumbnailRow", "isEachSeenAtItsBegin", "()Z"⟩, 6), (⟨"ThumbnailRow", "beginOf", "(I)I"⟩, 6), (⟨"ThumbnailRow", "indexSeen", "(I)I"⟩, 6), (⟨"ThumbnailRow", "doNotesSumUp", "()Z"⟩, 6), (⟨"ThumbnailRow", "notesOf", "(C)I"⟩, 6), (⟨"ThumbnailRow", "areEdgesOfMembers", "()Z"⟩, 6), (⟨"java/lang/Throwable", "fillInStackTrace", "(I)Ljava/lang/Throwable;"⟩, 6), (⟨"ThumbnailRow", "numberBehind", "(I)I"⟩, 6), (⟨"ThumbnailRow", "freeLetter", "(I)C"⟩, 6), (⟨"ThumbnailRow", "isNameTaken", "(IC)Z"⟩, 6), (⟨"java/util/ArrayList", "add", "(Ljava/lang/Object;[Ljava/lang/Object;I)V"⟩, 3)]
theorem lw_r1 : ∀ q ∈ lw_privs_1, lw_okq q := List.forall_mem_cons.mpr ⟨lw_p0, List.forall_mem_cons.mpr ⟨lw_p1, List.forall_mem_cons.mpr ⟨lw_p2, List.forall_mem_cons.mpr ⟨lw_p3, List.forall_mem_cons.mpr ⟨lw_p4, List.forall_mem_cons.mpr ⟨lw_p5, List.forall_mem_cons.mpr ⟨lw_p6, List.forall_mem_cons.mpr ⟨lw_p7, List.forall_mem_cons.mpr ⟨lw_p8, List.forall_mem_cons.mpr ⟨lw_p9, List.forall_mem_cons.mpr ⟨lw_p10, List.forall_mem_cons.mpr ⟨lw_p11, List.forall_mem_cons.mpr ⟨lw_p12, List.forall_mem_cons.mpr ⟨lw_p13, List.forall_mem_cons.mpr ⟨lw_p14, List.forall_mem_cons.mpr ⟨lw_p15, fun _ h => absurd h List.not_mem_nil⟩⟩⟩⟩⟩⟩⟩⟩⟩⟩⟩⟩⟩⟩⟩⟩
theorem lw_p16 : lw_okq (⟨"java/util/ArrayList", "grow", "()[Ljava/lang/Object;"⟩, 3) := ⟨⟨by decide +kernel, by decide +kernel⟩, List.mem_of_getElem? (i := 41) (by decide +kernel), List.mem_of_getElem? (i := 515) (by decide +kernel), List.mem_of_getElem? (i := 516) (by decide +kernel)⟩
theorem lw_p17 : lw_okq (⟨"java/util/ArrayList", "grow", "(I)[Ljava/lang/Object;"⟩, 3) := ⟨⟨by decide +kernel, by decide +kernel⟩, List.mem_of_getElem? (i := 41) (by decide +kernel), List.mem_of_getElem? (i := 519) (by decide +kernel), List.mem_of_getElem? (i := 520) (by decide +kernel)⟩
theorem lw_p18 : lw_okq (⟨"java/util/ArrayList", "rangeCheckForAdd", "(I)V"⟩, 3) := ⟨⟨by decide +kernel, by decide +kernel⟩, List.mem_of_getElem? (i := 41) (by decide +kernel), List.mem_of_getElem? (i := 571) (by decide +kernel), List.mem_of_getElem? (i := 572) (by decide +kernel)⟩
theorem lw_p19 : lw_okq (⟨"java/util/ArrayList", "outOfBoundsMsg", "(I)Ljava/lang/String;"⟩, 3) := ⟨⟨by decide +kernel, by decide +kernel⟩, List.mem_of_getElem? (i := 41) (by decide +kernel), List.mem_of_getElem? (i := 584) (by decide +kernel), List.mem_of_getElem? (i := 585) (by decide +kernel)⟩
theorem lw_p20 : lw_okq (⟨"ThumbnailRow", "madeShot", "(I)LThumbnailRow$Shot;"⟩, 6) := ⟨⟨by decide +kernel, by decide +kernel⟩, List.mem_of_getElem? (i := 33) (by decide +kernel), List.mem_of_getElem? (i := 834) (by decide +kernel), List.mem_of_getElem? (i := 835) (by decide +kernel)⟩
theorem lw_p21 : lw_okq (⟨"ThumbnailRow", "placeInReel", "(LThumbnailRow$Shot;)I"⟩, 6) := ⟨⟨by decide +kernel, by decide +kernel⟩, List.mem_of_getElem? (i := 33) (by decide +kernel), List.mem_of_getElem? (i := 841) (by decide +kernel), List.mem_of_getElem? (i := 842) (by decide +kernel)⟩
theorem lw_p22 : lw_okq (⟨"java/util/ArrayList", "fastRemove", "([Ljava/lang/Object;I)V"⟩, 3) := ⟨⟨by decide +kernel, by decide +kernel⟩, List.mem_of_getElem? (i := 41) (by decide +kernel), List.mem_of_getElem? (i := 850) (by decide +kernel), List.mem_of_getElem? (i := 851) (by decide +kernel)⟩
theorem lw_p23 : lw_okq (⟨"ThumbnailRow", "foundPlace", "(LThumbnailRow$Shot;)I"⟩, 6) := ⟨⟨by decide +kernel, by decide +kernel⟩, List.mem_of_getElem? (i := 33) (by decide +kernel), List.mem_of_getElem? (i := 892) (by decide +kernel), List.mem_of_getElem? (i := 893) (by decide +kernel)⟩
theorem lw_p24 : lw_okq (⟨"ThumbnailRow", "checkInReel", "(LThumbnailRow$Shot;)V"⟩, 6) := ⟨⟨by decide +kernel, by decide +kernel⟩, List.mem_of_getElem? (i := 33) (by decide +kernel), List.mem_of_getElem? (i := 903) (by decide +kernel), List.mem_of_getElem? (i := 904) (by decide +kernel)⟩
theorem lw_p25 : lw_okq (⟨"ThumbnailRow", "shotForEdge", "(IIC)LThumbnailRow$Shot;"⟩, 6) := ⟨⟨by decide +kernel, by decide +kernel⟩, List.mem_of_getElem? (i := 33) (by decide +kernel), List.mem_of_getElem? (i := 953) (by decide +kernel), List.mem_of_getElem? (i := 954) (by decide +kernel)⟩
theorem lw_p26 : lw_okq (⟨"ThumbnailRow", "foundNumber", "(LThumbnailRow$Shot;)I"⟩, 6) := ⟨⟨by decide +kernel, by decide +kernel⟩, List.mem_of_getElem? (i := 33) (by decide +kernel), List.mem_of_getElem? (i := 1007) (by decide +kernel), List.mem_of_getElem? (i := 1008) (by decide +kernel)⟩
theorem lw_p27 : lw_okq (⟨"ThumbnailRow", "checkCut", "(I)V"⟩, 6) := ⟨⟨by decide +kernel, by decide +kernel⟩, List.mem_of_getElem? (i := 33) (by decide +kernel), List.mem_of_getElem? (i := 1034) (by decide +kernel), List.mem_of_getElem? (i := 1035) (by decide +kernel)⟩
theorem lw_p28 : lw_okq (⟨"ThumbnailRow", "boardsWith", "(I)I"⟩, 6) := ⟨⟨by decide +kernel, by decide +kernel⟩, List.mem_of_getElem? (i := 33) (by decide +kernel), List.mem_of_getElem? (i := 1067) (by decide +kernel), List.mem_of_getElem? (i := 1068) (by decide +kernel)⟩
theorem lw_p29 : lw_okq (⟨"ThumbnailRow", "madeNote", "(I)LThumbnailRow$Note;"⟩, 6) := ⟨⟨by decide +kernel, by decide +kernel⟩, List.mem_of_getElem? (i := 33) (by decide +kernel), List.mem_of_getElem? (i := 1119) (by decide +kernel), List.mem_of_getElem? (i := 1120) (by decide +kernel)⟩
theorem lw_p30 : lw_okq (⟨"ThumbnailRow", "checkShortReel", "()V"⟩, 6) := ⟨⟨by decide +kernel, by decide +kernel⟩, List.mem_of_getElem? (i := 33) (by decide +kernel), List.mem_of_getElem? (i := 1161) (by decide +kernel), List.mem_of_getElem? (i := 1162) (by decide +kernel)⟩
theorem lw_p31 : lw_okq (⟨"ThumbnailRow$Orders", "goodEndingWith", "(II)I"⟩, 4) := ⟨⟨by decide +kernel, by decide +kernel⟩, List.mem_of_getElem? (i := 67) (by decide +kernel), List.mem_of_getElem? (i := 1182) (by decide +kernel), List.mem_of_getElem? (i := 1183) (by decide +kernel)⟩
def lw_privs_2 : List (MethodName × Nat) := [(⟨"java/util/ArrayList", "grow", "()[Ljava/lang/Object;"⟩, 3), (⟨"java/util/ArrayList", "grow", "(I)[Ljava/lang/Object;"⟩, 3), (⟨"java/util/ArrayList", "rangeCheckForAdd", "(I)V"⟩, 3), (⟨"java/util/ArrayList", "outOfBoundsMsg", "(I)Ljava/lang/String;"⟩, 3), (⟨"ThumbnailRow", "madeShot", "(I)LThumbnailRow$Shot;"⟩, 6), (⟨"ThumbnailRow", "placeInReel", "(LThumbnailRow$Shot;)I"⟩, 6), (⟨"java/util/ArrayList", "fastRemove", "([Ljava/lang/Object;I)V"⟩, 3), (⟨"ThumbnailRow", "foundPlace", "(LThumbnailRow$Shot;)I"⟩, 6), (⟨"ThumbnailRow", "checkInReel", "(LThumbnailRow$Shot;)V"⟩, 6), (⟨"ThumbnailRow", "shotForEdge", "(IIC)LThumbnailRow$Shot;"⟩, 6), (⟨"ThumbnailRow", "foundNumber", "(LThumbnailRow$Shot;)I"⟩, 6), (⟨"ThumbnailRow", "checkCut", "(I)V"⟩, 6), (⟨"ThumbnailRow", "boardsWith", "(I)I"⟩, 6), (⟨"ThumbnailRow", "madeNote", "(I)LThumbnailRow$Note;"⟩, 6), (⟨"ThumbnailRow", "checkShortReel", "()V"⟩, 6), (⟨"ThumbnailRow$Orders", "goodEndingWith", "(II)I"⟩, 4)]
theorem lw_r2 : ∀ q ∈ lw_privs_2, lw_okq q := List.forall_mem_cons.mpr ⟨lw_p16, List.forall_mem_cons.mpr ⟨lw_p17, List.forall_mem_cons.mpr ⟨lw_p18, List.forall_mem_cons.mpr ⟨lw_p19, List.forall_mem_cons.mpr ⟨lw_p20, List.forall_mem_cons.mpr ⟨lw_p21, List.forall_mem_cons.mpr ⟨lw_p22, List.forall_mem_cons.mpr ⟨lw_p23, List.forall_mem_cons.mpr ⟨lw_p24, List.forall_mem_cons.mpr ⟨lw_p25, List.forall_mem_cons.mpr ⟨lw_p26, List.forall_mem_cons.mpr ⟨lw_p27, List.forall_mem_cons.mpr ⟨lw_p28, List.forall_mem_cons.mpr ⟨lw_p29, List.forall_mem_cons.mpr ⟨lw_p30, List.forall_mem_cons.mpr ⟨lw_p31, fun _ h => absurd h List.not_mem_nil⟩⟩⟩⟩⟩⟩⟩⟩⟩⟩⟩⟩⟩⟩⟩⟩
theorem lw_p32 : lw_okq (⟨"ThumbnailRow$Orders", "leastEndingWith", "(II)I"⟩, 4) := ⟨⟨by decide +kernel, by decide +kernel⟩, List.mem_of_getElem? (i := 67) (by decide +kernel), List.mem_of_getElem? (i := 1186) (by decide +kernel), List.mem_of_getElem? (i := 1187) (by decide +kernel)⟩
theorem lw_p33 : lw_okq (⟨"ThumbnailRowModel", "fails", "(I)Z"⟩, 30) := ⟨⟨by decide +kernel, by decide +kernel⟩, List.mem_of_getElem? (i := 1221) (by decide +kernel), List.mem_of_getElem? (i := 1332) (by decide +kernel), List.mem_of_getElem? (i := 1333) (by decide +kernel)⟩
theorem lw_p34 : lw_okq (⟨"ThumbnailRowModel", "freeLetter", "(I)C"⟩, 30) := ⟨⟨by decide +kernel, by decide +kernel⟩, List.mem_of_getElem? (i := 1221) (by decide +kernel), List.mem_of_getElem? (i := 1336) (by decide +kernel), List.mem_of_getElem? (i := 1337) (by decide +kernel)⟩
theorem lw_p35 : lw_okq (⟨"ThumbnailRowModel", "putIn", "(II)V"⟩, 30) := ⟨⟨by decide +kernel, by decide +kernel⟩, List.mem_of_getElem? (i := 1221) (by decide +kernel), List.mem_of_getElem? (i := 1340) (by decide +kernel), List.mem_of_getElem? (i := 1341) (by decide +kernel)⟩
theorem lw_p36 : lw_okq (⟨"ThumbnailRowModel", "isShot", "(I)Z"⟩, 30) := ⟨⟨by decide +kernel, by decide +kernel⟩, List.mem_of_getElem? (i := 1221) (by decide +kernel), List.mem_of_getElem? (i := 1348) (by decide +kernel), List.mem_of_getElem? (i := 1349) (by decide +kernel)⟩
theorem lw_p37 : lw_okq (⟨"ThumbnailRowModel", "placeOf", "(I)I"⟩, 30) := ⟨⟨by decide +kernel, by decide +kernel⟩, List.mem_of_getElem? (i := 1221) (by decide +kernel), List.mem_of_getElem? (i := 1352) (by decide +kernel), List.mem_of_getElem? (i := 1353) (by decide +kernel)⟩
theorem lw_p38 : lw_okq (⟨"ThumbnailRowModel", "takeOut", "(I)V"⟩, 30) := ⟨⟨by decide +kernel, by decide +kernel⟩, List.mem_of_getElem? (i := 1221) (by decide +kernel), List.mem_of_getElem? (i := 1356) (by decide +kernel), List.mem_of_getElem? (i := 1357) (by decide +kernel)⟩
theorem lw_p39 : lw_okq (⟨"ThumbnailRowModel", "change", "(IZ)V"⟩, 30) := ⟨⟨by decide +kernel, by decide +kernel⟩, List.mem_of_getElem? (i := 1221) (by decide +kernel), List.mem_of_getElem? (i := 1380) (by decide +kernel), List.mem_of_getElem? (i := 1381) (by decide +kernel)⟩
theorem lw_p40 : lw_okq (⟨"ThumbnailRowModel", "countIn", "(I)I"⟩, 30) := ⟨⟨by decide +kernel, by decide +kernel⟩, List.mem_of_getElem? (i := 1221) (by decide +kernel), List.mem_of_getElem? (i := 1395) (by decide +kernel), List.mem_of_getElem? (i := 1396) (by decide +kernel)⟩
theorem lw_p41 : lw_okq (⟨"ThumbnailRowModel", "noEdge", "(IIC)I"⟩, 30) := ⟨⟨by decide +kernel, by decide +kernel⟩, List.mem_of_getElem? (i := 1221) (by decide +kernel), List.mem_of_getElem? (i := 1403) (by decide +kernel), List.mem_of_getElem? (i := 1404) (by decide +kernel)⟩
theorem lw_p42 : lw_okq (⟨"ThumbnailRowModel", "begins", "(I)I"⟩, 30) := ⟨⟨by decide +kernel, by decide +kernel⟩, List.mem_of_getElem? (i := 1221) (by decide +kernel), List.mem_of_getElem? (i := 1422) (by decide +kernel), List.mem_of_getElem? (i := 1423) (by decide +kernel)⟩
theorem lw_p43 : lw_okq (⟨"ThumbnailRowModel", "hasName", "(I)Z"⟩, 30) := ⟨⟨by decide +kernel, by decide +kernel⟩, List.mem_of_getElem? (i := 1221) (by decide +kernel), List.mem_of_getElem? (i := 1442) (by decide +kernel), List.mem_of_getElem? (i := 1443) (by decide +kernel)⟩
theorem lw_p44 : lw_okq (⟨"ThumbnailRowModel", "numberOf", "(I)I"⟩, 30) := ⟨⟨by decide +kernel, by decide +kernel⟩, List.mem_of_getElem? (i := 1221) (by decide +kernel), List.mem_of_getElem? (i := 1446) (by decide +kernel), List.mem_of_getElem? (i := 1447) (by decide +kernel)⟩
theorem lw_p45 : lw_okq (⟨"ThumbnailRowModel", "wrongWith", "(II)C"⟩, 30) := ⟨⟨by decide +kernel, by decide +kernel⟩, List.mem_of_getElem? (i := 1221) (by decide +kernel), List.mem_of_getElem? (i := 1462) (by decide +kernel), List.mem_of_getElem? (i := 1463) (by decide +kernel)⟩
theorem lw_p46 : lw_okq (⟨"ThumbnailRowModel", "areSame", "(II)Z"⟩, 30) := ⟨⟨by decide +kernel, by decide +kernel⟩, List.mem_of_getElem? (i := 1221) (by decide +kernel), List.mem_of_getElem? (i := 1466) (by decide +kernel), List.mem_of_getElem? (i := 1467) (by decide +kernel)⟩
theorem lw_p47 : lw_okq (⟨"ThumbnailRowModel", "isIn", "(II)Z"⟩, 30) := ⟨⟨by decide +kernel, by decide +kernel⟩, List.mem_of_getElem? (i := 1221) (by decide +kernel), List.mem_of_getElem? (i := 1470) (by decide +kernel), List.mem_of_getElem? (i := 1471) (by decide +kernel)⟩
def lw_privs_3 : List (MethodName × Nat) := [(⟨"ThumbnailRow$Orders", "leastEndingWith", "(II)I"⟩, 4), (⟨"ThumbnailRowModel", "fails", "(I)Z"⟩, 30), (⟨"ThumbnailRowModel", "freeLetter", "(I)C"⟩, 30), (⟨"ThumbnailRowModel", "putIn", "(II)V"⟩, 30), (⟨"ThumbnailRowModel", "isShot", "(I)Z"⟩, 30), (⟨"ThumbnailRowModel", "placeOf", "(I)I"⟩, 30), (⟨"ThumbnailRowModel", "takeOut", "(I)V"⟩, 30), (⟨"ThumbnailRowModel", "change", "(IZ)V"⟩, 30), (⟨"ThumbnailRowModel", "countIn", "(I)I"⟩, 30), (⟨"ThumbnailRowModel", "noEdge", "(IIC)I"⟩, 30), (⟨"ThumbnailRowModel", "begins", "(I)I"⟩, 30), (⟨"ThumbnailRowModel", "hasName", "(I)Z"⟩, 30), (⟨"ThumbnailRowModel", "numberOf", "(I)I"⟩, 30), (⟨"ThumbnailRowModel", "wrongWith", "(II)C"⟩, 30), (⟨"ThumbnailRowModel", "areSame", "(II)Z"⟩, 30), (⟨"ThumbnailRowModel", "isIn", "(II)Z"⟩, 30)]
theorem lw_r3 : ∀ q ∈ lw_privs_3, lw_okq q := List.forall_mem_cons.mpr ⟨lw_p32, List.forall_mem_cons.mpr ⟨lw_p33, List.forall_mem_cons.mpr ⟨lw_p34, List.forall_mem_cons.mpr ⟨lw_p35, List.forall_mem_cons.mpr ⟨lw_p36, List.forall_mem_cons.mpr ⟨lw_p37, List.forall_mem_cons.mpr ⟨lw_p38, List.forall_mem_cons.mpr ⟨lw_p39, List.forall_mem_cons.mpr ⟨lw_p40, List.forall_mem_cons.mpr ⟨lw_p41, List.forall_mem_cons.mpr ⟨lw_p42, List.forall_mem_cons.mpr ⟨lw_p43, List.forall_mem_cons.mpr ⟨lw_p44, List.forall_mem_cons.mpr ⟨lw_p45, List.forall_mem_cons.mpr ⟨lw_p46, List.forall_mem_cons.mpr ⟨lw_p47, fun _ h => absurd h List.not_mem_nil⟩⟩⟩⟩⟩⟩⟩⟩⟩⟩⟩⟩⟩⟩⟩⟩
theorem lw_p48 : lw_okq (⟨"ThumbnailRowModel", "areBadGazes", "(II)Z"⟩, 30) := ⟨⟨by decide +kernel, by decide +kernel⟩, List.mem_of_getElem? (i := 1221) (by decide +kernel), List.mem_of_getElem? (i := 1474) (by decide +kernel), List.mem_of_getElem? (i := 1475) (by decide +kernel)⟩
theorem lw_p49 : lw_okq (⟨"ThumbnailRowModel", "alone", "(I)I"⟩, 30) := ⟨⟨by decide +kernel, by decide +kernel⟩, List.mem_of_getElem? (i := 1221) (by decide +kernel), List.mem_of_getElem? (i := 1478) (by decide +kernel), List.mem_of_getElem? (i := 1479) (by decide +kernel)⟩
theorem lw_p50 : lw_okq (⟨"ThumbnailRowModel", "isBadEdge", "(II)Z"⟩, 30) := ⟨⟨by decide +kernel, by decide +kernel⟩, List.mem_of_getElem? (i := 1221) (by decide +kernel), List.mem_of_getElem? (i := 1485) (by decide +kernel), List.mem_of_getElem? (i := 1486) (by decide +kernel)⟩
theorem lw_p51 : lw_okq (⟨"ThumbnailRowModel", "isJump", "(II)Z"⟩, 30) := ⟨⟨by decide +kernel, by decide +kernel⟩, List.mem_of_getElem? (i := 1221) (by decide +kernel), List.mem_of_getElem? (i := 1489) (by decide +kernel), List.mem_of_getElem? (i := 1490) (by decide +kernel)⟩
theorem lw_p52 : lw_okq (⟨"ThumbnailRowModel", "excuseAt", "(I)C"⟩, 30) := ⟨⟨by decide +kernel, by decide +kernel⟩, List.mem_of_getElem? (i := 1221) (by decide +kernel), List.mem_of_getElem? (i := 1500) (by decide +kernel), List.mem_of_getElem? (i := 1501) (by decide +kernel)⟩
theorem lw_p53 : lw_okq (⟨"ThumbnailRowModel", "isBrokenAt", "(I)Z"⟩, 30) := ⟨⟨by decide +kernel, by decide +kernel⟩, List.mem_of_getElem? (i := 1221) (by decide +kernel), List.mem_of_getElem? (i := 1508) (by decide +kernel), List.mem_of_getElem? (i := 1509) (by decide +kernel)⟩
theorem lw_p54 : lw_okq (⟨"ThumbnailRowModel", "countBroken", "()I"⟩, 30) := ⟨⟨by decide +kernel, by decide +kernel⟩, List.mem_of_getElem? (i := 1221) (by decide +kernel), List.mem_of_getElem? (i := 1516) (by decide +kernel), List.mem_of_getElem? (i := 1517) (by decide +kernel)⟩
theorem lw_p55 : lw_okq (⟨"ThumbnailRowModel", "isNote", "(I)Z"⟩, 30) := ⟨⟨by decide +kernel, by decide +kernel⟩, List.mem_of_getElem? (i := 1221) (by decide +kernel), List.mem_of_getElem? (i := 1544) (by decide +kernel), List.mem_of_getElem? (i := 1545) (by decide +kernel)⟩
theorem lw_p56 : lw_okq (⟨"ThumbnailRowModel", "isNow", "(I)C"⟩, 30) := ⟨⟨by decide +kernel, by decide +kernel⟩, List.mem_of_getElem? (i := 1221) (by decide +kernel), List.mem_of_getElem? (i := 1548) (by decide +kernel), List.mem_of_getElem? (i := 1549) (by decide +kernel)⟩
theorem lw_p57 : lw_okq (⟨"ThumbnailRowModel", "countSetups", "(Z)I"⟩, 30) := ⟨⟨by decide +kernel, by decide +kernel⟩, List.mem_of_getElem? (i := 1221) (by decide +kernel), List.mem_of_getElem? (i := 1572) (by decide +kernel), List.mem_of_getElem? (i := 1573) (by decide +kernel)⟩
theorem lw_p58 : lw_okq (⟨"ThumbnailRowModel", "goThrough", "(Z)I"⟩, 30) := ⟨⟨by decide +kernel, by decide +kernel⟩, List.mem_of_getElem? (i := 1221) (by decide +kernel), List.mem_of_getElem? (i := 1588) (by decide +kernel), List.mem_of_getElem? (i := 1589) (by decide +kernel)⟩
theorem lw_p59 : lw_okq (⟨"ThumbnailRowModel", "countWrong", "()I"⟩, 30) := ⟨⟨by decide +kernel, by decide +kernel⟩, List.mem_of_getElem? (i := 1221) (by decide +kernel), List.mem_of_getElem? (i := 1592) (by decide +kernel), List.mem_of_getElem? (i := 1593) (by decide +kernel)⟩
def lw_privs_4 : List (MethodName × Nat) := [(⟨"ThumbnailRowModel", "areBadGazes", "(II)Z"⟩, 30), (⟨"ThumbnailRowModel", "alone", "(I)I"⟩, 30), (⟨"ThumbnailRowModel", "isBadEdge", "(II)Z"⟩, 30), (⟨"ThumbnailRowModel", "isJump", "(II)Z"⟩, 30), (⟨"ThumbnailRowModel", "excuseAt", "(I)C"⟩, 30), (⟨"ThumbnailRowModel", "isBrokenAt", "(I)Z"⟩, 30), (⟨"ThumbnailRowModel", "countBroken", "()I"⟩, 30), (⟨"ThumbnailRowModel", "isNote", "(I)Z"⟩, 30), (⟨"ThumbnailRowModel", "isNow", "(I)C"⟩, 30), (⟨"ThumbnailRowModel", "countSetups", "(Z)I"⟩, 30), (⟨"ThumbnailRowModel", "goThrough", "(Z)I"⟩, 30), (⟨"ThumbnailRowModel", "countWrong", "()I"⟩, 30)]
theorem lw_r4 : ∀ q ∈ lw_privs_4, lw_okq q := List.forall_mem_cons.mpr ⟨lw_p48, List.forall_mem_cons.mpr ⟨lw_p49, List.forall_mem_cons.mpr ⟨lw_p50, List.forall_mem_cons.mpr ⟨lw_p51, List.forall_mem_cons.mpr ⟨lw_p52, List.forall_mem_cons.mpr ⟨lw_p53, List.forall_mem_cons.mpr ⟨lw_p54, List.forall_mem_cons.mpr ⟨lw_p55, List.forall_mem_cons.mpr ⟨lw_p56, List.forall_mem_cons.mpr ⟨lw_p57, List.forall_mem_cons.mpr ⟨lw_p58, List.forall_mem_cons.mpr ⟨lw_p59, fun _ h => absurd h List.not_mem_nil⟩⟩⟩⟩⟩⟩⟩⟩⟩⟩⟩⟩
def lw_privs : List (MethodName × Nat) := lw_privs_1 ++ (lw_privs_2 ++ (lw_privs_3 ++ (lw_privs_4)))
def lw_tbl : List Cond := k2_sels lw_privs ++ tables_1
theorem lw_privs_ok : ∀ q ∈ lw_privs, lw_okq q := by
  show ∀ q ∈ lw_privs_1 ++ (lw_privs_2 ++ (lw_privs_3 ++ (lw_privs_4))), lw_okq q
  exact List.forall_mem_append.mpr ⟨lw_r1, List.forall_mem_append.mpr ⟨lw_r2, List.forall_mem_append.mpr ⟨lw_r3, lw_r4⟩⟩⟩
/-- the streams that the claim lets the run draw from -/
abbrev lw_cs : List Choice := [Jvm.Choice.named "NaN.bits"]
theorem lw_bits : nanBits ∈ lw_cs := by first | decide | exact List.mem_cons_self | simp [lw_cs, nanBits]
end
section
/-! ===== BEGIN words of one list among another's, by their places ===== -/
theorem goodIn_r {big : List Cond} (ws : List Cond) (ps : List Nat) (hp : ws = ps.filterMap (fun i => big[i]?)) (h : ws.all goodWord = true) : GoodIn big ws := by
  intro w hw
  have h1 := List.all_eq_true.mp h w hw
  rw [hp] at hw
  obtain ⟨i, -, hi⟩ := List.mem_filterMap.mp hw
  have hm : w ∈ big := by first | exact List.mem_of_getElem? hi | exact List.getElem?_mem hi
  exact ⟨hm, good_of_word h1⟩
theorem goodIn_app {big a b : List Cond} (ha : GoodIn big a) (hb : GoodIn big b) : GoodIn big (a ++ b) := fun w h => (List.mem_append.mp h).elim (ha w) (hb w)
theorem goodIn_ca {big a b : List Cond} {c : Cond} (ha : GoodIn big (c :: a)) (hb : GoodIn big b) : GoodIn big (c :: (a ++ b)) := fun w h => (List.mem_cons.mp h).elim (fun e => ha w (List.mem_cons.mpr (Or.inl e))) (fun h => (List.mem_append.mp h).elim (fun h => ha w (List.mem_cons.mpr (Or.inr h))) (hb w))
theorem goodIn_sub {big ws : List Cond} (hm : ∀ w ∈ ws, w ∈ big) (h : ws.all goodWord = true) : GoodIn big ws := fun w hw => ⟨hm w hw, good_of_word (List.all_eq_true.mp h w hw)⟩
/-! ===== END ===== -/

/-! ===== BEGIN exceptions that leave a method, and their catching by the caller (launches without stack traces) ===== -/
section VXA
/-! The laws vx_back, vx_callV, vx_callS, vx_callSW, vx_throw0, vx_throwS follow proofs of the library, with one case more: JvmDerived/Free/Laws.lean (Back.of_free), Shelf42/LK1.lean (callV, callS), Shelf/KitTraced.lean (throwNew0V, throwNewS). -/
/-- where a method has thrown q: the class by its name, the cell, what was written, the world -/
def vx_T (XC : String → State → State → Prop) (st : State) (q : Addr) (t : State) (mc ms : Nat) (free : Addr → Prop) : Prop :=
  ∃ (E : String) (ce : Cell) (L : List Loc), XC E st t ∧ t.heap[q]? = some ce ∧ ce.vm = .none ∧ st.vm.findClass E = some ce.cls ∧ st.WarmedH t.vm ∧ st.sameButNew ({ t with vm := st.vm } : State) L mc ms ∧ ∀ z ∈ L, free z.base
def vx_Q (Qc : Array Value → State → Outcome → State → Prop) (XC : String → State → State → Prop) (mc ms : Nat) (free : Addr → Prop) : Array Value → State → Outcome → State → Prop := fun a st o t =>
  (Qc a st o t ∧ ∃ L, FrameEnd st o t L mc ms ∧ ∀ q ∈ L, free q.base) ∨ ∃ q, o = .threw q ∧ vx_T XC st q t mc ms free
/-- a callee that returns or throws -/
def vx_Met (l : Launch) (y : MethodName) (ws : List Cond) (rm : Room) (Pc : Array Value → State → Prop) (Qc : Array Value → State → Outcome → State → Prop) (XC : String → State → State → Prop) (mc ms : Nat) (free : Addr → Prop) : Prop :=
  MetFree l y (headSpec ws rm) Pc (fun _ _ _ _ _ => True) (vx_Q Qc XC mc ms free)
def vx_Post (XC : String → State → State → Prop) (mc ms : Nat) (free : Addr → Prop) : Pt → Array Value → Addr → Pt → Prop := fun A a q B =>
  ∃ (g : JFrame) (mk : MethodId) (t : State) (L : List Loc) (E : String) (ce : Cell), B.U.heap = t.heap ∧ B.U.vm = t.vm ∧ XC E (A.U.calling g mk a) t ∧ t.heap[q]? = some ce ∧ ce.vm = .none ∧ A.U.vm.findClass E = some ce.cls ∧ B.locs = A.locs ++ L ∧ (∀ z ∈ L, free z.base) ∧ B.cells = A.cells + mc ∧ B.slots = A.slots + ms
def vx_Back (l : Launch) (R : Room) (p : Program) (e : Env) (below : List Frame) (s : State) (sargs : Array Value) (y : MethodName) (len W9 : Nat)
    (Pre : Pt → Array Value → Prop) (Post : Pt → Array Value → Option Value → Pt → Prop) (PostX : Pt → Array Value → Addr → Pt → Prop) : Prop :=
  ∀ (m : MethodId) (meth : Method) (c : Code) (A : Pt) (g : JFrame) (ig : Instr) (mk : MethodId) (a : Array Value),
    Stand p l e R s m sargs below meth c A.U A.locs A.cells A.slots → g.method = m → g.locals.size = c.maxLocals → decode c.code g.pc = .ok (ig, len) →
    2 * g.monitorRoom + (g.stack.map fun v => v.category).sum ≤ W9 → A.U.methodNamed? y = some mk → Pre A a →
    (∃ (v : Option Value) (B : Pt), Stand p l e R s m sargs below meth c B.U B.locs B.cells B.slots ∧ Post A a v B ∧
      Steps p.tables e below (doInvoke e (A.U.setTop g) [] mk a).1 (B.U.setTop { g with pc := g.pc + len, stack := v.toList ++ g.stack })) ∨
    (∃ (q : Addr) (B : Pt), Stand p l e R s m sargs below meth c B.U B.locs B.cells B.slots ∧ PostX A a q B ∧
      Steps p.tables e below (doInvoke e (A.U.setTop g) [] mk a).1 ((B.U.setTop g).pushFrame (.throwing q)))
section Payer
variable {l : Launch} {R : Room} {p : Program} {e : Env} {below : List Frame} {s : State} {sargs : Array Value} {y : MethodName} {len W9 : Nat}
theorem vx_back {ws : List Cond} {rm : Room} {Pc : Array Value → State → Prop} {Qc : Array Value → State → Outcome → State → Prop} {XC : String → State → State → Prop} {mc ms : Nat} {free : Addr → Prop} {bytes : ByteArray} {maxL : Nat} {ret : Option FieldType}
    (hM : vx_Met l y ws rm Pc Qc XC mc ms free) (hblind : FrameBlind Pc) (hrc : rm.cells = mc) (hrs : rm.slots = ms)
    (hframes : rm.frames + 1 ≤ R.frames) (hlocals : W9 + (maxL + 11) + rm.locals ≤ R.locals)
    (hws : ∀ w ∈ ws, ∀ a' U, s.WarmedH U.vm → w.before a' U = true) (hcode : Cond.code y bytes maxL ret ∈ ws) (hinit : ∀ a' U, s.WarmedH U.vm → (Cond.initialized y.cls).before a' U = true) :
    vx_Back l R p e below s sargs y len W9 (PreOf R mc ms Pc) (PostOf Qc mc ms free) (vx_Post XC mc ms free) := by
  intro m meth c A g ig mk a X hg hsize hdg hW hn hp
  have h1 : (headSpec ws rm).pre.before a A.U = true := atoms_intro fun w hw => hws w hw _ _ X.warmed
  have h2 : (Cond.code y bytes maxL ret).before a A.U = true := hws _ hcode _ _ X.warmed
  have h3 : (Cond.initialized y.cls).before a A.U = true := hinit _ _ X.warmed
  have h4 : A.cells + (headSpec ws rm).room.cells ≤ R.cells := by rw [show (headSpec ws rm).room.cells = mc from hrc]; exact hp.1
  have h5 : A.slots + (headSpec ws rm).room.slots ≤ R.slots := by rw [show (headSpec ws rm).room.slots = ms from hrs]; exact hp.2.1
  have hPc : Pc a (A.U.calling g mk a) := hblind _ _ _ _ hp.2.2
  obtain ⟨U, Ls, c0, s0⟩ := A
  dsimp only [Pt.U, Pt.locs, Pt.cells, Pt.slots] at h1 h2 h3 h4 h5 X hn hPc ⊢
  obtain ⟨methY, cY, hmY, hcY, -, hlY, -, -, -, -⟩ := Cond.code_spec hn h2
  obtain ⟨kY, hkY, -⟩ := className_of_methodNamed hn
  have hinitY : kY.init = .initialized := Cond.initialized_spec (findClass_of_methodNamed hn) hkY h3
  have h : At U g.method c below := by rw [hg]; exact X.here
  have hlocals9 : W9 + (maxL + 11) + (headSpec ws rm).room.locals ≤ R.locals := hlocals
  have happ : (headSpec ws rm).appliesLoose y e.platform (U.calling g mk a) = true :=
    Spec.appliesLoose_calling (g := g) h hdg hn hkY hinitY
      (X.room_calling (g := g) (R' := (headSpec ws rm).room) hsize hmY hcY hframes (by rw [hlY]; omega) h4 h5) h1
  obtain ⟨mid, hmid⟩ := h.above
  have hfr : (U.setTop g).frames = (.java g :: mid) ++ below := by rw [State.frames_setTop' g h.top, hmid]; rfl
  obtain ⟨o, s₂, hsteps, -, hend, hq⟩ := Steps.callFree hM p X.admits X.cas X.clock (acts := []) hfr happ hPc trivial
  have hq' : vx_Q Qc XC mc ms free a (U.calling g mk a) o s₂ := hq
  rw [State.frames_setTop' g h.top] at hend
  obtain ⟨g₀, hg0⟩ := Option.isSome_iff_exists.mp h.top
  obtain ⟨r, hr⟩ := State.topJava?_eq_some.mp hg0
  have hr' : (({ U with heap := s₂.heap, slotsUsed := s₂.slotsUsed } : State).setVm s₂.vm).frames = .java g₀ :: r := hr
  rcases hq' with ⟨hqc, L, hfe, hL⟩ | ⟨q, rfl, E, ce, L, hx, hce, hcv, hcl, hW₂, hsm, hL⟩
  · obtain ⟨⟨v, rfl⟩, hW₂, e2, q2, q3, q4, q5, q6⟩ := id hfe
    have e3 : s₂ = ({ (U.calling g mk a).setFrames s₂.frames with heap := s₂.heap, slotsUsed := s₂.slotsUsed } : State).setVm s₂.vm := by
      have : s₂ = ({ s₂ with vm := (U.calling g mk a).vm } : State).setVm s₂.vm := rfl
      rw [e2] at this
      exact this
    obtain ⟨c₂, i₂, len₂, hc₂, hd₂, hf₂⟩ := hend
    have hW' : U.WarmedH s₂.vm := hW₂
    have hcc : c₂ = c := by
      have h1 : s₂.code? g.method = U.code? g.method := by
        rw [State.code?_eq, State.code?_eq, hW'.alike.method?]
      exact Option.some.inj (hc₂.symm.trans (h1.trans h.code))
    subst hcc
    have hlen : len₂ = len := by rw [hdg] at hd₂; cases hd₂; rfl
    subst hlen
    have hs₂ : s₂ = (({ U with heap := s₂.heap, slotsUsed := s₂.slotsUsed } : State).setVm s₂.vm).setTop { g with pc := g.pc + len₂, stack := v.toList ++ g.stack } := by
      refine e3.trans ?_
      rw [hf₂, State.calling_eq h.top, State.setFrames_setFrames, State.setTop_of_frames _ hr', hr]
      rfl
    have hsame : U.sameButNew ({ U with heap := s₂.heap, slotsUsed := s₂.slotsUsed } : State) L mc ms := by
      refine ⟨?_, q2, q3, q4, q5, q6⟩
      obtain ⟨t, ht, -⟩ := State.frames_cons hr
      show ({ U with heap := s₂.heap, slotsUsed := s₂.slotsUsed } : State) = { U.setFrames U.frames with heap := s₂.heap, slotsUsed := s₂.slotsUsed }
      rw [State.setFrames_self ht]
    subst hg
    refine Or.inl ⟨v, ⟨(({ U with heap := s₂.heap, slotsUsed := s₂.slotsUsed } : State).setVm s₂.vm), Ls ++ L, c0 + mc, s0 + ms⟩,
      ⟨X.admits, X.cas, X.clock, X.frames, X.room, X.hears, X.method, X.code, (X.here.setHeapUsed s₂.heap s₂.slotsUsed).setVm hW'.alike, X.tail, State.WarmedH.trans X.warmed hW', X.limits, X.bytes, X.same.trans (hsame.setVm s.vm)⟩,
      ⟨g, mk, s₂, L, rfl, rfl, hqc, rfl, hL, rfl, rfl⟩, ?_⟩
    show Steps p.tables e below _ ((({ U with heap := s₂.heap, slotsUsed := s₂.slotsUsed } : State).setVm s₂.vm).setTop { g with pc := g.pc + len₂, stack := v.toList ++ g.stack })
    rw [← hs₂]
    exact hsteps
  · obtain ⟨e2, q2, q3, q4, q5, q6⟩ := id hsm
    have e3 : s₂ = ({ (U.calling g mk a).setFrames s₂.frames with heap := s₂.heap, slotsUsed := s₂.slotsUsed } : State).setVm s₂.vm := by
      have : s₂ = ({ s₂ with vm := (U.calling g mk a).vm } : State).setVm s₂.vm := rfl
      rw [e2] at this
      exact this
    have hf₂ : s₂.frames = .throwing q :: .java g :: U.frames.tail := hend
    have hW' : U.WarmedH s₂.vm := hW₂
    have hs₂ : s₂ = ((({ U with heap := s₂.heap, slotsUsed := s₂.slotsUsed } : State).setVm s₂.vm).setTop g).pushFrame (.throwing q) := by
      refine e3.trans ?_
      rw [hf₂, State.calling_eq h.top, State.setFrames_setFrames, State.pushFrame, State.frames_setTop _ hr', State.setTop_of_frames _ hr', State.setFrames_setFrames, hr]
      rfl
    have hsame : U.sameButNew ({ U with heap := s₂.heap, slotsUsed := s₂.slotsUsed } : State) L mc ms := by
      refine ⟨?_, q2, q3, q4, q5, q6⟩
      obtain ⟨t, ht, -⟩ := State.frames_cons hr
      show ({ U with heap := s₂.heap, slotsUsed := s₂.slotsUsed } : State) = { U.setFrames U.frames with heap := s₂.heap, slotsUsed := s₂.slotsUsed }
      rw [State.setFrames_self ht]
    subst hg
    refine Or.inr ⟨q, ⟨(({ U with heap := s₂.heap, slotsUsed := s₂.slotsUsed } : State).setVm s₂.vm), Ls ++ L, c0 + mc, s0 + ms⟩,
      ⟨X.admits, X.cas, X.clock, X.frames, X.room, X.hears, X.method, X.code, (X.here.setHeapUsed s₂.heap s₂.slotsUsed).setVm hW'.alike, X.tail, State.WarmedH.trans X.warmed hW', X.limits, X.bytes, X.same.trans (hsame.setVm s.vm)⟩,
      ⟨g, mk, s₂, L, E, ce, rfl, rfl, hx, hce, hcv, hcl, rfl, hL, rfl, rfl⟩, ?_⟩
    show Steps p.tables e below _ (((({ U with heap := s₂.heap, slotsUsed := s₂.slotsUsed } : State).setVm s₂.vm).setTop g).pushFrame (.throwing q))
    rw [← hs₂]
    exact hsteps
end Payer
section Calls
variable {p : Program} {l : Launch} {e : Env} {R : Room} {s : State} {m : MethodId} {args : Array Value} {below : List Frame} {meth : Method} {c : Code} {T : State} {locs : List Loc} {cells slots : Nat}
theorem vx_callV (X : Stand p l e R s m args below meth c T locs cells slots) (hexec : p.tables.exec = Jvm.exec) {own C : String} {index : Nat} {y : MethodName} {bytes : ByteArray} {maxL : Nat} {ret : Option FieldType}
    (hown : s.vm.findClass own = some m.cls) (hlink : (Cond.methodLink own index y).before args s = true) (hinst : (Cond.instanceMethod y).before args s = true) (hsel : (Cond.selects C y y).before args s = true)
    (hcode : (Cond.code y bytes maxL ret).before args s = true) (hy : y.cls ≠ "java/lang/invoke/MethodHandle" ∧ y.cls ≠ "java/lang/invoke/VarHandle")
    {W9 : Nat} {Pre : Pt → Array Value → Prop} {Post : Pt → Array Value → Option Value → Pt → Prop} {PostX : Pt → Array Value → Addr → Pt → Prop} (hK : vx_Back l R p e below s args y 3 W9 Pre Post PostX)
    {b : Addr} {cellB : Cell} (hcell : T.heap[b]? = some cellB) (hobj : cellB.vm.isStatics = false) (hcls : s.vm.findClass C = some cellB.cls)
    {g : JFrame} (hg : g.method = m) (hsize : g.locals.size = c.maxLocals) {argsL rest : List Value} (hlen : ∀ sig, parseMethodDescriptor y.desc = some sig → argsL.length = sig.parameters.length)
    (hstack : g.stack = argsL.reverse ++ .ref b :: rest) (hW : 2 * g.monitorRoom + (rest.map fun v => v.category).sum ≤ W9) (hdg : decode c.code g.pc = .ok (.invokevirtual index, 3))
    (hpre : ∀ vm₁, s.WarmedH vm₁ → Pre ⟨T.setVm vm₁, locs, cells, slots⟩ (Value.ref b :: argsL).toArray) :
    (∃ (v : Option Value) (vm₁ : Vm) (B : Pt), s.WarmedH vm₁ ∧ Stand p l e R s m args below meth c B.U B.locs B.cells B.slots ∧ Post ⟨T.setVm vm₁, locs, cells, slots⟩ (Value.ref b :: argsL).toArray v B ∧
      ∀ target, Steps p.tables e below (B.U.setTop { g with pc := g.pc + 3, stack := v.toList ++ rest }) target → Steps p.tables e below (T.setTop g) target) ∨
    (∃ (q : Addr) (vm₁ : Vm) (B : Pt), s.WarmedH vm₁ ∧ Stand p l e R s m args below meth c B.U B.locs B.cells B.slots ∧ PostX ⟨T.setVm vm₁, locs, cells, slots⟩ (Value.ref b :: argsL).toArray q B ∧
      Steps p.tables e below (T.setTop g) ((B.U.setTop { g with stack := rest }).pushFrame (.throwing q))) := by
  obtain ⟨mk, methM, hnamed, hmethM, hstM, habM⟩ := Cond.instanceMethod_spec hinst
  obtain ⟨methM', cM, hmethM', -, -, -, -, -, -, hsigM⟩ := Cond.code_spec hnamed hcode
  cases hmethM.symm.trans hmethM'
  obtain ⟨c2, r2, m2, q1, q2, q3, q4, kP, hkP, hkPi⟩ := Cond.selects_spec hsel
  cases hcls.symm.trans q1
  cases (State.methodFound?_of_named hnamed hy).symm.trans q2
  cases hnamed.symm.trans q3
  have hselP : selectMethod e.platform s.vm cellB.cls mk = .method mk := by rw [Launch.admits_selectMethod X.admits]; exact q4
  obtain ⟨vm₁, X₁, hstep₁⟩ := X.invokevirtual hexec hown hlink hnamed hmethM hstM hkP hkPi hy (a := b) (cell := cellB) hcell
    (fun z h => by rw [h] at hobj; cases hobj) hselP hmethM habM hkP hkPi (g := g) hg (argsL := argsL) (rest := rest) (hlen _ hsigM) hstack hdg
  rcases hK m meth c ⟨T.setVm vm₁, locs, cells, slots⟩ { g with stack := rest } (.invokevirtual index) mk (Value.ref b :: argsL).toArray X₁ hg hsize hdg hW (X₁.named hnamed) (hpre vm₁ X₁.warmed) with ⟨v, B, X', hpost, hsteps⟩ | ⟨q, B, X', hpost, hsteps⟩
  · exact Or.inl ⟨v, vm₁, B, X₁.warmed, X', hpost, fun target h => hstep₁ _ fun acts => by rw [doInvoke_state]; exact hsteps.trans h⟩
  · exact Or.inr ⟨q, vm₁, B, X₁.warmed, X', hpost, hstep₁ _ fun acts => by rw [doInvoke_state]; exact hsteps⟩
theorem vx_callS (X : Stand p l e R s m args below meth c T locs cells slots) (hexec : p.tables.exec = Jvm.exec) {own : String} {index : Nat} {y : MethodName} {bytes : ByteArray} {maxL : Nat} {ret : Option FieldType}
    (hown : s.vm.findClass own = some m.cls) (hlink : (Cond.methodLink own index y).before args s = true) (hstat : (Cond.static y).before args s = true) (hinit : (Cond.initialized y.cls).before args s = true)
    (hcode : (Cond.code y bytes maxL ret).before args s = true) (hy : y.cls ≠ "java/lang/invoke/MethodHandle" ∧ y.cls ≠ "java/lang/invoke/VarHandle")
    {W9 : Nat} {Pre : Pt → Array Value → Prop} {Post : Pt → Array Value → Option Value → Pt → Prop} {PostX : Pt → Array Value → Addr → Pt → Prop} (hK : vx_Back l R p e below s args y 3 W9 Pre Post PostX)
    {g : JFrame} (hg : g.method = m) (hsize : g.locals.size = c.maxLocals) {argsL rest : List Value} (hlen : ∀ sig, parseMethodDescriptor y.desc = some sig → argsL.length = sig.parameters.length)
    (hstack : g.stack = argsL.reverse ++ rest) (hW : 2 * g.monitorRoom + (rest.map fun v => v.category).sum ≤ W9) (hdg : decode c.code g.pc = .ok (.invokestatic index, 3))
    (hpre : ∀ vm₁, s.WarmedH vm₁ → Pre ⟨T.setVm vm₁, locs, cells, slots⟩ argsL.toArray) :
    (∃ (v : Option Value) (vm₁ : Vm) (B : Pt), s.WarmedH vm₁ ∧ Stand p l e R s m args below meth c B.U B.locs B.cells B.slots ∧ Post ⟨T.setVm vm₁, locs, cells, slots⟩ argsL.toArray v B ∧
      ∀ target, Steps p.tables e below (B.U.setTop { g with pc := g.pc + 3, stack := v.toList ++ rest }) target → Steps p.tables e below (T.setTop g) target) ∨
    (∃ (q : Addr) (vm₁ : Vm) (B : Pt), s.WarmedH vm₁ ∧ Stand p l e R s m args below meth c B.U B.locs B.cells B.slots ∧ PostX ⟨T.setVm vm₁, locs, cells, slots⟩ argsL.toArray q B ∧
      Steps p.tables e below (T.setTop g) ((B.U.setTop { g with stack := rest }).pushFrame (.throwing q))) := by
  obtain ⟨mk, hnamed⟩ := Cond.code_named hcode
  obtain ⟨methM, cM, hmethM, -, -, -, -, -, -, hsigM⟩ := Cond.code_spec hnamed hcode
  have hstatic : methM.isStatic = true := Cond.static_spec hnamed hmethM hstat
  obtain ⟨kP, hkP, -⟩ := className_of_methodNamed hnamed
  have hinitP : kP.init = .initialized := Cond.initialized_spec (findClass_of_methodNamed hnamed) hkP hinit
  obtain ⟨vm₁, X₁, hstep₁⟩ := X.invokestatic hexec hown hlink hnamed hmethM hstatic hkP hinitP hy (g := g) hg (argsL := argsL) (rest := rest) (hlen _ hsigM) hstack hdg
  rcases hK m meth c ⟨T.setVm vm₁, locs, cells, slots⟩ { g with stack := rest } (.invokestatic index) mk argsL.toArray X₁ hg hsize hdg hW (X₁.named hnamed) (hpre vm₁ X₁.warmed) with ⟨v, B, X', hpost, hsteps⟩ | ⟨q, B, X', hpost, hsteps⟩
  · exact Or.inl ⟨v, vm₁, B, X₁.warmed, X', hpost, fun target h => hstep₁ _ fun acts => by rw [doInvoke_state]; exact hsteps.trans h⟩
  · exact Or.inr ⟨q, vm₁, B, X₁.warmed, X', hpost, hstep₁ _ fun acts => by rw [doInvoke_state]; exact hsteps⟩
end Calls
theorem vx_cls {s : State} {T : State} {vm₁ : Vm} {E : String} {k : ClassId} (hW : s.WarmedH vm₁) (h : (T.setVm vm₁).vm.findClass E = some k) : s.vm.findClass E = some k := by
  have h1 : vm₁.findClass E = some k := h
  rw [hW.alike.findClass] at h1
  exact h1
/-- the method's frame g, with q thrown over it -/
def vx_W (p : Program) (l : Launch) (e : Env) (R : Room) (s : State) (m : MethodId) (args : Array Value) (below : List Frame) (meth : Method) (c : Code) (H : Heap) (locs : List Loc) (cells slots : Nat) (Q : State → Prop) (g : JFrame) (q : Addr) : Prop :=
  ∀ T : State, T.heap = H → Stand p l e R s m args below meth c T locs cells slots → ∃ t, Steps p.tables e below ((T.setTop g).pushFrame (.throwing q)) t ∧ Q t
def vx_Run (p : Program) (l : Launch) (e : Env) (R : Room) (s : State) (m : MethodId) (args : Array Value) (below : List Frame) (meth : Method) (c : Code) (H : Heap) (locs : List Loc) (cells slots mc ms : Nat) (g : JFrame) (rest : List Value) (Qa : State → Outcome → State → Prop) (XC : String → State → State → Prop) (free : Addr → Prop) : Prop :=
  ∀ T : State, T.heap = H → Stand p l e R s m args below meth c T locs cells slots →
    (∃ (v : Option Value) (st₀ t T' : State) (L : List Loc), st₀.heap = H ∧ Stand p l e R s m args below meth c T' (locs ++ L) (cells + mc) (slots + ms) ∧ (∀ q ∈ L, free q.base) ∧ T'.heap = t.heap ∧ T'.vm = t.vm ∧ Qa st₀ (.returned v) t ∧
      Goes p e below T g T' { g with pc := g.pc + 3, stack := v.toList ++ rest }) ∨
    (∃ (q : Addr) (st₀ t T' : State) (L : List Loc) (E : String) (ce : Cell), st₀.heap = H ∧ Stand p l e R s m args below meth c T' (locs ++ L) (cells + mc) (slots + ms) ∧ (∀ z ∈ L, free z.base) ∧ T'.heap = t.heap ∧ T'.vm = t.vm ∧ XC E st₀ t ∧ t.heap[q]? = some ce ∧ ce.vm = .none ∧ s.vm.findClass E = some ce.cls ∧
      Steps p.tables e below (T.setTop g) ((T'.setTop { g with stack := rest }).pushFrame (.throwing q)))
def vx_X {S : Type} (px : S → Prop) (B : String → S → State → Prop) (A : Nat → Prop) : String → State → State → Prop := fun E st t => ∃ u : S, px u ∧ B E u t ∧ va_F A st t
section Runs
variable {p : Program} {l : Launch} {e : Env} {R : Room} {s : State} {m : MethodId} {args : Array Value} {below : List Frame} {meth : Method} {c : Code} {H : Heap} {locs : List Loc} {cells slots : Nat}
variable {y : MethodName} {bytes cc : ByteArray} {maxL nL mc ms n index : Nat} {ret : Option FieldType} {ws : List Cond} {rm : Room} {Pc : Array Value → State → Prop} {Qc : Array Value → State → Outcome → State → Prop} {XC : String → State → State → Prop} {free : Addr → Prop} {Ts : List Cond} {own C : String} {b : Addr} {As rest : List Value} {g : JFrame}
theorem vx_callBack (cb : CallB R s args own index y bytes maxL ret ws rm mc ms n) (hM : vx_Met l y ws rm Pc Qc XC mc ms free) (hbl : FrameBlind Pc) : vx_Back l R p e below s args y 3 8 (PreOf R mc ms Pc) (PostOf Qc mc ms free) (vx_Post XC mc ms free) := by
  obtain ⟨hrc, hrs, hfr, hlo, hws, hcw, -, hini, -⟩ := cb
  exact vx_back (bytes := bytes) (maxL := maxL) (ret := ret) hM hbl hrc hrs hfr hlo hws hcw (fun a' U hW => word_at hW (Or.inl (by first | rfl | simp [Cond.onTables, Cond.keeps, Cond.steady])) hini)
theorem vx_runV (S : CallFix p m c cc nL s args Ts own) (hM : vx_Met l y ws rm Pc Qc XC mc ms free) (cw : CallW R s args own C index y bytes maxL ret ws rm mc ms n) (hp : PreV s H C b Pc As)
    (hg : g.method = m) (hn : As.length = n) (hsize : g.locals.size = nL) (hstack : g.stack = As.reverse ++ .ref b :: rest) (hW : 2 * g.monitorRoom + (rest.map fun v => v.category).sum ≤ 8) (hdg : decode cc g.pc = .ok (.invokevirtual index, 3)) (hf : cells + mc ≤ R.cells ∧ slots + ms ≤ R.slots) :
    vx_Run p l e R s m args below meth c H locs cells slots mc ms g rest (Qc (Value.ref b :: As).toArray) XC free := by
  have hK : vx_Back l R p e below s args y 3 8 (PreOf R mc ms Pc) (PostOf Qc mc ms free) (vx_Post XC mc ms free) := vx_callBack cw.1 hM hp.1
  obtain ⟨⟨-, -, -, -, -, -, hcode, -, hy, hlen, hl⟩, hin, hse⟩ := cw
  obtain ⟨hx, hb, hml, ho, -⟩ := S
  obtain ⟨-, ⟨cellB, hcB, hoB, hclB⟩, hPc⟩ := hp
  intro T hT X
  rcases vx_callV X hx (C := C) (bytes := bytes) (maxL := maxL) (ret := ret) ho hl hin hse hcode hy hK (by rw [hT]; exact hcB) hoB hclB hg (hsize.trans hml.symm) (argsL := As) (rest := rest) (fun sig h => hn.trans (hlen sig h)) hstack hW (by rw [hb]; exact hdg)
    (fun vm₁ hW₁ => ⟨hf.1, hf.2, hPc (T.setVm vm₁) hT hW₁⟩) with ⟨v, vm₁, ⟨U', l2, c2, s2⟩, hW₁, X', ⟨g', mk, t, L, e1, e2, hq, h1, hL, h2, h3⟩, st⟩ | ⟨q, vm₁, ⟨U', l2, c2, s2⟩, hW₁, X', ⟨g', mk, t, L, E, ce, e1, e2, hq, hce, hcv, hcl, h1, hL, h2, h3⟩, st⟩
  · dsimp only [Pt.U, Pt.locs, Pt.cells, Pt.slots] at X' e1 e2 h1 h2 h3 st
    subst h1; subst h2; subst h3
    exact Or.inl ⟨v, (T.setVm vm₁).calling g' mk (Value.ref b :: As).toArray, t, U', L, hT, X', hL, e1, e2, hq, st⟩
  · dsimp only [Pt.U, Pt.locs, Pt.cells, Pt.slots] at X' e1 e2 h1 h2 h3 st hcl
    subst h1; subst h2; subst h3
    exact Or.inr ⟨q, (T.setVm vm₁).calling g' mk (Value.ref b :: As).toArray, t, U', L, E, ce, hT, X', hL, e1, e2, hq, hce, hcv, vx_cls hW₁ hcl, st⟩
theorem vx_runS (S : CallFix p m c cc nL s args Ts own) (hM : vx_Met l y ws rm Pc Qc XC mc ms free) (cw : CallB R s args own index y bytes maxL ret ws rm mc ms n ∧ (Cond.static y).before args s = true) (hp : PreS s H Pc As)
    (hg : g.method = m) (hn : As.length = n) (hsize : g.locals.size = nL) (hstack : g.stack = As.reverse ++ rest) (hW : 2 * g.monitorRoom + (rest.map fun v => v.category).sum ≤ 8) (hdg : decode cc g.pc = .ok (.invokestatic index, 3)) (hf : cells + mc ≤ R.cells ∧ slots + ms ≤ R.slots) :
    vx_Run p l e R s m args below meth c H locs cells slots mc ms g rest (Qc As.toArray) XC free := by
  have hK : vx_Back l R p e below s args y 3 8 (PreOf R mc ms Pc) (PostOf Qc mc ms free) (vx_Post XC mc ms free) := vx_callBack cw.1 hM hp.1
  obtain ⟨⟨-, -, -, -, -, -, hcode, hini, hy, hlen, hl⟩, hstt⟩ := cw
  obtain ⟨hx, hb, hml, ho, -⟩ := S
  intro T hT X
  rcases vx_callS X hx (bytes := bytes) (maxL := maxL) (ret := ret) ho hl hstt hini hcode hy hK hg (hsize.trans hml.symm) (argsL := As) (rest := rest) (fun sig h => hn.trans (hlen sig h)) hstack hW (by rw [hb]; exact hdg)
    (fun vm₁ hW₁ => ⟨hf.1, hf.2, hp.2 (T.setVm vm₁) hT hW₁⟩) with ⟨v, vm₁, ⟨U', l2, c2, s2⟩, hW₁, X', ⟨g', mk, t, L, e1, e2, hq, h1, hL, h2, h3⟩, st⟩ | ⟨q, vm₁, ⟨U', l2, c2, s2⟩, hW₁, X', ⟨g', mk, t, L, E, ce, e1, e2, hq, hce, hcv, hcl, h1, hL, h2, h3⟩, st⟩
  · dsimp only [Pt.U, Pt.locs, Pt.cells, Pt.slots] at X' e1 e2 h1 h2 h3 st
    subst h1; subst h2; subst h3
    exact Or.inl ⟨v, (T.setVm vm₁).calling g' mk As.toArray, t, U', L, hT, X', hL, e1, e2, hq, st⟩
  · dsimp only [Pt.U, Pt.locs, Pt.cells, Pt.slots] at X' e1 e2 h1 h2 h3 st hcl
    subst h1; subst h2; subst h3
    exact Or.inr ⟨q, (T.setVm vm₁).calling g' mk As.toArray, t, U', L, E, ce, hT, X', hL, e1, e2, hq, hce, hcv, vx_cls hW₁ hcl, st⟩
end Runs
section Rows
variable {p : Program} {l : Launch} {e : Env} {R : Room} {s : State} {m : MethodId} {args : Array Value} {below : List Frame} {meth : Method} {c : Code} {H : Heap} {locs : List Loc} {cells slots : Nat} {Q : State → Prop}
variable {mc ms : Nat} {free : Addr → Prop} {A0 A1 : Nat → Prop} {H0 : Heap} {a : Array Value} {pc : Nat} {ls : Array Slot} {st0 rest : List Value}
theorem vx_keep {st₀ t T' : State} {L : List Loc} (h0 : st₀.heap = H) (e1 : T'.heap = t.heap) (hS : va_S A0 H0 H locs) (hA : ∀ q, q < H.size → A1 q → A0 q) (hf : ∀ q, free q → A0 q) (hL : ∀ q ∈ L, free q.base) (hF : va_F A1 st₀ t) :
    H.size ≤ T'.heap.size ∧ (∀ q : Nat, q < H.size → ¬ A1 q → T'.heap[q]? = H[q]?) ∧ va_S A0 H0 T'.heap (locs ++ L) := by
  obtain ⟨hz, hk⟩ := hF
  rw [h0] at hz hk
  exact ⟨by rw [e1]; exact hz, fun q h1 h2 => by rw [e1]; exact hk q h1 h2,
    ⟨Nat.le_trans hS.1 (by rw [e1]; exact hz), fun q h1 h2 => by rw [e1, hk q (Nat.lt_of_lt_of_le h1 hS.1) (fun z => h2 (hA q (Nat.lt_of_lt_of_le h1 hS.1) z))]; exact hS.2.1 q h1 h2, fun q hq => by
      rcases List.mem_append.mp hq with h | h
      · exact hS.2.2 q h
      · exact hf _ (hL q h)⟩⟩
theorem vx_calli {S SX : Type} {post : Int32 → S → Prop} {px : SX → Prop} {B : S → State → Prop} {BX : String → SX → State → Prop} {AX : Nat → Prop} (hr : vx_Run p l e R s m args below meth c H locs cells slots mc ms (F0 m pc ls st0) rest (va_Qi post B A1 a) (vx_X px BX AX) free) (hS : va_S A0 H0 H locs) (hA : ∀ q, q < H.size → A1 q → A0 q) (hf : ∀ q, free q → A0 q) (hAX : ∀ q, q < H.size → AX q → A0 q)
    (kx : ∀ (E : String) (ce : Cell) (q9 : Addr) (u : SX) (t : State) (H1 : Heap) (locs1 : List Loc), t.heap = H1 → s.vm.Alike t.vm → px u → BX E u t → H.size ≤ H1.size → (∀ q : Nat, q < H.size → ¬ AX q → H1[q]? = H[q]?) → va_S A0 H0 H1 locs1 → H1[q9]? = some ce → ce.vm = .none → s.vm.findClass E = some ce.cls → vx_W p l e R s m args below meth c H1 locs1 (cells + mc) (slots + ms) Q (F0 m pc ls rest) q9)
    (kk : ∀ (r : Int32) (u : S) (t : State) (H1 : Heap) (locs1 : List Loc), t.heap = H1 → s.vm.Alike t.vm → post r u → B u t → H.size ≤ H1.size → (∀ q : Nat, q < H.size → ¬ A1 q → H1[q]? = H[q]?) → va_S A0 H0 H1 locs1 → W p l e R s m args below meth c H1 locs1 (cells + mc) (slots + ms) Q (F0 m (pc + 3) ls (.int r :: rest))) : W p l e R s m args below meth c H locs cells slots Q (F0 m pc ls st0) := by
  intro T hT X
  rcases hr T hT X with ⟨v, st₀, t, T', L, h0, X', hL, e1, e2, ⟨⟨r, u, hv, hp, hb⟩, hF⟩, st⟩ | ⟨q, st₀, t, T', L, E, ce, h0, X', hL, e1, e2, ⟨u, hp, hb, hF⟩, hce, hcv, hcl, st⟩
  · cases hv
    obtain ⟨k1, k2, k3⟩ := vx_keep h0 e1 hS hA hf hL hF
    obtain ⟨t2, a1, b1⟩ := kk r u t T'.heap (locs ++ L) e1.symm (by rw [← e2]; exact X'.warmed.alike) hp hb k1 k2 k3 T' rfl X'
    exact ⟨t2, st t2 a1, b1⟩
  · obtain ⟨k1, k2, k3⟩ := vx_keep h0 e1 hS hAX hf hL hF
    obtain ⟨t2, a1, b1⟩ := kx E ce q u t T'.heap (locs ++ L) e1.symm (by rw [← e2]; exact X'.warmed.alike) hp hb k1 k2 k3 (by rw [e1]; exact hce) hcv hcl T' rfl X'
    exact ⟨t2, st.trans a1, b1⟩
theorem vx_calll {S SX : Type} {post : Int64 → S → Prop} {px : SX → Prop} {B : S → State → Prop} {BX : String → SX → State → Prop} {AX : Nat → Prop} (hr : vx_Run p l e R s m args below meth c H locs cells slots mc ms (F0 m pc ls st0) rest (va_Ql post B A1 a) (vx_X px BX AX) free) (hS : va_S A0 H0 H locs) (hA : ∀ q, q < H.size → A1 q → A0 q) (hf : ∀ q, free q → A0 q) (hAX : ∀ q, q < H.size → AX q → A0 q)
    (kx : ∀ (E : String) (ce : Cell) (q9 : Addr) (u : SX) (t : State) (H1 : Heap) (locs1 : List Loc), t.heap = H1 → s.vm.Alike t.vm → px u → BX E u t → H.size ≤ H1.size → (∀ q : Nat, q < H.size → ¬ AX q → H1[q]? = H[q]?) → va_S A0 H0 H1 locs1 → H1[q9]? = some ce → ce.vm = .none → s.vm.findClass E = some ce.cls → vx_W p l e R s m args below meth c H1 locs1 (cells + mc) (slots + ms) Q (F0 m pc ls rest) q9)
    (kk : ∀ (r : Int64) (u : S) (t : State) (H1 : Heap) (locs1 : List Loc), t.heap = H1 → s.vm.Alike t.vm → post r u → B u t → H.size ≤ H1.size → (∀ q : Nat, q < H.size → ¬ A1 q → H1[q]? = H[q]?) → va_S A0 H0 H1 locs1 → W p l e R s m args below meth c H1 locs1 (cells + mc) (slots + ms) Q (F0 m (pc + 3) ls (.long r :: rest))) : W p l e R s m args below meth c H locs cells slots Q (F0 m pc ls st0) := by
  intro T hT X
  rcases hr T hT X with ⟨v, st₀, t, T', L, h0, X', hL, e1, e2, ⟨⟨r, u, hv, hp, hb⟩, hF⟩, st⟩ | ⟨q, st₀, t, T', L, E, ce, h0, X', hL, e1, e2, ⟨u, hp, hb, hF⟩, hce, hcv, hcl, st⟩
  · cases hv
    obtain ⟨k1, k2, k3⟩ := vx_keep h0 e1 hS hA hf hL hF
    obtain ⟨t2, a1, b1⟩ := kk r u t T'.heap (locs ++ L) e1.symm (by rw [← e2]; exact X'.warmed.alike) hp hb k1 k2 k3 T' rfl X'
    exact ⟨t2, st t2 a1, b1⟩
  · obtain ⟨k1, k2, k3⟩ := vx_keep h0 e1 hS hAX hf hL hF
    obtain ⟨t2, a1, b1⟩ := kx E ce q u t T'.heap (locs ++ L) e1.symm (by rw [← e2]; exact X'.warmed.alike) hp hb k1 k2 k3 (by rw [e1]; exact hce) hcv hcl T' rfl X'
    exact ⟨t2, st.trans a1, b1⟩
theorem vx_callf {S SX : Type} {post : UInt32 → S → Prop} {px : SX → Prop} {B : S → State → Prop} {BX : String → SX → State → Prop} {AX : Nat → Prop} (hr : vx_Run p l e R s m args below meth c H locs cells slots mc ms (F0 m pc ls st0) rest (va_Qf post B A1 a) (vx_X px BX AX) free) (hS : va_S A0 H0 H locs) (hA : ∀ q, q < H.size → A1 q → A0 q) (hf : ∀ q, free q → A0 q) (hAX : ∀ q, q < H.size → AX q → A0 q)
    (kx : ∀ (E : String) (ce : Cell) (q9 : Addr) (u : SX) (t : State) (H1 : Heap) (locs1 : List Loc), t.heap = H1 → s.vm.Alike t.vm → px u → BX E u t → H.size ≤ H1.size → (∀ q : Nat, q < H.size → ¬ AX q → H1[q]? = H[q]?) → va_S A0 H0 H1 locs1 → H1[q9]? = some ce → ce.vm = .none → s.vm.findClass E = some ce.cls → vx_W p l e R s m args below meth c H1 locs1 (cells + mc) (slots + ms) Q (F0 m pc ls rest) q9)
    (kk : ∀ (r : UInt32) (u : S) (t : State) (H1 : Heap) (locs1 : List Loc), t.heap = H1 → s.vm.Alike t.vm → post r u → B u t → H.size ≤ H1.size → (∀ q : Nat, q < H.size → ¬ A1 q → H1[q]? = H[q]?) → va_S A0 H0 H1 locs1 → W p l e R s m args below meth c H1 locs1 (cells + mc) (slots + ms) Q (F0 m (pc + 3) ls (.float r :: rest))) : W p l e R s m args below meth c H locs cells slots Q (F0 m pc ls st0) := by
  intro T hT X
  rcases hr T hT X with ⟨v, st₀, t, T', L, h0, X', hL, e1, e2, ⟨⟨r, u, hv, hp, hb⟩, hF⟩, st⟩ | ⟨q, st₀, t, T', L, E, ce, h0, X', hL, e1, e2, ⟨u, hp, hb, hF⟩, hce, hcv, hcl, st⟩
  · cases hv
    obtain ⟨k1, k2, k3⟩ := vx_keep h0 e1 hS hA hf hL hF
    obtain ⟨t2, a1, b1⟩ := kk r u t T'.heap (locs ++ L) e1.symm (by rw [← e2]; exact X'.warmed.alike) hp hb k1 k2 k3 T' rfl X'
    exact ⟨t2, st t2 a1, b1⟩
  · obtain ⟨k1, k2, k3⟩ := vx_keep h0 e1 hS hAX hf hL hF
    obtain ⟨t2, a1, b1⟩ := kx E ce q u t T'.heap (locs ++ L) e1.symm (by rw [← e2]; exact X'.warmed.alike) hp hb k1 k2 k3 (by rw [e1]; exact hce) hcv hcl T' rfl X'
    exact ⟨t2, st.trans a1, b1⟩
theorem vx_calld {S SX : Type} {post : UInt64 → S → Prop} {px : SX → Prop} {B : S → State → Prop} {BX : String → SX → State → Prop} {AX : Nat → Prop} (hr : vx_Run p l e R s m args below meth c H locs cells slots mc ms (F0 m pc ls st0) rest (va_Qd post B A1 a) (vx_X px BX AX) free) (hS : va_S A0 H0 H locs) (hA : ∀ q, q < H.size → A1 q → A0 q) (hf : ∀ q, free q → A0 q) (hAX : ∀ q, q < H.size → AX q → A0 q)
    (kx : ∀ (E : String) (ce : Cell) (q9 : Addr) (u : SX) (t : State) (H1 : Heap) (locs1 : List Loc), t.heap = H1 → s.vm.Alike t.vm → px u → BX E u t → H.size ≤ H1.size → (∀ q : Nat, q < H.size → ¬ AX q → H1[q]? = H[q]?) → va_S A0 H0 H1 locs1 → H1[q9]? = some ce → ce.vm = .none → s.vm.findClass E = some ce.cls → vx_W p l e R s m args below meth c H1 locs1 (cells + mc) (slots + ms) Q (F0 m pc ls rest) q9)
    (kk : ∀ (r : UInt64) (u : S) (t : State) (H1 : Heap) (locs1 : List Loc), t.heap = H1 → s.vm.Alike t.vm → post r u → B u t → H.size ≤ H1.size → (∀ q : Nat, q < H.size → ¬ A1 q → H1[q]? = H[q]?) → va_S A0 H0 H1 locs1 → W p l e R s m args below meth c H1 locs1 (cells + mc) (slots + ms) Q (F0 m (pc + 3) ls (.double r :: rest))) : W p l e R s m args below meth c H locs cells slots Q (F0 m pc ls st0) := by
  intro T hT X
  rcases hr T hT X with ⟨v, st₀, t, T', L, h0, X', hL, e1, e2, ⟨⟨r, u, hv, hp, hb⟩, hF⟩, st⟩ | ⟨q, st₀, t, T', L, E, ce, h0, X', hL, e1, e2, ⟨u, hp, hb, hF⟩, hce, hcv, hcl, st⟩
  · cases hv
    obtain ⟨k1, k2, k3⟩ := vx_keep h0 e1 hS hA hf hL hF
    obtain ⟨t2, a1, b1⟩ := kk r u t T'.heap (locs ++ L) e1.symm (by rw [← e2]; exact X'.warmed.alike) hp hb k1 k2 k3 T' rfl X'
    exact ⟨t2, st t2 a1, b1⟩
  · obtain ⟨k1, k2, k3⟩ := vx_keep h0 e1 hS hAX hf hL hF
    obtain ⟨t2, a1, b1⟩ := kx E ce q u t T'.heap (locs ++ L) e1.symm (by rw [← e2]; exact X'.warmed.alike) hp hb k1 k2 k3 (by rw [e1]; exact hce) hcv hcl T' rfl X'
    exact ⟨t2, st.trans a1, b1⟩
theorem vx_callv {S SX : Type} {post : S → Prop} {px : SX → Prop} {B : S → State → Prop} {BX : String → SX → State → Prop} {AX : Nat → Prop} (hr : vx_Run p l e R s m args below meth c H locs cells slots mc ms (F0 m pc ls st0) rest (va_Qv post B A1 a) (vx_X px BX AX) free) (hS : va_S A0 H0 H locs) (hA : ∀ q, q < H.size → A1 q → A0 q) (hf : ∀ q, free q → A0 q) (hAX : ∀ q, q < H.size → AX q → A0 q)
    (kx : ∀ (E : String) (ce : Cell) (q9 : Addr) (u : SX) (t : State) (H1 : Heap) (locs1 : List Loc), t.heap = H1 → s.vm.Alike t.vm → px u → BX E u t → H.size ≤ H1.size → (∀ q : Nat, q < H.size → ¬ AX q → H1[q]? = H[q]?) → va_S A0 H0 H1 locs1 → H1[q9]? = some ce → ce.vm = .none → s.vm.findClass E = some ce.cls → vx_W p l e R s m args below meth c H1 locs1 (cells + mc) (slots + ms) Q (F0 m pc ls rest) q9)
    (kk : ∀ (u : S) (t : State) (H1 : Heap) (locs1 : List Loc), t.heap = H1 → s.vm.Alike t.vm → post u → B u t → H.size ≤ H1.size → (∀ q : Nat, q < H.size → ¬ A1 q → H1[q]? = H[q]?) → va_S A0 H0 H1 locs1 → W p l e R s m args below meth c H1 locs1 (cells + mc) (slots + ms) Q (F0 m (pc + 3) ls (rest))) : W p l e R s m args below meth c H locs cells slots Q (F0 m pc ls st0) := by
  intro T hT X
  rcases hr T hT X with ⟨v, st₀, t, T', L, h0, X', hL, e1, e2, ⟨⟨u, hv, hp, hb⟩, hF⟩, st⟩ | ⟨q, st₀, t, T', L, E, ce, h0, X', hL, e1, e2, ⟨u, hp, hb, hF⟩, hce, hcv, hcl, st⟩
  · cases hv
    obtain ⟨k1, k2, k3⟩ := vx_keep h0 e1 hS hA hf hL hF
    obtain ⟨t2, a1, b1⟩ := kk u t T'.heap (locs ++ L) e1.symm (by rw [← e2]; exact X'.warmed.alike) hp hb k1 k2 k3 T' rfl X'
    exact ⟨t2, st t2 a1, b1⟩
  · obtain ⟨k1, k2, k3⟩ := vx_keep h0 e1 hS hAX hf hL hF
    obtain ⟨t2, a1, b1⟩ := kx E ce q u t T'.heap (locs ++ L) e1.symm (by rw [← e2]; exact X'.warmed.alike) hp hb k1 k2 k3 (by rw [e1]; exact hce) hcv hcl T' rfl X'
    exact ⟨t2, st.trans a1, b1⟩
/-- caught by the row x of this method's table; the rows ahead don't take it -/
theorem vx_catch {own name : String} {E : String} {ce : Cell} {q : Addr} (hown : s.vm.findClass own = some m.cls) (pre : List ExceptionTableEntry) (x : ExceptionTableEntry) (suf : List ExceptionTableEntry) (hsplit : c.exceptionTable.toList = pre ++ x :: suf)
    (hpass : ∀ z ∈ pre, covers z pc = false ∨ (z.catchType ≠ 0 ∧ ∃ nm : String, (Cond.classLink own z.catchType nm).before args s = true ∧ va_Nc E nm s)) (hx : covers x pc = true) (h0 : x.catchType ≠ 0)
    (hlink : (Cond.classLink own x.catchType name).before args s = true) (hcast : (Cond.castable E name).before args s = true) (hcell : H[q]? = some ce) (hv : ce.vm = .none) (hcl : s.vm.findClass E = some ce.cls)
    (kk : W p l e R s m args below meth c H locs cells slots Q (F0 m x.handlerPc ls [.ref q])) : vx_W p l e R s m args below meth c H locs cells slots Q (F0 m pc ls rest) q := by
  intro T hT X
  have hpl : e.platform.magicAccessors = ({} : Platform).magicAccessors := by rw [X.admits.platform]
  obtain ⟨c3, c4, hc3, hc4, hasg⟩ := Cond.castable_spec hcast
  cases Option.some.inj (hc3.symm.trans hcl)
  obtain ⟨c5, hc5, hcl5⟩ := Cond.classLink_spec hown hlink e.platform hpl
  cases Option.some.inj (hc4.symm.trans hc5)
  obtain ⟨vm', X', st⟩ := X.thenCaughtThrough q (g := F0 m pc ls rest) rfl (Steps.refl _) (by rw [hT]; exact hcell) (by rw [hv]; rfl) (by obtain ⟨k9, h9, -⟩ := Vm.findClass_spec hcl; exact ⟨k9, h9⟩) pre x suf hsplit
    (fun z hz => by
      rcases hpass z hz with h | ⟨hz0, nm, hl1, hn1⟩
      · exact Or.inl h
      · obtain ⟨c6, hc6, hcl6⟩ := Cond.classLink_spec hown hl1 e.platform hpl
        obtain ⟨a8, b8, h1, h2, h3⟩ := hn1
        cases Option.some.inj (h1.symm.trans hcl)
        cases Option.some.inj (h2.symm.trans hc6)
        exact Or.inr ⟨hz0, _, hcl6, h3⟩) hx (Or.inr ⟨h0, c4, hcl5, hasg⟩)
  obtain ⟨t, a1, b1⟩ := kk (T.setVm vm') hT X'
  exact ⟨t, st.trans a1, b1⟩
end Rows
section Ends
variable {p : Program} {l : Launch} {e : Env} {R : Room} {s : State} {m : MethodId} {args : Array Value} {below : List Frame} {meth : Method} {c : Code} {H : Heap} {locs : List Loc} {cells slots : Nat} {Q : State → Prop}
variable {mc ms : Nat} {free : Addr → Prop} {A0 A1 : Nat → Prop} {H0 : Heap} {a : Array Value} {ls : Array Slot} {st0 rest : List Value}
variable {Qc : Array Value → State → Outcome → State → Prop} {XC : String → State → State → Prop}
/-- what a body that may throw owes at its end -/
def vx_MQ (below : List Frame) (Qc : Array Value → State → Outcome → State → Prop) (XC : String → State → State → Prop) (a : Array Value) (s : State) (mc ms : Nat) (free : Addr → Prop) : State → Prop := fun t =>
  ∃ o, t.status = .running ∧ Ended t below o ∧ vx_Q Qc XC mc ms free a s o t
theorem vx_ret {g : JFrame} {mc ms : Nat} (k : W p l e R s m args below meth c H locs cells slots (MQ below Qc args s mc ms free) g) : W p l e R s m args below meth c H locs cells slots (vx_MQ below Qc XC args s mc ms free) g := by
  intro T hT X
  obtain ⟨t, a1, o, b1, b2, b3, b4⟩ := k T hT X
  exact ⟨t, a1, o, b1, b2, Or.inl ⟨b3, b4⟩⟩
/-- not caught here: it goes on to the caller -/
theorem vx_widen {g : JFrame} {q : Addr} {k n : Nat} (h1 : cells ≤ k) (h2 : slots ≤ n) (kk : vx_W p l e R s m args below meth c H locs k n Q g q) : vx_W p l e R s m args below meth c H locs cells slots Q g q := fun T hT X => kk T hT (stand_widen X h1 h2)
theorem vx_out {pc : Nat} {E : String} {ce : Cell} {q : Addr} {mc ms : Nat} (hout : ∀ x ∈ c.exceptionTable.toList, covers x pc = false) (hlocks : meth.locks = false) (hcell : H[q]? = some ce) (hv : ce.vm = .none) (hcl : s.vm.findClass E = some ce.cls)
    (hx : ∀ t : State, t.heap = H → s.vm.Alike t.vm → XC E s t) (hf : ∀ z ∈ locs, free z.base) (hc : cells ≤ mc) (hs : slots ≤ ms) :
    vx_W p l e R s m args below meth c H locs cells slots (vx_MQ below Qc XC args s mc ms free) (F0 m pc ls rest) q := by
  intro T hT X
  obtain ⟨st1, hrun, hend, hW, hsm⟩ := X.leaveThrown q (g := F0 m pc ls rest) rfl rfl rfl hout hlocks
  have hcell9 : (T.setFrames (.throwing q :: below)).heap[q]? = some ce := by
    show T.heap[q]? = some ce
    rw [hT]; exact hcell
  exact ⟨_, st1, .threw q, hrun, hend, Or.inr ⟨q, rfl, E, ce, locs, hx _ hT hW.alike, hcell9, hv, hcl, hW, hsm.mono hc hs, hf⟩⟩
theorem vx_frame {U : State} {k n : Nat} (h : s.sameButNew ({ U with vm := s.vm } : State) locs k n) : s.heap.size ≤ U.heap.size ∧ ∀ q : Nat, q < s.heap.size → (∀ z ∈ locs, z.base ≠ q) → U.heap[q]? = s.heap[q]? := by
  obtain ⟨-, h2, -, -, -, h6⟩ := h
  refine ⟨h2, fun q hq hz => ?_⟩
  obtain ⟨c9, e1, e2, e3, e4⟩ := h6 q _ (Array.getElem?_eq_getElem hq)
  have hs : c9.slots = (s.heap[q]).slots := Array.ext_getElem? fun i => e4 i fun hm => hz _ hm rfl
  have h9 : c9 = s.heap[q] := by
    rw [hs] at e2
    exact e2
  have e5 : U.heap[q]? = some c9 := e1
  rw [e5, h9, Array.getElem?_eq_getElem hq]
/-- the words of a throw but the four that speak of the heap -/
def vx_no (w : Cond) : Bool := decide (w ≠ .isRef (.static Bundle.tN "UNASSIGNED_STACK" Bundle.steD)) && decide (w ≠ .isRef (.static Bundle.tN "SUPPRESSED_SENTINEL" Bundle.listD)) && decide (w ≠ .laysStatic Bundle.tN "UNASSIGNED_STACK" Bundle.steD) && decide (w ≠ .laysStatic Bundle.tN "SUPPRESSED_SENTINEL" Bundle.listD)
def vx_at0 (own : String) (ic : Nat) (X : String) (names : List String) : List Cond := (Bundle.ownAtoms0 own ic X names).filter vx_no
def vx_atS (own : String) (ic : Nat) (X : String) (names : List String) : List Cond := (Bundle.ownAtoms own ic X names).filter vx_no
/-- a word that the tables alone decide, or a good one -/
def vx_ot (w : Cond) : Bool := w.onTables || goodWord w
theorem vx_ot_at {args a' : Array Value} {s U : State} {w : Cond} (hW : s.WarmedH U.vm) (hvm : s.vm = U.vm) (hg : vx_ot w = true) (h : w.before args s = true) : w.before a' U = true := by
  simp only [vx_ot, Bool.or_eq_true] at hg
  rcases hg with hg | hg
  · exact va_tabs hg hvm h
  · exact word_at hW (good_of_word hg) h
/-- a list's words: the good ones out of the method's own list, the others by premises of their own -/
theorem vx_hat {args : Array Value} {s : State} {L B : List Cond} (h1 : ∀ w ∈ L.filter goodWord, w.before args s = true) (h2 : ∀ w ∈ L.filter (fun w => !goodWord w), w ∈ B) (h3 : ∀ w ∈ B, w.before args s = true) : ∀ w ∈ L, w.before args s = true := by
  intro w hw
  by_cases g : goodWord w = true
  · exact h1 w (List.mem_filter.mpr ⟨hw, g⟩)
  · refine h3 w (h2 w (List.mem_filter.mpr ⟨hw, ?_⟩))
    show (!goodWord w) = true
    cases hgw : goodWord w
    · rfl
    · exact absurd hgw g
theorem vx_c {args : Array Value} {s : State} {w : Cond} {B : List Cond} (h : w.before args s = true) (t : ∀ w ∈ B, w.before args s = true) : ∀ w' ∈ w :: B, w'.before args s = true := fun w' h' => (List.mem_cons.mp h').elim (fun e => by rw [e]; exact h) (t w')
theorem vx_n {args : Array Value} {s : State} : ∀ w ∈ ([] : List Cond), w.before args s = true := fun _ h => nomatch h
theorem vx_own {args : Array Value} {s : State} {L : List Cond} (h1 : ∀ w ∈ L.filter vx_no, w.before args s = true)
    (hU : (Cond.isRef (.static Bundle.tN "UNASSIGNED_STACK" Bundle.steD)).before args s = true) (hN : (Cond.isRef (.static Bundle.tN "SUPPRESSED_SENTINEL" Bundle.listD)).before args s = true)
    (lU : (Cond.laysStatic Bundle.tN "UNASSIGNED_STACK" Bundle.steD).before args s = true) (lN : (Cond.laysStatic Bundle.tN "SUPPRESSED_SENTINEL" Bundle.listD).before args s = true) : ∀ w ∈ L, w.before args s = true := by
  intro w hw
  by_cases e1 : w = .isRef (.static Bundle.tN "UNASSIGNED_STACK" Bundle.steD)
  · rw [e1]; exact hU
  · by_cases e2 : w = .isRef (.static Bundle.tN "SUPPRESSED_SENTINEL" Bundle.listD)
    · rw [e2]; exact hN
    · by_cases e3 : w = .laysStatic Bundle.tN "UNASSIGNED_STACK" Bundle.steD
      · rw [e3]; exact lU
      · by_cases e4 : w = .laysStatic Bundle.tN "SUPPRESSED_SENTINEL" Bundle.listD
        · rw [e4]; exact lN
        · exact h1 w (List.mem_filter.mpr ⟨hw, by unfold vx_no; rw [decide_eq_true e1, decide_eq_true e2, decide_eq_true e3, decide_eq_true e4]; rfl⟩)
/-- where a static field lies, its class's statics cell in H -/
def vx_L (C n d : String) (A : Nat → Prop) (U : State) (H : Heap) : Prop := ∃ (c : ClassId) (k : Class) (i : Nat) (f : Field) (a : Nat) (cell : Cell), U.vm.findClass C = some c ∧ U.fieldFound? C n d = some (c, k, i, f) ∧ f.isStatic = true ∧ k.statics = some a ∧ H[a]? = some cell ∧ cell.vm.isStatics = true ∧ cell.cls = c ∧ f.slot < cell.slots.size ∧ k.staticTypes[f.slot]? = some f.type ∧ ¬ A a
theorem vx_L.moved {C n d : String} {A : Nat → Prop} {u U : State} {H : Heap} (hvm : u.vm.Alike U.vm) (h : vx_L C n d A u H) : vx_L C n d A U H := by
  obtain ⟨c, k, i, f, a, cell, h1, h2, h3, h4, h5, h6, h7, h8, h9, h10⟩ := h
  obtain ⟨k', hi', he⟩ := State.fieldFound?_setVm hvm h2
  exact ⟨c, k', i, f, a, cell, by rw [hvm.findClass]; exact h1, hi', h3, by rw [he]; exact h4, h5, h6, h7, h8, by rw [he]; exact h9, h10⟩
theorem vx_L.kept {C n d : String} {A : Nat → Prop} {U : State} {H H1 : Heap} (h : vx_L C n d A U H) (hq : ∀ a : Nat, a < H.size → ¬ A a → H1[a]? = H[a]?) : vx_L C n d A U H1 := by
  obtain ⟨c, k, i, f, a, cell, h1, h2, h3, h4, h5, h6, h7, h8, h9, h10⟩ := h
  exact ⟨c, k, i, f, a, cell, h1, h2, h3, h4, by rw [hq a (Array.getElem?_eq_some_iff.mp h5).1 h10]; exact h5, h6, h7, h8, h9, h10⟩
theorem vx_L.narrow {C n d : String} {A B : Nat → Prop} {U : State} {H : Heap} (h : vx_L C n d A U H) (hAB : ∀ q, B q → A q) : vx_L C n d B U H := by
  obtain ⟨c, k, i, f, a, cell, h1, h2, h3, h4, h5, h6, h7, h8, h9, h10⟩ := h
  exact ⟨c, k, i, f, a, cell, h1, h2, h3, h4, h5, h6, h7, h8, h9, fun z => h10 (hAB _ z)⟩
theorem vx_L.word {C n d : String} {A : Nat → Prop} {s : State} {args : Array Value} (h : vx_L C n d A s s.heap) : (Cond.laysStatic C n d).before args s = true := by
  obtain ⟨c, k, i, f, a, cell, h1, h2, h3, h4, h5, h6, h7, h8, h9, -⟩ := h
  show (Cond.laysStatic C n d).holds args s none s [] = true
  exact Cond.laysStatic_of h1 h2 h3 h4 h5 h6 h7 h8 h9
/-- .. and what it holds: null or some reference -/
def vx_Zq (C n d : String) (A : Nat → Prop) (U : State) (H : Heap) : Prop := va_Zq C n d A U H ∧ vx_L C n d A U H
theorem vx_Zq.moved {C n d : String} {A : Nat → Prop} {u U : State} {H : Heap} (hvm : u.vm.Alike U.vm) (h : vx_Zq C n d A u H) : vx_Zq C n d A U H := ⟨va_Zq.moved hvm h.1, vx_L.moved hvm h.2⟩
theorem vx_Zq.kept {C n d : String} {A : Nat → Prop} {U : State} {H H1 : Heap} (h : vx_Zq C n d A U H) (hq : ∀ a : Nat, a < H.size → ¬ A a → H1[a]? = H[a]?) : vx_Zq C n d A U H1 := ⟨va_Zq.kept h.1 hq, vx_L.kept h.2 hq⟩
theorem vx_Zq.narrow {C n d : String} {A B : Nat → Prop} {U : State} {H : Heap} (h : vx_Zq C n d A U H) (hAB : ∀ q, B q → A q) : vx_Zq C n d B U H := ⟨va_Zq.narrow h.1 hAB, vx_L.narrow h.2 hAB⟩
theorem vx_Zqof {args : Array Value} {s : State} {C n d : String} {A : Nat → Prop} (hl : (Cond.laysStatic C n d).before args s = true) (hini : (Cond.initialized C).before args s = true) (h : (Cond.isRef (.static C n d)).before args s = true) (hA : ∀ a : Nat, a < s.heap.size → ¬ A a) : vx_Zq C n d A s s.heap := by
  refine ⟨va_Zqof hl hini h hA, ?_⟩
  obtain ⟨c, k, i, f, a, cell, h1, h2, h3, h4, h5, h6, h7, h8, h9⟩ := Cond.laysStatic_spec hl
  exact ⟨c, k, i, f, a, cell, h1, h2, h3, h4, h5, h6, h7, h8, h9, hA a (Array.getElem?_eq_some_iff.mp h5).1⟩
theorem vx_isRef {C n d : String} {v : Value} {A : Nat → Prop} {s : State} {args : Array Value} (h : va_Z C n d v A s s.heap) (hv : v.isRef = true) : (Cond.isRef (.static C n d)).before args s = true := by
  obtain ⟨cf, kf, fi, f, a, cell, h1, h2, h3, h4, h5, h6, h7, -⟩ := h
  have he : (Term.static C n d).eval args s none [] s = some v := by
    simp [Term.eval, State.fieldNamed?, h1, h2, h4, h5, h6, h7]
  simp only [Cond.before, Cond.holds, Cond.value, he]
  cases v <;> simp_all [Value.isRef]
theorem vx_isRefq {C n d : String} {A : Nat → Prop} {s : State} {args : Array Value} (h : va_Zq C n d A s s.heap) : (Cond.isRef (.static C n d)).before args s = true := by
  rcases h with h | ⟨t, h⟩
  · exact vx_isRef h rfl
  · exact vx_isRef h rfl
/-- the same frame, seen from here: as if the method were called anew in this heap -/
theorem vx_rebase {T : State} (X : Stand p l e R s m args below meth c T locs cells slots) {R' : Room} (hf : R'.frames ≤ R.frames) (hl : R'.locals ≤ R.locals) (hc : cells + R'.cells ≤ R.cells) (hs : slots + R'.slots ≤ R.slots) :
    Stand p l e R' ((T.setVm s.vm).setFrames (.invoking m args :: below)) m args below meth c T [] 0 0 := by
  have htop : (T.setVm s.vm).topJava?.isSome := X.here.top
  have hF : ((T.setVm s.vm).setFrames (.invoking m args :: below)).frames = .invoking m args :: below := State.frames_setFrames _ (State.cur_lt_of_top htop)
  obtain ⟨g₀, hg0⟩ := Option.isSome_iff_exists.mp htop
  obtain ⟨r, hr⟩ := State.topJava?_eq_some.mp hg0
  have hl9 : e.platform.stackLimits (T.setVm s.vm).me = e.platform.stackLimits s.me := X.limits
  have hb9 : (T.setVm s.vm).me.stackBytes = s.me.stackBytes := X.bytes
  refine ⟨X.admits, X.cas, X.clock, hF, ?_, X.hears, X.method, X.code, X.here, X.tail, X.warmed, ?_, ?_, ?_⟩
  · have h := X.room
    have hU : ((T.setVm s.vm).setFrames (.invoking m args :: below)).localsInUse = s.localsInUse := by
      rw [State.localsInUse_invoking hF (meth := meth) (c := c) X.method X.code, State.localsInUse_invoking X.frames X.method X.code]
    simp only [State.hasRoom, Bool.and_eq_true, decide_eq_true_eq] at h ⊢
    obtain ⟨⟨⟨⟨h1, h2, h3, h4, h5, h6⟩, h7⟩, h8⟩, h9⟩ := h
    rw [X.frames, List.length_cons] at h2 h3
    have q1 := X.heapSize
    have q2 := X.used
    simp only [hF, hU, List.length_cons, State.stackLimits_setFrames, State.stackBytes_setFrames, hl9, hb9]
    refine ⟨⟨⟨⟨by omega, by omega, by omega, by omega, by omega, h6⟩, ?_⟩, ?_⟩, X.book⟩
    · show T.heap.size + R'.cells ≤ e.platform.maxCells
      omega
    · show T.slotsUsed + R'.slots ≤ e.platform.maxSlots
      omega
  · rw [State.stackLimits_setFrames]; rfl
  · rw [State.stackBytes_setFrames]; rfl
  · refine ⟨?_, Nat.le_refl _, Nat.le_refl _, ?_, ?_, fun a c9 h9 => ⟨c9, h9, rfl, rfl, fun _ _ => rfl⟩⟩
    · obtain ⟨t, ht, -⟩ := State.frames_cons hr
      show T.setVm s.vm = { ((T.setVm s.vm).setFrames (.invoking m args :: below)).setFrames (T.setVm s.vm).frames with heap := T.heap, slotsUsed := T.slotsUsed }
      rw [State.setFrames_setFrames, State.setFrames_self ht]
      rfl
    · show T.slotsUsed = T.slotsUsed + ((T.heap.toList.drop T.heap.size).map (·.slots.size)).sum
      rw [List.drop_eq_nil_of_le (Nat.le_of_eq Array.length_toList)]
      rfl
    · show ((T.heap.toList.drop T.heap.size).map (·.slots.size)).sum ≤ 0
      rw [List.drop_eq_nil_of_le (Nat.le_of_eq Array.length_toList)]
      exact Nat.le_refl _
/-- 'throw new E()': new; dup; invokespecial; athrow -/
theorem vx_throw0 {cc : ByteArray} {pc : Nat} (hexec : p.tables.exec = Jvm.exec) (hb : c.code = cc) (hl : l.stackTraces = false) {own cls : String} {names : List String} {ik ic mc ms : Nat} {A : Nat → Prop}
    (hown : s.vm.findClass own = some m.cls) (hcls : Bundle.fit cls = true) (hnames : ∀ n ∈ names, Bundle.fit n = true)
    (hk : (Cond.classLink own ik cls).before args s = true) (hini : (Cond.initialized cls).before args s = true) (hat : ∀ w ∈ vx_at0 own ic cls names, w.before args s = true)
    (hgood : ∀ w ∈ Cond.classLink own ik cls :: Cond.initialized cls :: vx_at0 own ic cls names, vx_ot w = true)
    (hU : vx_Zq Bundle.tN "UNASSIGNED_STACK" Bundle.steD A s s.heap) (hN : vx_Zq Bundle.tN "SUPPRESSED_SENTINEL" Bundle.listD A s s.heap) (hS : va_S A s.heap H locs) (hsize : ls.size = c.maxLocals)
    (d0 : decode cc pc = .ok (.new ik, 3)) (d3 : decode cc (pc + 3) = .ok (.dup, 1)) (d4 : decode cc (pc + 4) = .ok (.invokespecial ic, 3)) (d7 : decode cc (pc + 7) = .ok (.athrow, 1))
    (hout : ∀ x ∈ c.exceptionTable.toList, covers x (pc + 7) = false)
    (hRframes : names.length + 3 < R.frames) (hRlocals : (rest.map fun v => v.category).sum + (13 * (names.length + 1) + 42) ≤ R.locals) (hRcells : cells + 1 ≤ R.cells) (hRslots : slots + 6 ≤ R.slots) (hlocks : meth.locks = false)
    (hx : ∀ t : State, s.vm.Alike t.vm → H.size ≤ t.heap.size → (∀ q : Nat, q < H.size → t.heap[q]? = H[q]?) → XC cls s t)
    (hf : ∀ z ∈ locs, free z.base) (hc : cells + 1 ≤ mc) (hs : slots + 6 ≤ ms) :
    W p l e R s m args below meth c H locs cells slots (vx_MQ below Qc XC args s mc ms free) (F0 m pc ls rest) := by
  intro T hT X
  have htr : e.platform.stackTraces = false := (show e.platform.stackTraces = l.stackTraces by rw [X.admits.platform]).trans hl
  have Y := vx_rebase X (R' := { frames := R.frames, locals := R.locals, cells := 1, slots := 6 }) (Nat.le_refl _) (Nat.le_refl _) hRcells hRslots
  obtain ⟨s', hA⟩ : ∃ z, z = (T.setVm s.vm).setFrames (.invoking m args :: below) := ⟨_, rfl⟩
  rw [← hA] at Y
  have hvm : s'.vm = s.vm := by rw [hA]; rfl
  have hhp : s'.heap = H := by rw [hA]; exact hT
  have hW0 : s.WarmedH s'.vm := by rw [hvm]; exact State.WarmedH.refl s
  have hat' : ∀ w ∈ vx_at0 own ic cls names, w.before args s' = true := fun w hw => vx_ot_at hW0 hvm.symm (hgood w (List.mem_cons_of_mem _ (List.mem_cons_of_mem _ hw))) (hat w hw)
  have hk' : (Cond.classLink own ik cls).before args s' = true := vx_ot_at hW0 hvm.symm (hgood _ List.mem_cons_self) hk
  have hini' : (Cond.initialized cls).before args s' = true := vx_ot_at hW0 hvm.symm (hgood _ (List.mem_cons_of_mem _ List.mem_cons_self)) hini
  have hU' : vx_Zq Bundle.tN "UNASSIGNED_STACK" Bundle.steD A s' s'.heap := by rw [hhp]; exact vx_Zq.moved hW0.alike (hU.kept hS.2.1)
  have hN' : vx_Zq Bundle.tN "SUPPRESSED_SENTINEL" Bundle.listD A s' s'.heap := by rw [hhp]; exact vx_Zq.moved hW0.alike (hN.kept hS.2.1)
  have h : ∀ w ∈ Bundle.ownAtoms0 own ic cls names, w.before args s' = true := vx_own hat' (vx_isRefq hU'.1) (vx_isRefq hN'.1) hU'.2.word hN'.2.word
  have hown' : s'.vm.findClass own = some m.cls := by rw [hvm]; exact hown
  have hins : (Cond.instantiable cls 6).before args s' = true := h _ (by simp [Bundle.ownAtoms0])
  obtain ⟨vm₁, cX, kX, hfX, hkX, -, -, X₁, st1⟩ := Y.newCold hexec (own := own) (C := cls) (index := ik) (n := 6) hown' hk' hins hini'
    (g := F0 m pc ls rest) rfl (by rw [hb]; exact d0) (Nat.le_refl _) (Nat.le_refl _)
  generalize hT1 : (T.setVm vm₁).pushCell { cls := cX, slots := kX.instanceTypes.map defaultValue, vm := .none } = T1 at X₁ st1
  have hcat : (Value.ref T.heap.size).category = 1 := rfl
  have hcellA : T1.heap[T.heap.size]? = some (freshCell cX kX) := by rw [← hT1]; exact State.heap_pushCell_size _ _
  have d3' : decode c.code (pc + 3) = .ok (.dup, 1) := by rw [hb]; exact d3
  obtain ⟨U, hsteps, hrun, hend, hW, hsame, ce, hce, hO⟩ := X₁.ctorThrow0 hexec htr (own := own) (cls := cls) (names := names) (ic := ic) hown' hcls hnames h (fun x hx => nomatch hx) hfX hkX hcellA (by rw [hhp, hT]; exact Nat.le_refl _)
    (g := { method := m, pc := pc + 4, locals := ls, stack := .ref T.heap.size :: .ref T.heap.size :: rest, locked := none }) rfl hsize rfl rfl (rest := rest) rfl
    (by rw [hb]; exact d4) (by rw [hb]; exact d7) hout hRframes (by simp only [List.map_cons, List.sum_cons, hcat]; omega) hlocks
  obtain ⟨f1, f2⟩ := vx_frame hsame
  rw [hhp] at f1 f2
  have hWs : s.WarmedH U.vm := State.WarmedH.trans hW0 hW
  have hcl : s.vm.findClass cls = some ce.cls := by
    have h9 := hO.cls
    rw [hvm] at h9
    exact h9
  have hall : s.sameButNew ({ U with vm := s.vm } : State) locs mc ms := by
    subst hA
    obtain ⟨e1, e2⟩ := hsame
    rw [State.setFrames_setFrames] at e1
    have h2 : (T.setVm s.vm).sameButNew ({ U with vm := s.vm } : State) [] (0 + 1) (0 + 6) := ⟨e1, e2⟩
    have h3 := X.same.trans h2
    rw [List.append_nil] at h3
    exact h3.mono hc hs
  refine ⟨U, ?_, .threw T.heap.size, hrun, hend, Or.inr ⟨T.heap.size, rfl, cls, ce, locs, hx U hWs.alike f1 (fun q hq => f2 q hq (fun z hz => nomatch hz)), hce, hO.vm, hcl, hWs, hall, hf⟩⟩
  refine st1 _ ?_
  show Steps p.tables e below (T1.setTop { method := m, pc := pc + 3, locals := ls, stack := .ref T.heap.size :: rest, locked := none }) _
  jvm_step X₁.here [X₁.here.top, hexec, d3', Value.category]
  exact hsteps
/-- 'throw new E("text")': new; dup; ldc; invokespecial; athrow -/
theorem vx_throwS {cc : ByteArray} {pc : Nat} (hexec : p.tables.exec = Jvm.exec) (hb : c.code = cc) (hl : l.stackTraces = false) {own cls text : String} {names : List String} {ik is ic mc ms sa : Nat} {A : Nat → Prop}
    (hown : s.vm.findClass own = some m.cls) (hcls : Bundle.fit cls = true) (hnames : ∀ n ∈ names, Bundle.fit n = true)
    (hk : (Cond.classLink own ik cls).before args s = true) (hini : (Cond.initialized cls).before args s = true) (hstr : vk_R own is text sa s) (hat : ∀ w ∈ vx_atS own ic cls names, w.before args s = true)
    (hgood : ∀ w ∈ Cond.classLink own ik cls :: Cond.initialized cls :: vx_atS own ic cls names, vx_ot w = true)
    (hU : vx_Zq Bundle.tN "UNASSIGNED_STACK" Bundle.steD A s s.heap) (hN : vx_Zq Bundle.tN "SUPPRESSED_SENTINEL" Bundle.listD A s s.heap) (hS : va_S A s.heap H locs) (hsize : ls.size = c.maxLocals)
    (d0 : decode cc pc = .ok (.new ik, 3)) (d3 : decode cc (pc + 3) = .ok (.dup, 1)) (d4 : decode cc (pc + 4) = .ok (.ldc is, 2)) (d6 : decode cc (pc + 6) = .ok (.invokespecial ic, 3)) (d9 : decode cc (pc + 9) = .ok (.athrow, 1))
    (hout : ∀ x ∈ c.exceptionTable.toList, covers x (pc + 9) = false)
    (hRframes : names.length + 3 < R.frames) (hRlocals : (rest.map fun v => v.category).sum + (13 * (names.length + 1) + 43) ≤ R.locals) (hRcells : cells + 1 ≤ R.cells) (hRslots : slots + 6 ≤ R.slots) (hlocks : meth.locks = false)
    (hx : ∀ t : State, s.vm.Alike t.vm → H.size ≤ t.heap.size → (∀ q : Nat, q < H.size → t.heap[q]? = H[q]?) → XC cls s t)
    (hf : ∀ z ∈ locs, free z.base) (hc : cells + 1 ≤ mc) (hs : slots + 6 ≤ ms) :
    W p l e R s m args below meth c H locs cells slots (vx_MQ below Qc XC args s mc ms free) (F0 m pc ls rest) := by
  intro T hT X
  have htr : e.platform.stackTraces = false := (show e.platform.stackTraces = l.stackTraces by rw [X.admits.platform]).trans hl
  have Y := vx_rebase X (R' := { frames := R.frames, locals := R.locals, cells := 1, slots := 6 }) (Nat.le_refl _) (Nat.le_refl _) hRcells hRslots
  obtain ⟨s', hA⟩ : ∃ z, z = (T.setVm s.vm).setFrames (.invoking m args :: below) := ⟨_, rfl⟩
  rw [← hA] at Y
  have hvm : s'.vm = s.vm := by rw [hA]; rfl
  have hhp : s'.heap = H := by rw [hA]; exact hT
  have hW0 : s.WarmedH s'.vm := by rw [hvm]; exact State.WarmedH.refl s
  have hat' : ∀ w ∈ vx_atS own ic cls names, w.before args s' = true := fun w hw => vx_ot_at hW0 hvm.symm (hgood w (List.mem_cons_of_mem _ (List.mem_cons_of_mem _ hw))) (hat w hw)
  have hk' : (Cond.classLink own ik cls).before args s' = true := vx_ot_at hW0 hvm.symm (hgood _ List.mem_cons_self) hk
  have hini' : (Cond.initialized cls).before args s' = true := vx_ot_at hW0 hvm.symm (hgood _ (List.mem_cons_of_mem _ List.mem_cons_self)) hini
  have hU' : vx_Zq Bundle.tN "UNASSIGNED_STACK" Bundle.steD A s' s'.heap := by rw [hhp]; exact vx_Zq.moved hW0.alike (hU.kept hS.2.1)
  have hN' : vx_Zq Bundle.tN "SUPPRESSED_SENTINEL" Bundle.listD A s' s'.heap := by rw [hhp]; exact vx_Zq.moved hW0.alike (hN.kept hS.2.1)
  have h : ∀ w ∈ Bundle.ownAtoms own ic cls names, w.before args s' = true := vx_own hat' (vx_isRefq hU'.1) (vx_isRefq hN'.1) hU'.2.word hN'.2.word
  have hown' : s'.vm.findClass own = some m.cls := by rw [hvm]; exact hown
  have hins : (Cond.instantiable cls 6).before args s' = true := h _ (by simp [Bundle.ownAtoms])
  obtain ⟨vm₁, cX, kX, hfX, hkX, -, -, X₁, st1⟩ := Y.newCold hexec (own := own) (C := cls) (index := ik) (n := 6) hown' hk' hins hini'
    (g := F0 m pc ls rest) rfl (by rw [hb]; exact d0) (Nat.le_refl _) (Nat.le_refl _)
  generalize hT1 : (T.setVm vm₁).pushCell { cls := cX, slots := kX.instanceTypes.map defaultValue, vm := .none } = T1 at X₁ st1
  have hcat : (Value.ref T.heap.size).category = 1 := rfl
  have hcellA : T1.heap[T.heap.size]? = some (freshCell cX kX) := by rw [← hT1]; exact State.heap_pushCell_size _ _
  have d3' : decode c.code (pc + 3) = .ok (.dup, 1) := by rw [hb]; exact d3
  have d4' : decode c.code (pc + 4) = .ok (.ldc is, 2) := by rw [hb]; exact d4
  have hstr' : vk_R own is text sa s' := vk_R.warm hW0 hstr
  obtain ⟨U, hsteps, hrun, hend, hW, hsame, ce, hce, hO⟩ := X₁.ctorThrowS hexec htr (own := own) (cls := cls) (names := names) (ic := ic) hown' hcls hnames h (fun x hx => nomatch hx) hfX hkX hcellA (by rw [hhp, hT]; exact Nat.le_refl _) (msg := .ref sa) rfl
    (g := { method := m, pc := pc + 6, locals := ls, stack := .ref sa :: .ref T.heap.size :: .ref T.heap.size :: rest, locked := none }) rfl hsize rfl rfl (rest := rest) rfl
    (by rw [hb]; exact d6) (by rw [hb]; exact d9) hout hRframes (by simp only [List.map_cons, List.sum_cons, hcat]; omega) hlocks
  obtain ⟨f1, f2⟩ := vx_frame hsame
  rw [hhp] at f1 f2
  have hWs : s.WarmedH U.vm := State.WarmedH.trans hW0 hW
  have hcl : s.vm.findClass cls = some ce.cls := by
    have h9 := hO.cls
    rw [hvm] at h9
    exact h9
  have hall : s.sameButNew ({ U with vm := s.vm } : State) locs mc ms := by
    subst hA
    obtain ⟨e1, e2⟩ := hsame
    rw [State.setFrames_setFrames] at e1
    have h2 : (T.setVm s.vm).sameButNew ({ U with vm := s.vm } : State) [] (0 + 1) (0 + 6) := ⟨e1, e2⟩
    have h3 := X.same.trans h2
    rw [List.append_nil] at h3
    exact h3.mono hc hs
  refine ⟨U, ?_, .threw T.heap.size, hrun, hend, Or.inr ⟨T.heap.size, rfl, cls, ce, locs, hx U hWs.alike f1 (fun q hq => f2 q hq (fun z hz => nomatch hz)), hce, hO.vm, hcl, hWs, hall, hf⟩⟩
  refine st1 _ ?_
  show Steps p.tables e below (T1.setTop { method := m, pc := pc + 3, locals := ls, stack := .ref T.heap.size :: rest, locked := none }) _
  jvm_step X₁.here [X₁.here.top, hexec, d3', Value.category]
  exact X₁.ldcString hexec (own := own) (text := text) (index := is) (a := sa) hown' hstr'.1 hstr'.2
    (g := { method := m, pc := pc + 4, locals := ls, stack := .ref T.heap.size :: .ref T.heap.size :: rest, locked := none }) rfl d4' _ hsteps
/-- 'throw new E("text")', the text by a wide index -/
theorem vx_throwSW {cc : ByteArray} {pc : Nat} (hexec : p.tables.exec = Jvm.exec) (hb : c.code = cc) (hl : l.stackTraces = false) {own cls text : String} {names : List String} {ik is ic mc ms sa : Nat} {A : Nat → Prop}
    (hown : s.vm.findClass own = some m.cls) (hcls : Bundle.fit cls = true) (hnames : ∀ n ∈ names, Bundle.fit n = true)
    (hk : (Cond.classLink own ik cls).before args s = true) (hini : (Cond.initialized cls).before args s = true) (hstr : vk_R own is text sa s) (hat : ∀ w ∈ vx_atS own ic cls names, w.before args s = true)
    (hgood : ∀ w ∈ Cond.classLink own ik cls :: Cond.initialized cls :: vx_atS own ic cls names, vx_ot w = true)
    (hU : vx_Zq Bundle.tN "UNASSIGNED_STACK" Bundle.steD A s s.heap) (hN : vx_Zq Bundle.tN "SUPPRESSED_SENTINEL" Bundle.listD A s s.heap) (hS : va_S A s.heap H locs) (hsize : ls.size = c.maxLocals)
    (d0 : decode cc pc = .ok (.new ik, 3)) (d3 : decode cc (pc + 3) = .ok (.dup, 1)) (d4 : decode cc (pc + 4) = .ok (.ldc_w is, 3)) (d7 : decode cc (pc + 7) = .ok (.invokespecial ic, 3)) (d10 : decode cc (pc + 10) = .ok (.athrow, 1))
    (hout : ∀ x ∈ c.exceptionTable.toList, covers x (pc + 10) = false)
    (hRframes : names.length + 3 < R.frames) (hRlocals : (rest.map fun v => v.category).sum + (13 * (names.length + 1) + 43) ≤ R.locals) (hRcells : cells + 1 ≤ R.cells) (hRslots : slots + 6 ≤ R.slots) (hlocks : meth.locks = false)
    (hx : ∀ t : State, s.vm.Alike t.vm → H.size ≤ t.heap.size → (∀ q : Nat, q < H.size → t.heap[q]? = H[q]?) → XC cls s t)
    (hf : ∀ z ∈ locs, free z.base) (hc : cells + 1 ≤ mc) (hs : slots + 6 ≤ ms) :
    W p l e R s m args below meth c H locs cells slots (vx_MQ below Qc XC args s mc ms free) (F0 m pc ls rest) := by
  intro T hT X
  have htr : e.platform.stackTraces = false := (show e.platform.stackTraces = l.stackTraces by rw [X.admits.platform]).trans hl
  have Y := vx_rebase X (R' := { frames := R.frames, locals := R.locals, cells := 1, slots := 6 }) (Nat.le_refl _) (Nat.le_refl _) hRcells hRslots
  obtain ⟨s', hA⟩ : ∃ z, z = (T.setVm s.vm).setFrames (.invoking m args :: below) := ⟨_, rfl⟩
  rw [← hA] at Y
  have hvm : s'.vm = s.vm := by rw [hA]; rfl
  have hhp : s'.heap = H := by rw [hA]; exact hT
  have hW0 : s.WarmedH s'.vm := by rw [hvm]; exact State.WarmedH.refl s
  have hat' : ∀ w ∈ vx_atS own ic cls names, w.before args s' = true := fun w hw => vx_ot_at hW0 hvm.symm (hgood w (List.mem_cons_of_mem _ (List.mem_cons_of_mem _ hw))) (hat w hw)
  have hk' : (Cond.classLink own ik cls).before args s' = true := vx_ot_at hW0 hvm.symm (hgood _ List.mem_cons_self) hk
  have hini' : (Cond.initialized cls).before args s' = true := vx_ot_at hW0 hvm.symm (hgood _ (List.mem_cons_of_mem _ List.mem_cons_self)) hini
  have hU' : vx_Zq Bundle.tN "UNASSIGNED_STACK" Bundle.steD A s' s'.heap := by rw [hhp]; exact vx_Zq.moved hW0.alike (hU.kept hS.2.1)
  have hN' : vx_Zq Bundle.tN "SUPPRESSED_SENTINEL" Bundle.listD A s' s'.heap := by rw [hhp]; exact vx_Zq.moved hW0.alike (hN.kept hS.2.1)
  have h : ∀ w ∈ Bundle.ownAtoms own ic cls names, w.before args s' = true := vx_own hat' (vx_isRefq hU'.1) (vx_isRefq hN'.1) hU'.2.word hN'.2.word
  have hown' : s'.vm.findClass own = some m.cls := by rw [hvm]; exact hown
  have hins : (Cond.instantiable cls 6).before args s' = true := h _ (by simp [Bundle.ownAtoms])
  obtain ⟨vm₁, cX, kX, hfX, hkX, -, -, X₁, st1⟩ := Y.newCold hexec (own := own) (C := cls) (index := ik) (n := 6) hown' hk' hins hini'
    (g := F0 m pc ls rest) rfl (by rw [hb]; exact d0) (Nat.le_refl _) (Nat.le_refl _)
  generalize hT1 : (T.setVm vm₁).pushCell { cls := cX, slots := kX.instanceTypes.map defaultValue, vm := .none } = T1 at X₁ st1
  have hcat : (Value.ref T.heap.size).category = 1 := rfl
  have hcellA : T1.heap[T.heap.size]? = some (freshCell cX kX) := by rw [← hT1]; exact State.heap_pushCell_size _ _
  have d3' : decode c.code (pc + 3) = .ok (.dup, 1) := by rw [hb]; exact d3
  have d4' : decode c.code (pc + 4) = .ok (.ldc_w is, 3) := by rw [hb]; exact d4
  have hstr' : vk_R own is text sa s' := vk_R.warm hW0 hstr
  obtain ⟨U, hsteps, hrun, hend, hW, hsame, ce, hce, hO⟩ := X₁.ctorThrowS hexec htr (own := own) (cls := cls) (names := names) (ic := ic) hown' hcls hnames h (fun x hx => nomatch hx) hfX hkX hcellA (by rw [hhp, hT]; exact Nat.le_refl _) (msg := .ref sa) rfl
    (g := { method := m, pc := pc + 7, locals := ls, stack := .ref sa :: .ref T.heap.size :: .ref T.heap.size :: rest, locked := none }) rfl hsize rfl rfl (rest := rest) rfl
    (by rw [hb]; exact d7) (by rw [hb]; exact d10) hout hRframes (by simp only [List.map_cons, List.sum_cons, hcat]; omega) hlocks
  obtain ⟨f1, f2⟩ := vx_frame hsame
  rw [hhp] at f1 f2
  have hWs : s.WarmedH U.vm := State.WarmedH.trans hW0 hW
  have hcl : s.vm.findClass cls = some ce.cls := by
    have h9 := hO.cls
    rw [hvm] at h9
    exact h9
  have hall : s.sameButNew ({ U with vm := s.vm } : State) locs mc ms := by
    subst hA
    obtain ⟨e1, e2⟩ := hsame
    rw [State.setFrames_setFrames] at e1
    have h2 : (T.setVm s.vm).sameButNew ({ U with vm := s.vm } : State) [] (0 + 1) (0 + 6) := ⟨e1, e2⟩
    have h3 := X.same.trans h2
    rw [List.append_nil] at h3
    exact h3.mono hc hs
  refine ⟨U, ?_, .threw T.heap.size, hrun, hend, Or.inr ⟨T.heap.size, rfl, cls, ce, locs, hx U hWs.alike f1 (fun q hq => f2 q hq (fun z hz => nomatch hz)), hce, hO.vm, hcl, hWs, hall, hf⟩⟩
  refine st1 _ ?_
  show Steps p.tables e below (T1.setTop { method := m, pc := pc + 3, locals := ls, stack := .ref T.heap.size :: rest, locked := none }) _
  jvm_step X₁.here [X₁.here.top, hexec, d3', Value.category]
  exact X₁.ldcStringW hexec (own := own) (text := text) (index := is) (a := sa) hown' hstr'.1 hstr'.2
    (g := { method := m, pc := pc + 4, locals := ls, stack := .ref T.heap.size :: .ref T.heap.size :: rest, locked := none }) rfl d4' _ hsteps
end Ends
section Bodies
variable {l : Launch}
theorem vx_ofW {y : MethodName} {ws ws' : List Cond} {rm : Room} {Pc : Array Value → State → Prop} {Qc : Array Value → State → Outcome → State → Prop} {XC : String → State → State → Prop} {mc ms : Nat} {free : Addr → Prop} {cc : ByteArray} {maxL : Nat} {ret : Option FieldType}
    (hy : plainName y.cls = true) (hw : ws = Cond.code y cc maxL ret :: ws')
    (body : ∀ p e s m args below meth c s₁, BodyLoose p l y (headSpec ws rm) cc maxL ret e s m args below meth c s₁ → c.maxLocals = maxL → (∀ x ∈ c.exceptionTable.toList, False) → Pc args s →
      W p l e (headSpec ws rm).room s m args below meth c s.heap [] 0 0 (vx_MQ below Qc XC args s mc ms free) (entryFrame m args maxL)) : vx_Met l y ws rm Pc Qc XC mc ms free := by
  refine MetFree.of_bodyS (code := cc) (maxLocals := maxL) (ret := ret) hy ?_ ?_
  · intro args s m h hn
    obtain ⟨meth, c, h1, h2, h3, h4, h5, h6, -, -⟩ := Cond.code_spec hn (atoms_spec (ws := ws) h _ (by rw [hw]; exact List.mem_cons_self))
    exact ⟨meth, c, h1, h2, h3, h4, h5, h6⟩
  · intro p e s m args below meth c s₁ B hml hP _
    have hh0 : s₁.heap = s.heap := by rw [B.state]; rfl
    have ht : ∀ x ∈ c.exceptionTable.toList, False := by
      obtain ⟨meth9, c9, h1, h2, -, -, -, -, h7, -⟩ := Cond.code_spec B.named (atoms_spec (ws := ws) B.pre _ (by rw [hw]; exact List.mem_cons_self))
      cases Option.some.inj (h1.symm.trans B.method)
      cases Option.some.inj (h2.symm.trans (Stand.of_body B).code)
      intro x hx
      rw [Array.isEmpty_iff.mp h7] at hx
      cases hx
    obtain ⟨t, a1, o, b1, b2, b3⟩ := body p e s m args below meth c s₁ B hml ht hP s₁ hh0 (Stand.of_body B)
    exact ⟨t, o, a1, b1, b2, b3⟩
/-- the table of a body with handlers -/
theorem vx_table {p : Program} {x y : MethodName} {S : Spec} {cc bytes : ByteArray} {maxL maxL' : Nat} {ret ret' : Option FieldType} {e : Env} {s s₁ : State} {m : MethodId} {args : Array Value} {below : List Frame} {meth : Method} {c : Code} {hh : List (Nat × Nat × Nat × Nat)}
    (B : BodyLoose p l y S cc maxL ret e s m args below meth c s₁) (h : (Cond.codeWith y bytes maxL' ret' hh).before args s = true) : c.exceptionTable.toList = tableOf hh := by
  obtain ⟨m9, meth9, c9, hn9, h1, h2, -, -, h6, -⟩ := Cond.codeWith_spec h
  cases Option.some.inj (hn9.symm.trans B.named)
  cases Option.some.inj (h1.symm.trans B.method)
  cases Option.some.inj (h2.symm.trans (Stand.of_body B).code)
  rw [← h6, table_eq]
end Bodies
end VXA
/-! ===== END ===== -/
/-! ===== BEGIN a static call of a method with an exception table ===== -/
section VXS
variable {p : Program} {l : Launch} {e : Env} {R : Room} {s : State} {m : MethodId} {args : Array Value} {below : List Frame} {meth : Method} {c : Code} {T : State} {H : Heap} {locs : List Loc} {cells slots : Nat}
abbrev vx_CSW (R : Room) (s : State) (args : Array Value) (own : String) (index : Nat) (y : MethodName) (bytes : ByteArray) (maxL : Nat) (ret : Option FieldType) (hh : List (Nat × Nat × Nat × Nat)) (ws : List Cond) (rm : Room) (mc ms n : Nat) : Prop :=
  (rm.cells = mc ∧ rm.slots = ms ∧ rm.frames + 1 ≤ R.frames ∧ 8 + (maxL + 11) + rm.locals ≤ R.locals ∧ (∀ w ∈ ws, ∀ (a' : Array Value) (U : State), s.WarmedH U.vm → w.before a' U = true) ∧ Cond.codeWith y bytes maxL ret hh ∈ ws) ∧
  (Cond.codeWith y bytes maxL ret hh).before args s = true ∧ (Cond.initialized y.cls).before args s = true ∧ (y.cls ≠ "java/lang/invoke/MethodHandle" ∧ y.cls ≠ "java/lang/invoke/VarHandle") ∧
  (∀ sig, parseMethodDescriptor y.desc = some sig → n = sig.parameters.length) ∧ (Cond.methodLink own index y).before args s = true ∧ (Cond.static y).before args s = true
theorem vx_cwSW {own : String} {index maxL mc ms : Nat} {y : MethodName} {bytes : ByteArray} {ret : Option FieldType} {hh : List (Nat × Nat × Nat × Nat)} {Ts ws ws' : List Cond} {rm : Room} (n : Nat) (ht : ∀ w ∈ Ts, w.before args s = true) (hT : GoodIn Ts (va_wsS own index y ws)) (hw : ws = Cond.codeWith y bytes maxL ret hh :: ws') (hrc : rm.cells = mc) (hrs : rm.slots = ms)
    (hd : y.cls ≠ "java/lang/invoke/MethodHandle" ∧ y.cls ≠ "java/lang/invoke/VarHandle" ∧ (parseMethodDescriptor y.desc).map (fun d => d.parameters.length) = some n) (hR : rm.frames + 1 ≤ R.frames ∧ 8 + (maxL + 11) + rm.locals ≤ R.locals) :
    vx_CSW R s args own index y bytes maxL ret hh ws rm mc ms n := by
  have ok : ∀ w ∈ va_wsS own index y ws, w.before args s = true := fun w h => ht w (hT w h).1
  have hG : GoodIn Ts ws := fun w h => hT w (by unfold va_wsS; exact List.mem_append_right _ h)
  have hc : Cond.codeWith y bytes maxL ret hh ∈ ws := by rw [hw]; exact List.mem_cons_self
  refine ⟨⟨hrc, hrs, hR.1, hR.2, pay_in ht hG, hc⟩, ht _ (hG _ hc).1, ok _ (by simp [va_wsS]), ⟨hd.1, hd.2.1⟩, fun sig h => ?_, ok _ (by simp [va_wsS]), ok _ (by simp [va_wsS])⟩
  have h2 := hd.2.2
  rw [h] at h2
  exact (Option.some.inj h2).symm
theorem vx_callSW (X : Stand p l e R s m args below meth c T locs cells slots) (hexec : p.tables.exec = Jvm.exec) {own : String} {index : Nat} {y : MethodName} {bytes : ByteArray} {maxL : Nat} {ret : Option FieldType} {hh : List (Nat × Nat × Nat × Nat)}
    (hown : s.vm.findClass own = some m.cls) (hlink : (Cond.methodLink own index y).before args s = true) (hstat : (Cond.static y).before args s = true) (hinit : (Cond.initialized y.cls).before args s = true)
    (hcode : (Cond.codeWith y bytes maxL ret hh).before args s = true) (hy : y.cls ≠ "java/lang/invoke/MethodHandle" ∧ y.cls ≠ "java/lang/invoke/VarHandle")
    {W9 : Nat} {Pre : Pt → Array Value → Prop} {Post : Pt → Array Value → Option Value → Pt → Prop} (hK : Back l R p e below s args y 3 W9 Pre Post)
    {g : JFrame} (hg : g.method = m) (hsize : g.locals.size = c.maxLocals) {argsL rest : List Value} (hlen : ∀ sig, parseMethodDescriptor y.desc = some sig → argsL.length = sig.parameters.length)
    (hstack : g.stack = argsL.reverse ++ rest) (hW : 2 * g.monitorRoom + (rest.map fun v => v.category).sum ≤ W9) (hdg : decode c.code g.pc = .ok (.invokestatic index, 3))
    (hpre : ∀ vm₁, s.WarmedH vm₁ → Pre ⟨T.setVm vm₁, locs, cells, slots⟩ argsL.toArray) :
    ∃ (v : Option Value) (vm₁ : Vm) (B : Pt), s.WarmedH vm₁ ∧ Stand p l e R s m args below meth c B.U B.locs B.cells B.slots ∧ Post ⟨T.setVm vm₁, locs, cells, slots⟩ argsL.toArray v B ∧
      ∀ target, Steps p.tables e below (B.U.setTop { g with pc := g.pc + 3, stack := v.toList ++ rest }) target → Steps p.tables e below (T.setTop g) target := by
  obtain ⟨mk, methM, cM, hnamed, hmethM, -, -, -, -, -, -, hsigM⟩ := Cond.codeWith_spec hcode
  have hstatic : methM.isStatic = true := Cond.static_spec hnamed hmethM hstat
  obtain ⟨kP, hkP, -⟩ := className_of_methodNamed hnamed
  have hinitP : kP.init = .initialized := Cond.initialized_spec (findClass_of_methodNamed hnamed) hkP hinit
  obtain ⟨vm₁, X₁, hstep₁⟩ := X.invokestatic hexec hown hlink hnamed hmethM hstatic hkP hinitP hy (g := g) hg (argsL := argsL) (rest := rest) (hlen _ hsigM) hstack hdg
  obtain ⟨v, B, X', hpost, hsteps⟩ := hK m meth c ⟨T.setVm vm₁, locs, cells, slots⟩ { g with stack := rest } (.invokestatic index) mk argsL.toArray X₁ hg hsize hdg hW (X₁.named hnamed) (hpre vm₁ X₁.warmed)
  exact ⟨v, vm₁, B, X₁.warmed, X', hpost, fun target h => hstep₁ _ fun acts => by rw [doInvoke_state]; exact hsteps.trans h⟩
theorem vx_runSW {y : MethodName} {bytes cc : ByteArray} {maxL nL mc ms n index : Nat} {ret : Option FieldType} {hh : List (Nat × Nat × Nat × Nat)} {ws : List Cond} {rm : Room} {Pc : Array Value → State → Prop} {Qc : Array Value → State → Outcome → State → Prop} {free : Addr → Prop} {Ts : List Cond} {own : String} {As rest : List Value} {g : JFrame}
    (S : CallFix p m c cc nL s args Ts own) (hM : Met l y ws rm Pc Qc mc ms free) (cw : vx_CSW R s args own index y bytes maxL ret hh ws rm mc ms n) (hp : PreS s H Pc As)
    (hg : g.method = m) (hn : As.length = n) (hsize : g.locals.size = nL) (hstack : g.stack = As.reverse ++ rest) (hW : 2 * g.monitorRoom + (rest.map fun v => v.category).sum ≤ 8) (hdg : decode cc g.pc = .ok (.invokestatic index, 3)) (hf : cells + mc ≤ R.cells ∧ slots + ms ≤ R.slots) :
    va_Run p l e R s m args below meth c H locs cells slots mc ms g rest (Qc As.toArray) (free) := by
  obtain ⟨⟨hrc, hrs, hfr, hlo, hws, hcw⟩, hcode, hini, hy, hlen, hl, hstt⟩ := cw
  have hK : Back l R p e below s args y 3 8 (PreOf R mc ms Pc) (PostOf Qc mc ms free) := va_backW (hh := hh) (bytes := bytes) (maxL := maxL) (ret := ret) hM hp.1 hrc hrs hfr hlo hws hcw (fun a' U hW => word_at hW (Or.inl (by first | rfl | simp [Cond.onTables, Cond.keeps, Cond.steady])) hini)
  obtain ⟨hx, hb, hml, ho, -⟩ := S
  intro T hT X
  obtain ⟨v, vm₁, ⟨U', l2, c2, s2⟩, hW₁, X', ⟨g', mk, t, L, e1, e2, hq, h1, hL, h2, h3⟩, st⟩ := vx_callSW X hx (hh := hh) (bytes := bytes) (maxL := maxL) (ret := ret) ho hl hstt hini hcode hy hK hg (hsize.trans hml.symm) (argsL := As) (rest := rest) (fun sig h => hn.trans (hlen sig h)) hstack hW (by rw [hb]; exact hdg)
    (fun vm₁ hW₁ => ⟨hf.1, hf.2, hp.2 (T.setVm vm₁) hT hW₁⟩)
  dsimp only [Pt.U, Pt.locs, Pt.cells, Pt.slots] at X' e1 e2 h1 h2 h3 st
  subst h1; subst h2; subst h3
  exact ⟨v, (T.setVm vm₁).calling g' mk As.toArray, t, U', L, hT, X', hL, e1, e2, hq, st⟩
/-- not caught here, past rows that name other classes: it goes on to the caller -/
theorem vx_outP {p : Program} {l : Launch} {e : Env} {R : Room} {s : State} {m : MethodId} {args : Array Value} {below : List Frame} {meth : Method} {c : Code} {H : Heap} {locs : List Loc} {cells slots : Nat} {free : Addr → Prop} {ls : Array Slot} {rest : List Value} {Qc : Array Value → State → Outcome → State → Prop} {XC : String → State → State → Prop}
    {pc : Nat} {own E : String} {ce : Cell} {q : Addr} {mc ms : Nat} (hown : s.vm.findClass own = some m.cls) (hlocks : meth.locks = false)
    (hpass : ∀ z ∈ c.exceptionTable.toList, covers z pc = false ∨ (z.catchType ≠ 0 ∧ ∃ nm : String, (Cond.classLink own z.catchType nm).before args s = true ∧ va_Nc E nm s)) (hcell : H[q]? = some ce) (hv : ce.vm = .none) (hcl : s.vm.findClass E = some ce.cls)
    (hx : ∀ t : State, t.heap = H → s.vm.Alike t.vm → XC E s t) (hf : ∀ z ∈ locs, free z.base) (hc : cells ≤ mc) (hs : slots ≤ ms) :
    vx_W p l e R s m args below meth c H locs cells slots (vx_MQ below Qc XC args s mc ms free) (F0 m pc ls rest) q := by
  intro T hT X
  have hpl : e.platform.magicAccessors = ({} : Platform).magicAccessors := by rw [X.admits.platform]
  obtain ⟨vm', hW', X', st⟩ := X.outThrough hlocks q (g := F0 m pc ls rest) rfl rfl rfl (cell := ce) (by rw [hT]; exact hcell) (by rw [hv]; rfl)
    (by obtain ⟨k9, h9, -⟩ := Vm.findClass_spec hcl; exact ⟨k9, h9⟩) (fun z hz => by
      rcases hpass z hz with h | ⟨hz0, nm, hl1, hn1⟩
      · exact Or.inl h
      · obtain ⟨c6, hc6, hcl6⟩ := Cond.classLink_spec hown hl1 e.platform hpl
        obtain ⟨a8, b8, h1, h2, h3⟩ := hn1
        cases Option.some.inj (h1.symm.trans hcl)
        cases Option.some.inj (h2.symm.trans hc6)
        exact Or.inr ⟨hz0, _, hcl6, h3⟩)
  obtain ⟨g₀, hfr⟩ := X'.frames_eq
  have hcell9 : ((T.setVm vm').setFrames (.throwing q :: below)).heap[q]? = some ce := by
    show T.heap[q]? = some ce
    rw [hT]; exact hcell
  have hend : Ended ((T.setVm vm').setFrames (.throwing q :: below)) below (.threw q) := State.frames_setFrames _ (State.cur_lt_of_frames hfr)
  refine ⟨(T.setVm vm').setFrames (.throwing q :: below), ?_, .threw q, X'.here.running, hend, Or.inr ⟨q, rfl, E, ce, locs, hx _ hT (X'.ends _).1.alike, hcell9, hv, hcl, (X'.ends _).1, (X'.ends _).2.mono hc hs, hf⟩⟩
  rw [X.pushThrowing_eq]
  exact st
/-- a thing of a world lies in the heap -/
theorem vx_lt {D : va_G} {cl : List vw_C} {ws : va_W} {H1 : Heap} (h : va_P D cl ws H1) {k : Nat} {q : Nat × va_E} (hk : ws[k]? = some q) : q.1 < H1.size := (h k q hk).lt
end VXS
/-! ===== END ===== -/
/-! ===== BEGIN methods with a table of their own: called by a name, returning or throwing ===== -/
section VXH
/-! vx_backW, vx_callVX, vx_callSX, vx_callVW, vx_runVW, vx_runVX, vx_runSX, vx_ofWH follow the same proofs as their sisters above (Free/Laws.lean, Shelf42/LK1.lean); vx_outP calls Shelf42/NT130.lean (outThrough). -/
section
variable {l : Launch} {R : Room} {p : Program} {e : Env} {below : List Frame} {s : State} {sargs : Array Value} {y : MethodName} {len W9 : Nat}
theorem vx_backW {ws : List Cond} {rm : Room} {Pc : Array Value → State → Prop} {Qc : Array Value → State → Outcome → State → Prop} {XC : String → State → State → Prop} {mc ms : Nat} {free : Addr → Prop} {bytes : ByteArray} {maxL : Nat} {ret : Option FieldType} {hh : List (Nat × Nat × Nat × Nat)}
    (hM : vx_Met l y ws rm Pc Qc XC mc ms free) (hblind : FrameBlind Pc) (hrc : rm.cells = mc) (hrs : rm.slots = ms)
    (hframes : rm.frames + 1 ≤ R.frames) (hlocals : W9 + (maxL + 11) + rm.locals ≤ R.locals)
    (hws : ∀ w ∈ ws, ∀ a' U, s.WarmedH U.vm → w.before a' U = true) (hcode : Cond.codeWith y bytes maxL ret hh ∈ ws) (hinit : ∀ a' U, s.WarmedH U.vm → (Cond.initialized y.cls).before a' U = true) :
    vx_Back l R p e below s sargs y len W9 (PreOf R mc ms Pc) (PostOf Qc mc ms free) (vx_Post XC mc ms free) := by
  intro m meth c A g ig mk a X hg hsize hdg hW hn hp
  have h1 : (headSpec ws rm).pre.before a A.U = true := atoms_intro fun w hw => hws w hw _ _ X.warmed
  have h2 : (Cond.codeWith y bytes maxL ret hh).before a A.U = true := hws _ hcode _ _ X.warmed
  have h3 : (Cond.initialized y.cls).before a A.U = true := hinit _ _ X.warmed
  have h4 : A.cells + (headSpec ws rm).room.cells ≤ R.cells := by rw [show (headSpec ws rm).room.cells = mc from hrc]; exact hp.1
  have h5 : A.slots + (headSpec ws rm).room.slots ≤ R.slots := by rw [show (headSpec ws rm).room.slots = ms from hrs]; exact hp.2.1
  have hPc : Pc a (A.U.calling g mk a) := hblind _ _ _ _ hp.2.2
  obtain ⟨U, Ls, c0, s0⟩ := A
  dsimp only [Pt.U, Pt.locs, Pt.cells, Pt.slots] at h1 h2 h3 h4 h5 X hn hPc ⊢
  obtain ⟨m9, methY, cY, hn9, hmY, hcY, -, hlY, -⟩ := Cond.codeWith_spec h2
  cases Option.some.inj (hn9.symm.trans hn)
  obtain ⟨kY, hkY, -⟩ := className_of_methodNamed hn
  have hinitY : kY.init = .initialized := Cond.initialized_spec (findClass_of_methodNamed hn) hkY h3
  have h : At U g.method c below := by rw [hg]; exact X.here
  have hlocals9 : W9 + (maxL + 11) + (headSpec ws rm).room.locals ≤ R.locals := hlocals
  have happ : (headSpec ws rm).appliesLoose y e.platform (U.calling g mk a) = true :=
    Spec.appliesLoose_calling (g := g) h hdg hn hkY hinitY
      (X.room_calling (g := g) (R' := (headSpec ws rm).room) hsize hmY hcY hframes (by rw [hlY]; omega) h4 h5) h1
  obtain ⟨mid, hmid⟩ := h.above
  have hfr : (U.setTop g).frames = (.java g :: mid) ++ below := by rw [State.frames_setTop' g h.top, hmid]; rfl
  obtain ⟨o, s₂, hsteps, -, hend, hq⟩ := Steps.callFree hM p X.admits X.cas X.clock (acts := []) hfr happ hPc trivial
  have hq' : vx_Q Qc XC mc ms free a (U.calling g mk a) o s₂ := hq
  rw [State.frames_setTop' g h.top] at hend
  obtain ⟨g₀, hg0⟩ := Option.isSome_iff_exists.mp h.top
  obtain ⟨r, hr⟩ := State.topJava?_eq_some.mp hg0
  have hr' : (({ U with heap := s₂.heap, slotsUsed := s₂.slotsUsed } : State).setVm s₂.vm).frames = .java g₀ :: r := hr
  rcases hq' with ⟨hqc, L, hfe, hL⟩ | ⟨q, rfl, E, ce, L, hx, hce, hcv, hcl, hW₂, hsm, hL⟩
  · obtain ⟨⟨v, rfl⟩, hW₂, e2, q2, q3, q4, q5, q6⟩ := id hfe
    have e3 : s₂ = ({ (U.calling g mk a).setFrames s₂.frames with heap := s₂.heap, slotsUsed := s₂.slotsUsed } : State).setVm s₂.vm := by
      have : s₂ = ({ s₂ with vm := (U.calling g mk a).vm } : State).setVm s₂.vm := rfl
      rw [e2] at this
      exact this
    obtain ⟨c₂, i₂, len₂, hc₂, hd₂, hf₂⟩ := hend
    have hW' : U.WarmedH s₂.vm := hW₂
    have hcc : c₂ = c := by
      have h1 : s₂.code? g.method = U.code? g.method := by
        rw [State.code?_eq, State.code?_eq, hW'.alike.method?]
      exact Option.some.inj (hc₂.symm.trans (h1.trans h.code))
    subst hcc
    have hlen : len₂ = len := by rw [hdg] at hd₂; cases hd₂; rfl
    subst hlen
    have hs₂ : s₂ = (({ U with heap := s₂.heap, slotsUsed := s₂.slotsUsed } : State).setVm s₂.vm).setTop { g with pc := g.pc + len₂, stack := v.toList ++ g.stack } := by
      refine e3.trans ?_
      rw [hf₂, State.calling_eq h.top, State.setFrames_setFrames, State.setTop_of_frames _ hr', hr]
      rfl
    have hsame : U.sameButNew ({ U with heap := s₂.heap, slotsUsed := s₂.slotsUsed } : State) L mc ms := by
      refine ⟨?_, q2, q3, q4, q5, q6⟩
      obtain ⟨t, ht, -⟩ := State.frames_cons hr
      show ({ U with heap := s₂.heap, slotsUsed := s₂.slotsUsed } : State) = { U.setFrames U.frames with heap := s₂.heap, slotsUsed := s₂.slotsUsed }
      rw [State.setFrames_self ht]
    subst hg
    refine Or.inl ⟨v, ⟨(({ U with heap := s₂.heap, slotsUsed := s₂.slotsUsed } : State).setVm s₂.vm), Ls ++ L, c0 + mc, s0 + ms⟩,
      ⟨X.admits, X.cas, X.clock, X.frames, X.room, X.hears, X.method, X.code, (X.here.setHeapUsed s₂.heap s₂.slotsUsed).setVm hW'.alike, X.tail, State.WarmedH.trans X.warmed hW', X.limits, X.bytes, X.same.trans (hsame.setVm s.vm)⟩,
      ⟨g, mk, s₂, L, rfl, rfl, hqc, rfl, hL, rfl, rfl⟩, ?_⟩
    show Steps p.tables e below _ ((({ U with heap := s₂.heap, slotsUsed := s₂.slotsUsed } : State).setVm s₂.vm).setTop { g with pc := g.pc + len₂, stack := v.toList ++ g.stack })
    rw [← hs₂]
    exact hsteps
  · obtain ⟨e2, q2, q3, q4, q5, q6⟩ := id hsm
    have e3 : s₂ = ({ (U.calling g mk a).setFrames s₂.frames with heap := s₂.heap, slotsUsed := s₂.slotsUsed } : State).setVm s₂.vm := by
      have : s₂ = ({ s₂ with vm := (U.calling g mk a).vm } : State).setVm s₂.vm := rfl
      rw [e2] at this
      exact this
    have hf₂ : s₂.frames = .throwing q :: .java g :: U.frames.tail := hend
    have hW' : U.WarmedH s₂.vm := hW₂
    have hs₂ : s₂ = ((({ U with heap := s₂.heap, slotsUsed := s₂.slotsUsed } : State).setVm s₂.vm).setTop g).pushFrame (.throwing q) := by
      refine e3.trans ?_
      rw [hf₂, State.calling_eq h.top, State.setFrames_setFrames, State.pushFrame, State.frames_setTop _ hr', State.setTop_of_frames _ hr', State.setFrames_setFrames, hr]
      rfl
    have hsame : U.sameButNew ({ U with heap := s₂.heap, slotsUsed := s₂.slotsUsed } : State) L mc ms := by
      refine ⟨?_, q2, q3, q4, q5, q6⟩
      obtain ⟨t, ht, -⟩ := State.frames_cons hr
      show ({ U with heap := s₂.heap, slotsUsed := s₂.slotsUsed } : State) = { U.setFrames U.frames with heap := s₂.heap, slotsUsed := s₂.slotsUsed }
      rw [State.setFrames_self ht]
    subst hg
    refine Or.inr ⟨q, ⟨(({ U with heap := s₂.heap, slotsUsed := s₂.slotsUsed } : State).setVm s₂.vm), Ls ++ L, c0 + mc, s0 + ms⟩,
      ⟨X.admits, X.cas, X.clock, X.frames, X.room, X.hears, X.method, X.code, (X.here.setHeapUsed s₂.heap s₂.slotsUsed).setVm hW'.alike, X.tail, State.WarmedH.trans X.warmed hW', X.limits, X.bytes, X.same.trans (hsame.setVm s.vm)⟩,
      ⟨g, mk, s₂, L, E, ce, rfl, rfl, hx, hce, hcv, hcl, rfl, hL, rfl, rfl⟩, ?_⟩
    show Steps p.tables e below _ (((({ U with heap := s₂.heap, slotsUsed := s₂.slotsUsed } : State).setVm s₂.vm).setTop g).pushFrame (.throwing q))
    rw [← hs₂]
    exact hsteps
end
variable {p : Program} {l : Launch} {e : Env} {R : Room} {s : State} {m : MethodId} {args : Array Value} {below : List Frame} {meth : Method} {c : Code} {T : State} {H : Heap} {locs : List Loc} {cells slots : Nat}
theorem vx_callVX (X : Stand p l e R s m args below meth c T locs cells slots) (hexec : p.tables.exec = Jvm.exec) {own C : String} {index : Nat} {y : MethodName} {bytes : ByteArray} {maxL : Nat} {ret : Option FieldType} {hh : List (Nat × Nat × Nat × Nat)}
    (hown : s.vm.findClass own = some m.cls) (hlink : (Cond.methodLink own index y).before args s = true) (hinst : (Cond.instanceMethod y).before args s = true) (hsel : (Cond.selects C y y).before args s = true)
    (hcode : (Cond.codeWith y bytes maxL ret hh).before args s = true) (hy : y.cls ≠ "java/lang/invoke/MethodHandle" ∧ y.cls ≠ "java/lang/invoke/VarHandle")
    {W9 : Nat} {Pre : Pt → Array Value → Prop} {Post : Pt → Array Value → Option Value → Pt → Prop} {PostX : Pt → Array Value → Addr → Pt → Prop} (hK : vx_Back l R p e below s args y 3 W9 Pre Post PostX)
    {b : Addr} {cellB : Cell} (hcell : T.heap[b]? = some cellB) (hobj : cellB.vm.isStatics = false) (hcls : s.vm.findClass C = some cellB.cls)
    {g : JFrame} (hg : g.method = m) (hsize : g.locals.size = c.maxLocals) {argsL rest : List Value} (hlen : ∀ sig, parseMethodDescriptor y.desc = some sig → argsL.length = sig.parameters.length)
    (hstack : g.stack = argsL.reverse ++ .ref b :: rest) (hW : 2 * g.monitorRoom + (rest.map fun v => v.category).sum ≤ W9) (hdg : decode c.code g.pc = .ok (.invokevirtual index, 3))
    (hpre : ∀ vm₁, s.WarmedH vm₁ → Pre ⟨T.setVm vm₁, locs, cells, slots⟩ (Value.ref b :: argsL).toArray) :
    (∃ (v : Option Value) (vm₁ : Vm) (B : Pt), s.WarmedH vm₁ ∧ Stand p l e R s m args below meth c B.U B.locs B.cells B.slots ∧ Post ⟨T.setVm vm₁, locs, cells, slots⟩ (Value.ref b :: argsL).toArray v B ∧
      ∀ target, Steps p.tables e below (B.U.setTop { g with pc := g.pc + 3, stack := v.toList ++ rest }) target → Steps p.tables e below (T.setTop g) target) ∨
    (∃ (q : Addr) (vm₁ : Vm) (B : Pt), s.WarmedH vm₁ ∧ Stand p l e R s m args below meth c B.U B.locs B.cells B.slots ∧ PostX ⟨T.setVm vm₁, locs, cells, slots⟩ (Value.ref b :: argsL).toArray q B ∧
      Steps p.tables e below (T.setTop g) ((B.U.setTop { g with stack := rest }).pushFrame (.throwing q))) := by
  obtain ⟨mk, methM, hnamed, hmethM, hstM, habM⟩ := Cond.instanceMethod_spec hinst
  obtain ⟨m8, methM', cM, hn8, hmethM', -, -, -, -, -, -, hsigM⟩ := Cond.codeWith_spec hcode
  cases Option.some.inj (hn8.symm.trans hnamed)
  cases hmethM.symm.trans hmethM'
  obtain ⟨c2, r2, m2, q1, q2, q3, q4, kP, hkP, hkPi⟩ := Cond.selects_spec hsel
  cases hcls.symm.trans q1
  cases (State.methodFound?_of_named hnamed hy).symm.trans q2
  cases hnamed.symm.trans q3
  have hselP : selectMethod e.platform s.vm cellB.cls mk = .method mk := by rw [Launch.admits_selectMethod X.admits]; exact q4
  obtain ⟨vm₁, X₁, hstep₁⟩ := X.invokevirtual hexec hown hlink hnamed hmethM hstM hkP hkPi hy (a := b) (cell := cellB) hcell
    (fun z h => by rw [h] at hobj; cases hobj) hselP hmethM habM hkP hkPi (g := g) hg (argsL := argsL) (rest := rest) (hlen _ hsigM) hstack hdg
  rcases hK m meth c ⟨T.setVm vm₁, locs, cells, slots⟩ { g with stack := rest } (.invokevirtual index) mk (Value.ref b :: argsL).toArray X₁ hg hsize hdg hW (X₁.named hnamed) (hpre vm₁ X₁.warmed) with ⟨v, B, X', hpost, hsteps⟩ | ⟨q, B, X', hpost, hsteps⟩
  · exact Or.inl ⟨v, vm₁, B, X₁.warmed, X', hpost, fun target h => hstep₁ _ fun acts => by rw [doInvoke_state]; exact hsteps.trans h⟩
  · exact Or.inr ⟨q, vm₁, B, X₁.warmed, X', hpost, hstep₁ _ fun acts => by rw [doInvoke_state]; exact hsteps⟩
theorem vx_callSX (X : Stand p l e R s m args below meth c T locs cells slots) (hexec : p.tables.exec = Jvm.exec) {own : String} {index : Nat} {y : MethodName} {bytes : ByteArray} {maxL : Nat} {ret : Option FieldType} {hh : List (Nat × Nat × Nat × Nat)}
    (hown : s.vm.findClass own = some m.cls) (hlink : (Cond.methodLink own index y).before args s = true) (hstat : (Cond.static y).before args s = true) (hinit : (Cond.initialized y.cls).before args s = true)
    (hcode : (Cond.codeWith y bytes maxL ret hh).before args s = true) (hy : y.cls ≠ "java/lang/invoke/MethodHandle" ∧ y.cls ≠ "java/lang/invoke/VarHandle")
    {W9 : Nat} {Pre : Pt → Array Value → Prop} {Post : Pt → Array Value → Option Value → Pt → Prop} {PostX : Pt → Array Value → Addr → Pt → Prop} (hK : vx_Back l R p e below s args y 3 W9 Pre Post PostX)
    {g : JFrame} (hg : g.method = m) (hsize : g.locals.size = c.maxLocals) {argsL rest : List Value} (hlen : ∀ sig, parseMethodDescriptor y.desc = some sig → argsL.length = sig.parameters.length)
    (hstack : g.stack = argsL.reverse ++ rest) (hW : 2 * g.monitorRoom + (rest.map fun v => v.category).sum ≤ W9) (hdg : decode c.code g.pc = .ok (.invokestatic index, 3))
    (hpre : ∀ vm₁, s.WarmedH vm₁ → Pre ⟨T.setVm vm₁, locs, cells, slots⟩ argsL.toArray) :
    (∃ (v : Option Value) (vm₁ : Vm) (B : Pt), s.WarmedH vm₁ ∧ Stand p l e R s m args below meth c B.U B.locs B.cells B.slots ∧ Post ⟨T.setVm vm₁, locs, cells, slots⟩ argsL.toArray v B ∧
      ∀ target, Steps p.tables e below (B.U.setTop { g with pc := g.pc + 3, stack := v.toList ++ rest }) target → Steps p.tables e below (T.setTop g) target) ∨
    (∃ (q : Addr) (vm₁ : Vm) (B : Pt), s.WarmedH vm₁ ∧ Stand p l e R s m args below meth c B.U B.locs B.cells B.slots ∧ PostX ⟨T.setVm vm₁, locs, cells, slots⟩ argsL.toArray q B ∧
      Steps p.tables e below (T.setTop g) ((B.U.setTop { g with stack := rest }).pushFrame (.throwing q))) := by
  obtain ⟨mk, methM, cM, hnamed, hmethM, -, -, -, -, -, -, hsigM⟩ := Cond.codeWith_spec hcode
  have hstatic : methM.isStatic = true := Cond.static_spec hnamed hmethM hstat
  obtain ⟨kP, hkP, -⟩ := className_of_methodNamed hnamed
  have hinitP : kP.init = .initialized := Cond.initialized_spec (findClass_of_methodNamed hnamed) hkP hinit
  obtain ⟨vm₁, X₁, hstep₁⟩ := X.invokestatic hexec hown hlink hnamed hmethM hstatic hkP hinitP hy (g := g) hg (argsL := argsL) (rest := rest) (hlen _ hsigM) hstack hdg
  rcases hK m meth c ⟨T.setVm vm₁, locs, cells, slots⟩ { g with stack := rest } (.invokestatic index) mk argsL.toArray X₁ hg hsize hdg hW (X₁.named hnamed) (hpre vm₁ X₁.warmed) with ⟨v, B, X', hpost, hsteps⟩ | ⟨q, B, X', hpost, hsteps⟩
  · exact Or.inl ⟨v, vm₁, B, X₁.warmed, X', hpost, fun target h => hstep₁ _ fun acts => by rw [doInvoke_state]; exact hsteps.trans h⟩
  · exact Or.inr ⟨q, vm₁, B, X₁.warmed, X', hpost, hstep₁ _ fun acts => by rw [doInvoke_state]; exact hsteps⟩
theorem vx_callVW (X : Stand p l e R s m args below meth c T locs cells slots) (hexec : p.tables.exec = Jvm.exec) {own C : String} {index : Nat} {y : MethodName} {bytes : ByteArray} {maxL : Nat} {ret : Option FieldType} {hh : List (Nat × Nat × Nat × Nat)}
    (hown : s.vm.findClass own = some m.cls) (hlink : (Cond.methodLink own index y).before args s = true) (hinst : (Cond.instanceMethod y).before args s = true) (hsel : (Cond.selects C y y).before args s = true)
    (hcode : (Cond.codeWith y bytes maxL ret hh).before args s = true) (hy : y.cls ≠ "java/lang/invoke/MethodHandle" ∧ y.cls ≠ "java/lang/invoke/VarHandle")
    {W9 : Nat} {Pre : Pt → Array Value → Prop} {Post : Pt → Array Value → Option Value → Pt → Prop} (hK : Back l R p e below s args y 3 W9 Pre Post)
    {b : Addr} {cellB : Cell} (hcell : T.heap[b]? = some cellB) (hobj : cellB.vm.isStatics = false) (hcls : s.vm.findClass C = some cellB.cls)
    {g : JFrame} (hg : g.method = m) (hsize : g.locals.size = c.maxLocals) {argsL rest : List Value} (hlen : ∀ sig, parseMethodDescriptor y.desc = some sig → argsL.length = sig.parameters.length)
    (hstack : g.stack = argsL.reverse ++ .ref b :: rest) (hW : 2 * g.monitorRoom + (rest.map fun v => v.category).sum ≤ W9) (hdg : decode c.code g.pc = .ok (.invokevirtual index, 3))
    (hpre : ∀ vm₁, s.WarmedH vm₁ → Pre ⟨T.setVm vm₁, locs, cells, slots⟩ (Value.ref b :: argsL).toArray) :
    ∃ (v : Option Value) (vm₁ : Vm) (B : Pt), s.WarmedH vm₁ ∧ Stand p l e R s m args below meth c B.U B.locs B.cells B.slots ∧ Post ⟨T.setVm vm₁, locs, cells, slots⟩ (Value.ref b :: argsL).toArray v B ∧
      ∀ target, Steps p.tables e below (B.U.setTop { g with pc := g.pc + 3, stack := v.toList ++ rest }) target → Steps p.tables e below (T.setTop g) target := by
  obtain ⟨mk, methM, hnamed, hmethM, hstM, habM⟩ := Cond.instanceMethod_spec hinst
  obtain ⟨m8, methM', cM, hn8, hmethM', -, -, -, -, -, -, hsigM⟩ := Cond.codeWith_spec hcode
  cases Option.some.inj (hn8.symm.trans hnamed)
  cases hmethM.symm.trans hmethM'
  obtain ⟨c2, r2, m2, q1, q2, q3, q4, kP, hkP, hkPi⟩ := Cond.selects_spec hsel
  cases hcls.symm.trans q1
  cases (State.methodFound?_of_named hnamed hy).symm.trans q2
  cases hnamed.symm.trans q3
  have hselP : selectMethod e.platform s.vm cellB.cls mk = .method mk := by rw [Launch.admits_selectMethod X.admits]; exact q4
  obtain ⟨vm₁, X₁, hstep₁⟩ := X.invokevirtual hexec hown hlink hnamed hmethM hstM hkP hkPi hy (a := b) (cell := cellB) hcell
    (fun z h => by rw [h] at hobj; cases hobj) hselP hmethM habM hkP hkPi (g := g) hg (argsL := argsL) (rest := rest) (hlen _ hsigM) hstack hdg
  obtain ⟨v, B, X', hpost, hsteps⟩ := hK m meth c ⟨T.setVm vm₁, locs, cells, slots⟩ { g with stack := rest } (.invokevirtual index) mk (Value.ref b :: argsL).toArray X₁ hg hsize hdg hW (X₁.named hnamed) (hpre vm₁ X₁.warmed)
  exact ⟨v, vm₁, B, X₁.warmed, X', hpost, fun target h => hstep₁ _ fun acts => by rw [doInvoke_state]; exact hsteps.trans h⟩
abbrev vx_CVW (R : Room) (s : State) (args : Array Value) (own C : String) (index : Nat) (y : MethodName) (bytes : ByteArray) (maxL : Nat) (ret : Option FieldType) (hh : List (Nat × Nat × Nat × Nat)) (ws : List Cond) (rm : Room) (mc ms n : Nat) : Prop :=
  (rm.cells = mc ∧ rm.slots = ms ∧ rm.frames + 1 ≤ R.frames ∧ 8 + (maxL + 11) + rm.locals ≤ R.locals ∧ (∀ w ∈ ws, ∀ (a' : Array Value) (U : State), s.WarmedH U.vm → w.before a' U = true) ∧ Cond.codeWith y bytes maxL ret hh ∈ ws) ∧
  (Cond.codeWith y bytes maxL ret hh).before args s = true ∧ (Cond.initialized y.cls).before args s = true ∧ (y.cls ≠ "java/lang/invoke/MethodHandle" ∧ y.cls ≠ "java/lang/invoke/VarHandle") ∧
  (∀ sig, parseMethodDescriptor y.desc = some sig → n = sig.parameters.length) ∧ (Cond.methodLink own index y).before args s = true ∧ (Cond.instanceMethod y).before args s = true ∧ (Cond.selects C y y).before args s = true
theorem vx_cwVW {own C : String} {index maxL mc ms : Nat} {y : MethodName} {bytes : ByteArray} {ret : Option FieldType} {hh : List (Nat × Nat × Nat × Nat)} {Ts ws ws' : List Cond} {rm : Room} (n : Nat) (ht : ∀ w ∈ Ts, w.before args s = true) (hT : GoodIn Ts (wsV own index C y ws)) (hw : ws = Cond.codeWith y bytes maxL ret hh :: ws') (hrc : rm.cells = mc) (hrs : rm.slots = ms)
    (hd : y.cls = C ∧ y.cls ≠ "java/lang/invoke/MethodHandle" ∧ y.cls ≠ "java/lang/invoke/VarHandle" ∧ (parseMethodDescriptor y.desc).map (fun d => d.parameters.length) = some n) (hR : rm.frames + 1 ≤ R.frames ∧ 8 + (maxL + 11) + rm.locals ≤ R.locals) :
    vx_CVW R s args own C index y bytes maxL ret hh ws rm mc ms n := by
  obtain ⟨hC, hd⟩ := hd
  subst hC
  have ok : ∀ w ∈ wsV own index y.cls y ws, w.before args s = true := fun w h => ht w (hT w h).1
  have hG : GoodIn Ts ws := fun w h => hT w (by unfold wsV; exact List.mem_append_right _ h)
  have hc : Cond.codeWith y bytes maxL ret hh ∈ ws := by rw [hw]; exact List.mem_cons_self
  refine ⟨⟨hrc, hrs, hR.1, hR.2, pay_in ht hG, hc⟩, ht _ (hG _ hc).1, ok _ (by simp [wsV]), ⟨hd.1, hd.2.1⟩, fun sig h => ?_, ok _ (by simp [wsV]), ok _ (by simp [wsV]), ok _ (by simp [wsV])⟩
  have h2 := hd.2.2
  rw [h] at h2
  exact (Option.some.inj h2).symm
theorem vx_runVW {y : MethodName} {bytes cc : ByteArray} {maxL nL mc ms n index : Nat} {ret : Option FieldType} {hh : List (Nat × Nat × Nat × Nat)} {ws : List Cond} {rm : Room} {Pc : Array Value → State → Prop} {Qc : Array Value → State → Outcome → State → Prop} {free : Addr → Prop} {Ts : List Cond} {own C : String} {b : Addr} {As rest : List Value} {g : JFrame}
    (S : CallFix p m c cc nL s args Ts own) (hM : Met l y ws rm Pc Qc mc ms free) (cw : vx_CVW R s args own C index y bytes maxL ret hh ws rm mc ms n) (hp : PreV s H C b Pc As)
    (hg : g.method = m) (hn : As.length = n) (hsize : g.locals.size = nL) (hstack : g.stack = As.reverse ++ .ref b :: rest) (hW : 2 * g.monitorRoom + (rest.map fun v => v.category).sum ≤ 8) (hdg : decode cc g.pc = .ok (.invokevirtual index, 3)) (hf : cells + mc ≤ R.cells ∧ slots + ms ≤ R.slots) :
    va_Run p l e R s m args below meth c H locs cells slots mc ms g rest (Qc (Value.ref b :: As).toArray) free := by
  obtain ⟨⟨hrc, hrs, hfr, hlo, hws, hcw⟩, hcode, hini, hy, hlen, hl, hin, hse⟩ := cw
  have hK : Back l R p e below s args y 3 8 (PreOf R mc ms Pc) (PostOf Qc mc ms free) := va_backW (hh := hh) (bytes := bytes) (maxL := maxL) (ret := ret) hM hp.1 hrc hrs hfr hlo hws hcw (fun a' U hW => word_at hW (Or.inl (by first | rfl | simp [Cond.onTables, Cond.keeps, Cond.steady])) hini)
  obtain ⟨hx, hb, hml, ho, -⟩ := S
  obtain ⟨-, ⟨cellB, hcB, hoB, hclB⟩, hPc⟩ := hp
  intro T hT X
  obtain ⟨v, vm₁, ⟨U', l2, c2, s2⟩, hW₁, X', ⟨g', mk, t, L, e1, e2, hq, h1, hL, h2, h3⟩, st⟩ := vx_callVW X hx (C := C) (hh := hh) (bytes := bytes) (maxL := maxL) (ret := ret) ho hl hin hse hcode hy hK (by rw [hT]; exact hcB) hoB hclB hg (hsize.trans hml.symm) (argsL := As) (rest := rest) (fun sig h => hn.trans (hlen sig h)) hstack hW (by rw [hb]; exact hdg)
    (fun vm₁ hW₁ => ⟨hf.1, hf.2, hPc (T.setVm vm₁) hT hW₁⟩)
  dsimp only [Pt.U, Pt.locs, Pt.cells, Pt.slots] at X' e1 e2 h1 h2 h3 st
  subst h1; subst h2; subst h3
  exact ⟨v, (T.setVm vm₁).calling g' mk (Value.ref b :: As).toArray, t, U', L, hT, X', hL, e1, e2, hq, st⟩
section
variable {y : MethodName} {bytes cc : ByteArray} {maxL nL mc ms n index : Nat} {ret : Option FieldType} {ws : List Cond} {rm : Room} {Pc : Array Value → State → Prop} {Qc : Array Value → State → Outcome → State → Prop} {XC : String → State → State → Prop} {free : Addr → Prop} {Ts : List Cond} {own C : String} {b : Addr} {As rest : List Value} {g : JFrame}
theorem vx_runVX {hh : List (Nat × Nat × Nat × Nat)} (S : CallFix p m c cc nL s args Ts own) (hM : vx_Met l y ws rm Pc Qc XC mc ms free) (cw : vx_CVW R s args own C index y bytes maxL ret hh ws rm mc ms n) (hp : PreV s H C b Pc As)
    (hg : g.method = m) (hn : As.length = n) (hsize : g.locals.size = nL) (hstack : g.stack = As.reverse ++ .ref b :: rest) (hW : 2 * g.monitorRoom + (rest.map fun v => v.category).sum ≤ 8) (hdg : decode cc g.pc = .ok (.invokevirtual index, 3)) (hf : cells + mc ≤ R.cells ∧ slots + ms ≤ R.slots) :
    vx_Run p l e R s m args below meth c H locs cells slots mc ms g rest (Qc (Value.ref b :: As).toArray) XC free := by
  obtain ⟨⟨hrc, hrs, hfr, hlo, hws, hcw⟩, hcode, hini, hy, hlen, hl, hin, hse⟩ := cw
  have hK : vx_Back l R p e below s args y 3 8 (PreOf R mc ms Pc) (PostOf Qc mc ms free) (vx_Post XC mc ms free) := vx_backW (hh := hh) (bytes := bytes) (maxL := maxL) (ret := ret) hM hp.1 hrc hrs hfr hlo hws hcw (fun a' U hW => word_at hW (Or.inl (by first | rfl | simp [Cond.onTables, Cond.keeps, Cond.steady])) hini)
  obtain ⟨hx, hb, hml, ho, -⟩ := S
  obtain ⟨-, ⟨cellB, hcB, hoB, hclB⟩, hPc⟩ := hp
  intro T hT X
  rcases vx_callVX X hx (C := C) (hh := hh) (bytes := bytes) (maxL := maxL) (ret := ret) ho hl hin hse hcode hy hK (by rw [hT]; exact hcB) hoB hclB hg (hsize.trans hml.symm) (argsL := As) (rest := rest) (fun sig h => hn.trans (hlen sig h)) hstack hW (by rw [hb]; exact hdg)
    (fun vm₁ hW₁ => ⟨hf.1, hf.2, hPc (T.setVm vm₁) hT hW₁⟩) with ⟨v, vm₁, ⟨U', l2, c2, s2⟩, hW₁, X', ⟨g', mk, t, L, e1, e2, hq, h1, hL, h2, h3⟩, st⟩ | ⟨q, vm₁, ⟨U', l2, c2, s2⟩, hW₁, X', ⟨g', mk, t, L, E, ce, e1, e2, hq, hce, hcv, hcl, h1, hL, h2, h3⟩, st⟩
  · dsimp only [Pt.U, Pt.locs, Pt.cells, Pt.slots] at X' e1 e2 h1 h2 h3 st
    subst h1; subst h2; subst h3
    exact Or.inl ⟨v, (T.setVm vm₁).calling g' mk (Value.ref b :: As).toArray, t, U', L, hT, X', hL, e1, e2, hq, st⟩
  · dsimp only [Pt.U, Pt.locs, Pt.cells, Pt.slots] at X' e1 e2 h1 h2 h3 st hcl
    subst h1; subst h2; subst h3
    exact Or.inr ⟨q, (T.setVm vm₁).calling g' mk (Value.ref b :: As).toArray, t, U', L, E, ce, hT, X', hL, e1, e2, hq, hce, hcv, vx_cls hW₁ hcl, st⟩
theorem vx_runSX {hh : List (Nat × Nat × Nat × Nat)} (S : CallFix p m c cc nL s args Ts own) (hM : vx_Met l y ws rm Pc Qc XC mc ms free) (cw : vx_CSW R s args own index y bytes maxL ret hh ws rm mc ms n) (hp : PreS s H Pc As)
    (hg : g.method = m) (hn : As.length = n) (hsize : g.locals.size = nL) (hstack : g.stack = As.reverse ++ rest) (hW : 2 * g.monitorRoom + (rest.map fun v => v.category).sum ≤ 8) (hdg : decode cc g.pc = .ok (.invokestatic index, 3)) (hf : cells + mc ≤ R.cells ∧ slots + ms ≤ R.slots) :
    vx_Run p l e R s m args below meth c H locs cells slots mc ms g rest (Qc As.toArray) XC free := by
  obtain ⟨⟨hrc, hrs, hfr, hlo, hws, hcw⟩, hcode, hini, hy, hlen, hl, hstt⟩ := cw
  have hK : vx_Back l R p e below s args y 3 8 (PreOf R mc ms Pc) (PostOf Qc mc ms free) (vx_Post XC mc ms free) := vx_backW (hh := hh) (bytes := bytes) (maxL := maxL) (ret := ret) hM hp.1 hrc hrs hfr hlo hws hcw (fun a' U hW => word_at hW (Or.inl (by first | rfl | simp [Cond.onTables, Cond.keeps, Cond.steady])) hini)
  obtain ⟨hx, hb, hml, ho, -⟩ := S
  intro T hT X
  rcases vx_callSX X hx (hh := hh) (bytes := bytes) (maxL := maxL) (ret := ret) ho hl hstt hini hcode hy hK hg (hsize.trans hml.symm) (argsL := As) (rest := rest) (fun sig h => hn.trans (hlen sig h)) hstack hW (by rw [hb]; exact hdg)
    (fun vm₁ hW₁ => ⟨hf.1, hf.2, hp.2 (T.setVm vm₁) hT hW₁⟩) with ⟨v, vm₁, ⟨U', l2, c2, s2⟩, hW₁, X', ⟨g', mk, t, L, e1, e2, hq, h1, hL, h2, h3⟩, st⟩ | ⟨q, vm₁, ⟨U', l2, c2, s2⟩, hW₁, X', ⟨g', mk, t, L, E, ce, e1, e2, hq, hce, hcv, hcl, h1, hL, h2, h3⟩, st⟩
  · dsimp only [Pt.U, Pt.locs, Pt.cells, Pt.slots] at X' e1 e2 h1 h2 h3 st
    subst h1; subst h2; subst h3
    exact Or.inl ⟨v, (T.setVm vm₁).calling g' mk As.toArray, t, U', L, hT, X', hL, e1, e2, hq, st⟩
  · dsimp only [Pt.U, Pt.locs, Pt.cells, Pt.slots] at X' e1 e2 h1 h2 h3 st hcl
    subst h1; subst h2; subst h3
    exact Or.inr ⟨q, (T.setVm vm₁).calling g' mk As.toArray, t, U', L, E, ce, hT, X', hL, e1, e2, hq, hce, hcv, vx_cls hW₁ hcl, st⟩
end
end VXH
theorem vx_ofWH {l : Launch} {y : MethodName} {ws ws' : List Cond} {rm : Room} {Pc : Array Value → State → Prop} {Qc : Array Value → State → Outcome → State → Prop} {XC : String → State → State → Prop} {mc ms : Nat} {free : Addr → Prop} {cc : ByteArray} {maxL : Nat} {ret : Option FieldType} {hh : List (Nat × Nat × Nat × Nat)}
    (hy : plainName y.cls = true) (hw : ws = Cond.codeWith y cc maxL ret hh :: ws')
    (body : ∀ p e s m args below meth c s₁, BodyLoose p l y (headSpec ws rm) cc maxL ret e s m args below meth c s₁ → c.maxLocals = maxL → Pc args s →
      W p l e (headSpec ws rm).room s m args below meth c s.heap [] 0 0 (vx_MQ below Qc XC args s mc ms free) (entryFrame m args maxL)) : vx_Met l y ws rm Pc Qc XC mc ms free := by
  refine MetFree.of_bodyS (code := cc) (maxLocals := maxL) (ret := ret) hy ?_ ?_
  · intro args s m h hn
    obtain ⟨m9, meth, c, hn9, h1, h2, h3, h4, -, h5, h6, -⟩ := Cond.codeWith_spec (atoms_spec (ws := ws) h _ (by rw [hw]; exact List.mem_cons_self))
    cases hn.symm.trans hn9
    exact ⟨meth, c, h1, h2, h3, h4, h5, h6⟩
  · intro p e s m args below meth c s₁ B hml hP _
    have hh0 : s₁.heap = s.heap := by rw [B.state]; rfl
    obtain ⟨t, a1, o, b1, b2, b3⟩ := body p e s m args below meth c s₁ B hml hP s₁ hh0 (Stand.of_body B)
    exact ⟨t, o, a1, b1, b2, b3⟩
/-! ===== END ===== -/
end
section
def RX0 : String := "ThumbnailRow$Cast"
def TX0 : u_T := fun k => match k with
  | 0 => ("ThumbnailRow$Cast", "places", "[C", true)
  | 1 => ("ThumbnailRow$Cast", "gazes", "[C", true)
  | 2 => ("ThumbnailRow$Cast", "entries", "[C", true)
  | _ => ("ThumbnailRow$Cast", "exits", "[C", true)
def tyX0 : Nat → FieldType := fun k => match k with
  | 0 => .array .char
  | 1 => .array .char
  | 2 => .array .char
  | _ => .array .char
abbrev wsX00 : List Cond := u_ws RX0 TX0 4
theorem nmX0 : ∀ a, a < 4 → ∀ b, b < 4 → a ≠ b → (TX0 a).2.1 ≠ (TX0 b).2.1 := by decide +kernel
theorem tyX0_ok : ∀ k, k < 4 → parseFieldDescriptor (TX0 k).2.2.1 = some (tyX0 k) := by decide +kernel
abbrev cX0_init : ByteArray := prog_2_method_1_code
def yX0_init : MethodName := ⟨RX0, "<init>", "()V"⟩
abbrev cX0_has : ByteArray := prog_2_method_2_code
def yX0_has : MethodName := ⟨RX0, "has", "(I)Z"⟩
abbrev cX0_members : ByteArray := prog_2_method_3_code
def yX0_members : MethodName := ⟨RX0, "members", "()I"⟩
abbrev cX0_onlyMember : ByteArray := prog_2_method_4_code
def yX0_onlyMember : MethodName := ⟨RX0, "onlyMember", "()I"⟩
abbrev cX0_areEdgesOfThoseIn : ByteArray := prog_2_method_5_code
def yX0_areEdgesOfThoseIn : MethodName := ⟨RX0, "areEdgesOfThoseIn", "()Z"⟩
def RX1 : String := "ThumbnailRow$Note"
def TX1 : u_T := fun k => match k with
  | 0 => ("ThumbnailRow$Note", "subject", "LThumbnailRow$Shot;", true)
  | 1 => ("ThumbnailRow$Note", "version", "I", false)
  | _ => ("ThumbnailRow$Note", "verdict", "C", false)
def tyX1 : Nat → FieldType := fun k => match k with
  | 0 => .object "ThumbnailRow$Shot"
  | 1 => .int
  | _ => .char
abbrev wsX10 : List Cond := u_ws RX1 TX1 3
theorem nmX1 : ∀ a, a < 3 → ∀ b, b < 3 → a ≠ b → (TX1 a).2.1 ≠ (TX1 b).2.1 := by decide +kernel
theorem tyX1_ok : ∀ k, k < 3 → parseFieldDescriptor (TX1 k).2.2.1 = some (tyX1 k) := by decide +kernel
abbrev cX1_init : ByteArray := prog_3_method_1_code
def yX1_init : MethodName := ⟨RX1, "<init>", "(LThumbnailRow$Shot;)V"⟩
abbrev cX1_kind : ByteArray := prog_3_method_2_code
def yX1_kind : MethodName := ⟨RX1, "kind", "()C"⟩
def RX2 : String := "ThumbnailRow$Orders"
def TX2 : u_T := fun k => match k with
  | 0 => ("ThumbnailRow$Orders", "wrongCuts", "[Z", true)
  | 1 => ("ThumbnailRow$Orders", "goodOnes", "[I", true)
  | 2 => ("ThumbnailRow$Orders", "leastFaults", "[I", true)
  | _ => ("ThumbnailRow$Orders", "count", "I", false)
def tyX2 : Nat → FieldType := fun k => match k with
  | 0 => .array .boolean
  | 1 => .array .int
  | 2 => .array .int
  | _ => .int
abbrev wsX20 : List Cond := u_ws RX2 TX2 4
theorem nmX2 : ∀ a, a < 4 → ∀ b, b < 4 → a ≠ b → (TX2 a).2.1 ≠ (TX2 b).2.1 := by decide +kernel
theorem tyX2_ok : ∀ k, k < 4 → parseFieldDescriptor (TX2 k).2.2.1 = some (tyX2 k) := by decide +kernel
abbrev cX2_init : ByteArray := prog_4_method_1_code
def yX2_init : MethodName := ⟨RX2, "<init>", "()V"⟩
abbrev cX2_layOut : ByteArray := prog_4_method_2_code
def yX2_layOut : MethodName := ⟨RX2, "layOut", "(Ljava/util/ArrayList;)V"⟩
abbrev cX2_allGood : ByteArray := prog_4_method_3_code
def yX2_allGood : MethodName := ⟨RX2, "allGood", "()I"⟩
abbrev cX2_leastWrong : ByteArray := prog_4_method_4_code
def yX2_leastWrong : MethodName := ⟨RX2, "leastWrong", "()I"⟩
abbrev cX2_goodEndingWith : ByteArray := prog_4_method_5_code
def yX2_goodEndingWith : MethodName := ⟨RX2, "goodEndingWith", "(II)I"⟩
abbrev cX2_leastEndingWith : ByteArray := prog_4_method_6_code
def yX2_leastEndingWith : MethodName := ⟨RX2, "leastEndingWith", "(II)I"⟩
abbrev cX2_cell : ByteArray := prog_4_method_7_code
def yX2_cell : MethodName := ⟨RX2, "cell", "(II)I"⟩
def RX3 : String := "ThumbnailRow$Pardon"
def TX3 : u_T := fun k => match k with
  | 0 => ("ThumbnailRow$Pardon", "cause", "C", false)
  | 1 => ("ThumbnailRow$Pardon", "version", "I", false)
  | 2 => ("ThumbnailRow$Pardon", "aheadIndex", "I", false)
  | _ => ("ThumbnailRow$Pardon", "aheadVersion", "I", false)
def tyX3 : Nat → FieldType := fun k => match k with
  | 0 => .char
  | 1 => .int
  | 2 => .int
  | _ => .int
abbrev wsX30 : List Cond := u_ws RX3 TX3 4
theorem nmX3 : ∀ a, a < 4 → ∀ b, b < 4 → a ≠ b → (TX3 a).2.1 ≠ (TX3 b).2.1 := by decide +kernel
theorem tyX3_ok : ∀ k, k < 4 → parseFieldDescriptor (TX3 k).2.2.1 = some (tyX3 k) := by decide +kernel
abbrev cX3_init : ByteArray := prog_5_method_1_code
def yX3_init : MethodName := ⟨RX3, "<init>", "()V"⟩
abbrev cX3_grant : ByteArray := prog_5_method_2_code
def yX3_grant : MethodName := ⟨RX3, "grant", "(CLThumbnailRow$Shot;LThumbnailRow$Shot;)V"⟩
abbrev cX3_holds : ByteArray := prog_5_method_3_code
def yX3_holds : MethodName := ⟨RX3, "holds", "(LThumbnailRow$Shot;LThumbnailRow$Shot;)Z"⟩
def RX4 : String := "ThumbnailRow$Shot"
def TX4 : u_T := fun k => match k with
  | 0 => ("ThumbnailRow$Shot", "index", "I", true)
  | 1 => ("ThumbnailRow$Shot", "cast", "LThumbnailRow$Cast;", true)
  | 2 => ("ThumbnailRow$Shot", "pardon", "LThumbnailRow$Pardon;", true)
  | 3 => ("ThumbnailRow$Shot", "side", "C", false)
  | 4 => ("ThumbnailRow$Shot", "lens", "I", false)
  | 5 => ("ThumbnailRow$Shot", "frames", "I", false)
  | 6 => ("ThumbnailRow$Shot", "version", "I", false)
  | 7 => ("ThumbnailRow$Shot", "nameNumber", "I", false)
  | 8 => ("ThumbnailRow$Shot", "nameLetter", "C", false)
  | 9 => ("ThumbnailRow$Shot", "holder", "I", false)
  | 10 => ("ThumbnailRow$Shot", "handedVersion", "I", false)
  | _ => ("ThumbnailRow$Shot", "isDear", "Z", false)
def tyX4 : Nat → FieldType := fun k => match k with
  | 0 => .int
  | 1 => .object "ThumbnailRow$Cast"
  | 2 => .object "ThumbnailRow$Pardon"
  | 3 => .char
  | 4 => .int
  | 5 => .int
  | 6 => .int
  | 7 => .int
  | 8 => .char
  | 9 => .int
  | 10 => .int
  | _ => .boolean
abbrev wsX40 : List Cond := u_ws RX4 TX4 12
theorem nmX4 : ∀ a, a < 12 → ∀ b, b < 12 → a ≠ b → (TX4 a).2.1 ≠ (TX4 b).2.1 := by decide +kernel
theorem tyX4_ok : ∀ k, k < 12 → parseFieldDescriptor (TX4 k).2.2.1 = some (tyX4 k) := by decide +kernel
abbrev cX4_init : ByteArray := prog_6_method_1_code
def yX4_init : MethodName := ⟨RX4, "<init>", "(ICII)V"⟩
abbrev cX4_film : ByteArray := prog_6_method_2_code
def yX4_film : MethodName := ⟨RX4, "film", "(CI)V"⟩
abbrev cX4_changeLength : ByteArray := prog_6_method_3_code
def yX4_changeLength : MethodName := ⟨RX4, "changeLength", "(I)I"⟩
abbrev cX4_putIn : ByteArray := prog_6_method_4_code
def yX4_putIn : MethodName := ⟨RX4, "putIn", "(ICC)V"⟩
abbrev cX4_takeOut : ByteArray := prog_6_method_5_code
def yX4_takeOut : MethodName := ⟨RX4, "takeOut", "(I)V"⟩
abbrev cX4_changeEdge : ByteArray := prog_6_method_6_code
def yX4_changeEdge : MethodName := ⟨RX4, "changeEdge", "([CIC)C"⟩
abbrev cX4_excusedFor : ByteArray := prog_6_method_7_code
def yX4_excusedFor : MethodName := ⟨RX4, "excusedFor", "(LThumbnailRow$Shot;)C"⟩
abbrev cX4_setupBit : ByteArray := prog_6_method_8_code
def yX4_setupBit : MethodName := ⟨RX4, "setupBit", "()I"⟩
def RX5 : String := "ThumbnailRow"
def TX5 : u_T := fun k => match k with
  | 0 => ("ThumbnailRow", "made", "Ljava/util/ArrayList;", true)
  | 1 => ("ThumbnailRow", "reel", "Ljava/util/ArrayList;", true)
  | 2 => ("ThumbnailRow", "noted", "Ljava/util/ArrayList;", true)
  | 3 => ("ThumbnailRow", "reelOrders", "LThumbnailRow$Orders;", true)
  | 4 => ("ThumbnailRow", "isLocked", "Z", false)
  | _ => ("ThumbnailRow", "conflictCount", "I", false)
def tyX5 : Nat → FieldType := fun k => match k with
  | 0 => .object "java/util/ArrayList"
  | 1 => .object "java/util/ArrayList"
  | 2 => .object "java/util/ArrayList"
  | 3 => .object "ThumbnailRow$Orders"
  | 4 => .boolean
  | _ => .int
abbrev wsX50 : List Cond := u_ws RX5 TX5 6
theorem nmX5 : ∀ a, a < 6 → ∀ b, b < 6 → a ≠ b → (TX5 a).2.1 ≠ (TX5 b).2.1 := by decide +kernel
theorem tyX5_ok : ∀ k, k < 6 → parseFieldDescriptor (TX5 k).2.2.1 = some (tyX5 k) := by decide +kernel
abbrev cX5_init : ByteArray := prog_1_method_1_code
def yX5_init : MethodName := ⟨RX5, "<init>", "()V"⟩
abbrev cX5_shot : ByteArray := prog_1_method_2_code
def yX5_shot : MethodName := ⟨RX5, "shot", "(CIII)I"⟩
abbrev cX5_drop : ByteArray := prog_1_method_3_code
def yX5_drop : MethodName := ⟨RX5, "drop", "(I)I"⟩
abbrev cX5_move : ByteArray := prog_1_method_4_code
def yX5_move : MethodName := ⟨RX5, "move", "(II)I"⟩
abbrev cX5_shots : ByteArray := prog_1_method_5_code
def yX5_shots : MethodName := ⟨RX5, "shots", "()I"⟩
abbrev cX5_at : ByteArray := prog_1_method_6_code
def yX5_at : MethodName := ⟨RX5, "at", "(I)I"⟩
abbrev cX5_place : ByteArray := prog_1_method_7_code
def yX5_place : MethodName := ⟨RX5, "place", "(I)I"⟩
abbrev cX5_camera : ByteArray := prog_1_method_8_code
def yX5_camera : MethodName := ⟨RX5, "camera", "(ICI)I"⟩
abbrev cX5_length : ByteArray := prog_1_method_9_code
def yX5_length : MethodName := ⟨RX5, "length", "(II)I"⟩
abbrev cX5_stand : ByteArray := prog_1_method_10_code
def yX5_stand : MethodName := ⟨RX5, "stand", "(IICC)I"⟩
abbrev cX5_enters : ByteArray := prog_1_method_11_code
def yX5_enters : MethodName := ⟨RX5, "enters", "(IIC)C"⟩
abbrev cX5_leaves : ByteArray := prog_1_method_12_code
def yX5_leaves : MethodName := ⟨RX5, "leaves", "(IIC)C"⟩
abbrev cX5_version : ByteArray := prog_1_method_13_code
def yX5_version : MethodName := ⟨RX5, "version", "(I)I"⟩
abbrev cX5_time : ByteArray := prog_1_method_14_code
def yX5_time : MethodName := ⟨RX5, "time", "(I)I"⟩
abbrev cX5_seen : ByteArray := prog_1_method_15_code
def yX5_seen : MethodName := ⟨RX5, "seen", "(I)I"⟩
abbrev cX5_ended : ByteArray := prog_1_method_16_code
def yX5_ended : MethodName := ⟨RX5, "ended", "(I)I"⟩
abbrev cX5_lock : ByteArray := prog_1_method_17_code
def yX5_lock : MethodName := ⟨RX5, "lock", "()Z"⟩
abbrev cX5_number : ByteArray := prog_1_method_18_code
def yX5_number : MethodName := ⟨RX5, "number", "(I)I"⟩
abbrev cX5_letter : ByteArray := prog_1_method_19_code
def yX5_letter : MethodName := ⟨RX5, "letter", "(I)C"⟩
abbrev cX5_named : ByteArray := prog_1_method_20_code
def yX5_named : MethodName := ⟨RX5, "named", "(IC)I"⟩
abbrev cX5_wrong : ByteArray := prog_1_method_21_code
def yX5_wrong : MethodName := ⟨RX5, "wrong", "(I)C"⟩
abbrev cX5_excuse : ByteArray := prog_1_method_22_code
def yX5_excuse : MethodName := ⟨RX5, "excuse", "(IC)C"⟩
abbrev cX5_isBroken : ByteArray := prog_1_method_23_code
def yX5_isBroken : MethodName := ⟨RX5, "isBroken", "(I)Z"⟩
abbrev cX5_broken : ByteArray := prog_1_method_24_code
def yX5_broken : MethodName := ⟨RX5, "broken", "()I"⟩
abbrev cX5_hand : ByteArray := prog_1_method_25_code
def yX5_hand : MethodName := ⟨RX5, "hand", "(II)I"⟩
abbrev cX5_bring : ByteArray := prog_1_method_26_code
def yX5_bring : MethodName := ⟨RX5, "bring", "(II)Z"⟩
abbrev cX5_with : ByteArray := prog_1_method_27_code
def yX5_with : MethodName := ⟨RX5, "with", "(I)I"⟩
abbrev cX5_conflicts : ByteArray := prog_1_method_28_code
def yX5_conflicts : MethodName := ⟨RX5, "conflicts", "()I"⟩
abbrev cX5_note : ByteArray := prog_1_method_29_code
def yX5_note : MethodName := ⟨RX5, "note", "(I)I"⟩
abbrev cX5_noteIs : ByteArray := prog_1_method_30_code
def yX5_noteIs : MethodName := ⟨RX5, "noteIs", "(I)C"⟩
abbrev cX5_close : ByteArray := prog_1_method_31_code
def yX5_close : MethodName := ⟨RX5, "close", "(IZ)Z"⟩
abbrev cX5_renew : ByteArray := prog_1_method_32_code
def yX5_renew : MethodName := ⟨RX5, "renew", "(I)I"⟩
abbrev cX5_notes : ByteArray := prog_1_method_33_code
def yX5_notes : MethodName := ⟨RX5, "notes", "(C)I"⟩
abbrev cX5_dear : ByteArray := prog_1_method_34_code
def yX5_dear : MethodName := ⟨RX5, "dear", "(IZ)Z"⟩
abbrev cX5_setups : ByteArray := prog_1_method_35_code
def yX5_setups : MethodName := ⟨RX5, "setups", "()I"⟩
abbrev cX5_first : ByteArray := prog_1_method_36_code
def yX5_first : MethodName := ⟨RX5, "first", "()I"⟩
abbrev cX5_days : ByteArray := prog_1_method_37_code
def yX5_days : MethodName := ⟨RX5, "days", "()I"⟩
abbrev cX5_orders : ByteArray := prog_1_method_38_code
def yX5_orders : MethodName := ⟨RX5, "orders", "()I"⟩
abbrev cX5_best : ByteArray := prog_1_method_39_code
def yX5_best : MethodName := ⟨RX5, "best", "()I"⟩
abbrev cX5_checksum : ByteArray := prog_1_method_40_code
def yX5_checksum : MethodName := ⟨RX5, "checksum", "()J"⟩
abbrev cX5_brokenShare : ByteArray := prog_1_method_41_code
def yX5_brokenShare : MethodName := ⟨RX5, "brokenShare", "()F"⟩
abbrev cX5_meanLength : ByteArray := prog_1_method_42_code
def yX5_meanLength : MethodName := ⟨RX5, "meanLength", "()D"⟩
abbrev cX5_isSound : ByteArray := prog_1_method_43_code
def yX5_isSound : MethodName := ⟨RX5, "isSound", "()Z"⟩
abbrev cX5_madeShot : ByteArray := prog_1_method_44_code
def yX5_madeShot : MethodName := ⟨RX5, "madeShot", "(I)LThumbnailRow$Shot;"⟩
abbrev cX5_madeNote : ByteArray := prog_1_method_45_code
def yX5_madeNote : MethodName := ⟨RX5, "madeNote", "(I)LThumbnailRow$Note;"⟩
abbrev cX5_placeInReel : ByteArray := prog_1_method_46_code
def yX5_placeInReel : MethodName := ⟨RX5, "placeInReel", "(LThumbnailRow$Shot;)I"⟩
abbrev cX5_checkInReel : ByteArray := prog_1_method_47_code
def yX5_checkInReel : MethodName := ⟨RX5, "checkInReel", "(LThumbnailRow$Shot;)V"⟩
abbrev cX5_foundPlace : ByteArray := prog_1_method_48_code
def yX5_foundPlace : MethodName := ⟨RX5, "foundPlace", "(LThumbnailRow$Shot;)I"⟩
abbrev cX5_foundNumber : ByteArray := prog_1_method_49_code
def yX5_foundNumber : MethodName := ⟨RX5, "foundNumber", "(LThumbnailRow$Shot;)I"⟩
abbrev cX5_checkCamera : ByteArray := prog_1_method_50_code
def yX5_checkCamera : MethodName := ⟨RX5, "checkCamera", "(CI)V"⟩
abbrev cX5_checkLength : ByteArray := prog_1_method_51_code
def yX5_checkLength : MethodName := ⟨RX5, "checkLength", "(I)V"⟩
abbrev cX5_checkCharacter : ByteArray := prog_1_method_52_code
def yX5_checkCharacter : MethodName := ⟨RX5, "checkCharacter", "(I)V"⟩
abbrev cX5_isPosition : ByteArray := prog_1_method_53_code
def yX5_isPosition : MethodName := ⟨RX5, "isPosition", "(C)Z"⟩
abbrev cX5_shotForEdge : ByteArray := prog_1_method_54_code
def yX5_shotForEdge : MethodName := ⟨RX5, "shotForEdge", "(IIC)LThumbnailRow$Shot;"⟩
abbrev cX5_checkCut : ByteArray := prog_1_method_55_code
def yX5_checkCut : MethodName := ⟨RX5, "checkCut", "(I)V"⟩
abbrev cX5_checkShortReel : ByteArray := prog_1_method_56_code
def yX5_checkShortReel : MethodName := ⟨RX5, "checkShortReel", "()V"⟩
abbrev cX5_placeOf : ByteArray := prog_1_method_57_code
def yX5_placeOf : MethodName := ⟨RX5, "placeOf", "(LThumbnailRow$Shot;)I"⟩
abbrev cX5_beginOf : ByteArray := prog_1_method_58_code
def yX5_beginOf : MethodName := ⟨RX5, "beginOf", "(I)I"⟩
abbrev cX5_indexSeen : ByteArray := prog_1_method_59_code
def yX5_indexSeen : MethodName := ⟨RX5, "indexSeen", "(I)I"⟩
abbrev cX5_nameNumberOf : ByteArray := prog_1_method_60_code
def yX5_nameNumberOf : MethodName := ⟨RX5, "nameNumberOf", "(LThumbnailRow$Shot;)I"⟩
abbrev cX5_numberBehind : ByteArray := prog_1_method_61_code
def yX5_numberBehind : MethodName := ⟨RX5, "numberBehind", "(I)I"⟩
abbrev cX5_freeLetter : ByteArray := prog_1_method_62_code
def yX5_freeLetter : MethodName := ⟨RX5, "freeLetter", "(I)C"⟩
abbrev cX5_isNameTaken : ByteArray := prog_1_method_63_code
def yX5_isNameTaken : MethodName := ⟨RX5, "isNameTaken", "(IC)Z"⟩
abbrev cX5_brokenCuts : ByteArray := prog_1_method_64_code
def yX5_brokenCuts : MethodName := ⟨RX5, "brokenCuts", "()I"⟩
abbrev cX5_boardsWith : ByteArray := prog_1_method_65_code
def yX5_boardsWith : MethodName := ⟨RX5, "boardsWith", "(I)I"⟩
abbrev cX5_notesOf : ByteArray := prog_1_method_66_code
def yX5_notesOf : MethodName := ⟨RX5, "notesOf", "(C)I"⟩
abbrev cX5_setupCount : ByteArray := prog_1_method_67_code
def yX5_setupCount : MethodName := ⟨RX5, "setupCount", "(Z)I"⟩
abbrev cX5_isBrokenBetween : ByteArray := prog_1_method_68_code
def yX5_isBrokenBetween : MethodName := ⟨RX5, "isBrokenBetween", "(LThumbnailRow$Shot;LThumbnailRow$Shot;)Z"⟩
abbrev cX5_faultBetween : ByteArray := prog_1_method_69_code
def yX5_faultBetween : MethodName := ⟨RX5, "faultBetween", "(LThumbnailRow$Shot;LThumbnailRow$Shot;)C"⟩
abbrev cX5_isAcrossLine : ByteArray := prog_1_method_70_code
def yX5_isAcrossLine : MethodName := ⟨RX5, "isAcrossLine", "(LThumbnailRow$Shot;LThumbnailRow$Shot;)Z"⟩
abbrev cX5_isJump : ByteArray := prog_1_method_71_code
def yX5_isJump : MethodName := ⟨RX5, "isJump", "(LThumbnailRow$Shot;LThumbnailRow$Shot;)Z"⟩
abbrev cX5_areGazesUnmatched : ByteArray := prog_1_method_72_code
def yX5_areGazesUnmatched : MethodName := ⟨RX5, "areGazesUnmatched", "(LThumbnailRow$Cast;LThumbnailRow$Cast;)Z"⟩
abbrev cX5_isBackByTheSameEdge : ByteArray := prog_1_method_73_code
def yX5_isBackByTheSameEdge : MethodName := ⟨RX5, "isBackByTheSameEdge", "(LThumbnailRow$Cast;LThumbnailRow$Cast;I)Z"⟩
abbrev cX5_isMisplaced : ByteArray := prog_1_method_74_code
def yX5_isMisplaced : MethodName := ⟨RX5, "isMisplaced", "(LThumbnailRow$Cast;LThumbnailRow$Cast;I)Z"⟩
abbrev cX5_areNamesUnlike : ByteArray := prog_1_method_75_code
def yX5_areNamesUnlike : MethodName := ⟨RX5, "areNamesUnlike", "()Z"⟩
abbrev cX5_isEachSeenAtItsBegin : ByteArray := prog_1_method_76_code
def yX5_isEachSeenAtItsBegin : MethodName := ⟨RX5, "isEachSeenAtItsBegin", "()Z"⟩
abbrev cX5_doNotesSumUp : ByteArray := prog_1_method_77_code
def yX5_doNotesSumUp : MethodName := ⟨RX5, "doNotesSumUp", "()Z"⟩
abbrev cX5_areEdgesOfMembers : ByteArray := prog_1_method_78_code
def yX5_areEdgesOfMembers : MethodName := ⟨RX5, "areEdgesOfMembers", "()Z"⟩
def RX6 : String := "ThumbnailRowModel"
def TX6 : u_T := fun k => match k with
  | 0 => ("ThumbnailRowModel", "code", "I", false)
  | 1 => ("ThumbnailRowModel", "made", "I", false)
  | 2 => ("ThumbnailRowModel", "many", "I", false)
  | 3 => ("ThumbnailRowModel", "reel", "[I", true)
  | 4 => ("ThumbnailRowModel", "side", "[C", true)
  | 5 => ("ThumbnailRowModel", "lens", "[I", true)
  | 6 => ("ThumbnailRowModel", "length", "[I", true)
  | 7 => ("ThumbnailRowModel", "version", "[I", true)
  | 8 => ("ThumbnailRowModel", "isDear", "[Z", true)
  | 9 => ("ThumbnailRowModel", "number", "[I", true)
  | 10 => ("ThumbnailRowModel", "letter", "[C", true)
  | 11 => ("ThumbnailRowModel", "place", "[C", true)
  | 12 => ("ThumbnailRowModel", "gaze", "[C", true)
  | 13 => ("ThumbnailRowModel", "enters", "[C", true)
  | 14 => ("ThumbnailRowModel", "leaves", "[C", true)
  | 15 => ("ThumbnailRowModel", "isLocked", "Z", false)
  | 16 => ("ThumbnailRowModel", "excuse", "[C", true)
  | 17 => ("ThumbnailRowModel", "excused", "[I", true)
  | 18 => ("ThumbnailRowModel", "ahead", "[I", true)
  | 19 => ("ThumbnailRowModel", "excusedAhead", "[I", true)
  | 20 => ("ThumbnailRowModel", "hand", "[I", true)
  | 21 => ("ThumbnailRowModel", "handed", "[I", true)
  | 22 => ("ThumbnailRowModel", "conflicts", "I", false)
  | 23 => ("ThumbnailRowModel", "notes", "I", false)
  | 24 => ("ThumbnailRowModel", "noteOf", "[I", true)
  | 25 => ("ThumbnailRowModel", "noted", "[I", true)
  | 26 => ("ThumbnailRowModel", "closed", "[C", true)
  | 27 => ("ThumbnailRowModel", "order", "[I", true)
  | 28 => ("ThumbnailRowModel", "step", "[I", true)
  | _ => ("ThumbnailRowModel", "used", "[Z", true)
def tyX6 : Nat → FieldType := fun k => match k with
  | 0 => .int
  | 1 => .int
  | 2 => .int
  | 3 => .array .int
  | 4 => .array .char
  | 5 => .array .int
  | 6 => .array .int
  | 7 => .array .int
  | 8 => .array .boolean
  | 9 => .array .int
  | 10 => .array .char
  | 11 => .array .char
  | 12 => .array .char
  | 13 => .array .char
  | 14 => .array .char
  | 15 => .boolean
  | 16 => .array .char
  | 17 => .array .int
  | 18 => .array .int
  | 19 => .array .int
  | 20 => .array .int
  | 21 => .array .int
  | 22 => .int
  | 23 => .int
  | 24 => .array .int
  | 25 => .array .int
  | 26 => .array .char
  | 27 => .array .int
  | 28 => .array .int
  | _ => .array .boolean
abbrev wsX60 : List Cond := u_ws RX6 TX6 30
theorem nmX6 : ∀ a, a < 30 → ∀ b, b < 30 → a ≠ b → (TX6 a).2.1 ≠ (TX6 b).2.1 := by decide +kernel
theorem tyX6_ok : ∀ k, k < 30 → parseFieldDescriptor (TX6 k).2.2.1 = some (tyX6 k) := by decide +kernel
abbrev cX6_init : ByteArray := prog_8_method_1_code
def yX6_init : MethodName := ⟨RX6, "<init>", "()V"⟩
abbrev cX6_thrown : ByteArray := prog_8_method_2_code
def yX6_thrown : MethodName := ⟨RX6, "thrown", "()I"⟩
abbrev cX6_fails : ByteArray := prog_8_method_3_code
def yX6_fails : MethodName := ⟨RX6, "fails", "(I)Z"⟩
abbrev cX6_in : ByteArray := prog_8_method_4_code
def yX6_in : MethodName := ⟨RX6, "in", "(III)Z"⟩
abbrev cX6_isShot : ByteArray := prog_8_method_5_code
def yX6_isShot : MethodName := ⟨RX6, "isShot", "(I)Z"⟩
abbrev cX6_placeOf : ByteArray := prog_8_method_6_code
def yX6_placeOf : MethodName := ⟨RX6, "placeOf", "(I)I"⟩
abbrev cX6_isCamera : ByteArray := prog_8_method_7_code
def yX6_isCamera : MethodName := ⟨RX6, "isCamera", "(CI)Z"⟩
abbrev cX6_isEdge : ByteArray := prog_8_method_8_code
def yX6_isEdge : MethodName := ⟨RX6, "isEdge", "(C)Z"⟩
abbrev cX6_isThird : ByteArray := prog_8_method_9_code
def yX6_isThird : MethodName := ⟨RX6, "isThird", "(C)Z"⟩
abbrev cX6_freeLetter : ByteArray := prog_8_method_10_code
def yX6_freeLetter : MethodName := ⟨RX6, "freeLetter", "(I)C"⟩
abbrev cX6_putIn : ByteArray := prog_8_method_11_code
def yX6_putIn : MethodName := ⟨RX6, "putIn", "(II)V"⟩
abbrev cX6_takeOut : ByteArray := prog_8_method_12_code
def yX6_takeOut : MethodName := ⟨RX6, "takeOut", "(I)V"⟩
abbrev cX6_shot : ByteArray := prog_8_method_13_code
def yX6_shot : MethodName := ⟨RX6, "shot", "(CIII)I"⟩
abbrev cX6_drop : ByteArray := prog_8_method_14_code
def yX6_drop : MethodName := ⟨RX6, "drop", "(I)I"⟩
abbrev cX6_move : ByteArray := prog_8_method_15_code
def yX6_move : MethodName := ⟨RX6, "move", "(II)I"⟩
abbrev cX6_shots : ByteArray := prog_8_method_16_code
def yX6_shots : MethodName := ⟨RX6, "shots", "()I"⟩
abbrev cX6_at : ByteArray := prog_8_method_17_code
def yX6_at : MethodName := ⟨RX6, "at", "(I)I"⟩
abbrev cX6_place : ByteArray := prog_8_method_18_code
def yX6_place : MethodName := ⟨RX6, "place", "(I)I"⟩
abbrev cX6_change : ByteArray := prog_8_method_19_code
def yX6_change : MethodName := ⟨RX6, "change", "(IZ)V"⟩
abbrev cX6_camera : ByteArray := prog_8_method_20_code
def yX6_camera : MethodName := ⟨RX6, "camera", "(ICI)I"⟩
abbrev cX6_length : ByteArray := prog_8_method_21_code
def yX6_length : MethodName := ⟨RX6, "length", "(II)I"⟩
abbrev cX6_countIn : ByteArray := prog_8_method_22_code
def yX6_countIn : MethodName := ⟨RX6, "countIn", "(I)I"⟩
abbrev cX6_stand : ByteArray := prog_8_method_23_code
def yX6_stand : MethodName := ⟨RX6, "stand", "(IICC)I"⟩
abbrev cX6_noEdge : ByteArray := prog_8_method_24_code
def yX6_noEdge : MethodName := ⟨RX6, "noEdge", "(IIC)I"⟩
abbrev cX6_enters : ByteArray := prog_8_method_25_code
def yX6_enters : MethodName := ⟨RX6, "enters", "(IIC)C"⟩
abbrev cX6_leaves : ByteArray := prog_8_method_26_code
def yX6_leaves : MethodName := ⟨RX6, "leaves", "(IIC)C"⟩
abbrev cX6_version : ByteArray := prog_8_method_27_code
def yX6_version : MethodName := ⟨RX6, "version", "(I)I"⟩
abbrev cX6_begins : ByteArray := prog_8_method_28_code
def yX6_begins : MethodName := ⟨RX6, "begins", "(I)I"⟩
abbrev cX6_time : ByteArray := prog_8_method_29_code
def yX6_time : MethodName := ⟨RX6, "time", "(I)I"⟩
abbrev cX6_seen : ByteArray := prog_8_method_30_code
def yX6_seen : MethodName := ⟨RX6, "seen", "(I)I"⟩
abbrev cX6_ended : ByteArray := prog_8_method_31_code
def yX6_ended : MethodName := ⟨RX6, "ended", "(I)I"⟩
abbrev cX6_lock : ByteArray := prog_8_method_32_code
def yX6_lock : MethodName := ⟨RX6, "lock", "()Z"⟩
abbrev cX6_hasName : ByteArray := prog_8_method_33_code
def yX6_hasName : MethodName := ⟨RX6, "hasName", "(I)Z"⟩
abbrev cX6_numberOf : ByteArray := prog_8_method_34_code
def yX6_numberOf : MethodName := ⟨RX6, "numberOf", "(I)I"⟩
abbrev cX6_number : ByteArray := prog_8_method_35_code
def yX6_number : MethodName := ⟨RX6, "number", "(I)I"⟩
abbrev cX6_letter : ByteArray := prog_8_method_36_code
def yX6_letter : MethodName := ⟨RX6, "letter", "(I)C"⟩
abbrev cX6_named : ByteArray := prog_8_method_37_code
def yX6_named : MethodName := ⟨RX6, "named", "(IC)I"⟩
abbrev cX6_isIn : ByteArray := prog_8_method_38_code
def yX6_isIn : MethodName := ⟨RX6, "isIn", "(II)Z"⟩
abbrev cX6_areSame : ByteArray := prog_8_method_39_code
def yX6_areSame : MethodName := ⟨RX6, "areSame", "(II)Z"⟩
abbrev cX6_alone : ByteArray := prog_8_method_40_code
def yX6_alone : MethodName := ⟨RX6, "alone", "(I)I"⟩
abbrev cX6_other : ByteArray := prog_8_method_41_code
def yX6_other : MethodName := ⟨RX6, "other", "(C)C"⟩
abbrev cX6_areBadGazes : ByteArray := prog_8_method_42_code
def yX6_areBadGazes : MethodName := ⟨RX6, "areBadGazes", "(II)Z"⟩
abbrev cX6_isBadEdge : ByteArray := prog_8_method_43_code
def yX6_isBadEdge : MethodName := ⟨RX6, "isBadEdge", "(II)Z"⟩
abbrev cX6_isJump : ByteArray := prog_8_method_44_code
def yX6_isJump : MethodName := ⟨RX6, "isJump", "(II)Z"⟩
abbrev cX6_wrongWith : ByteArray := prog_8_method_45_code
def yX6_wrongWith : MethodName := ⟨RX6, "wrongWith", "(II)C"⟩
abbrev cX6_wrong : ByteArray := prog_8_method_46_code
def yX6_wrong : MethodName := ⟨RX6, "wrong", "(I)C"⟩
abbrev cX6_excuseAt : ByteArray := prog_8_method_47_code
def yX6_excuseAt : MethodName := ⟨RX6, "excuseAt", "(I)C"⟩
abbrev cX6_isFault : ByteArray := prog_8_method_48_code
def yX6_isFault : MethodName := ⟨RX6, "isFault", "(C)Z"⟩
abbrev cX6_excuse : ByteArray := prog_8_method_49_code
def yX6_excuse : MethodName := ⟨RX6, "excuse", "(IC)C"⟩
abbrev cX6_isBrokenAt : ByteArray := prog_8_method_50_code
def yX6_isBrokenAt : MethodName := ⟨RX6, "isBrokenAt", "(I)Z"⟩
abbrev cX6_isBroken : ByteArray := prog_8_method_51_code
def yX6_isBroken : MethodName := ⟨RX6, "isBroken", "(I)Z"⟩
abbrev cX6_countBroken : ByteArray := prog_8_method_52_code
def yX6_countBroken : MethodName := ⟨RX6, "countBroken", "()I"⟩
abbrev cX6_broken : ByteArray := prog_8_method_53_code
def yX6_broken : MethodName := ⟨RX6, "broken", "()I"⟩
abbrev cX6_hand : ByteArray := prog_8_method_54_code
def yX6_hand : MethodName := ⟨RX6, "hand", "(II)I"⟩
abbrev cX6_bring : ByteArray := prog_8_method_55_code
def yX6_bring : MethodName := ⟨RX6, "bring", "(II)Z"⟩
abbrev cX6_with : ByteArray := prog_8_method_56_code
def yX6_with : MethodName := ⟨RX6, "with", "(I)I"⟩
abbrev cX6_conflicts : ByteArray := prog_8_method_57_code
def yX6_conflicts : MethodName := ⟨RX6, "conflicts", "()I"⟩
abbrev cX6_note : ByteArray := prog_8_method_58_code
def yX6_note : MethodName := ⟨RX6, "note", "(I)I"⟩
abbrev cX6_isNow : ByteArray := prog_8_method_59_code
def yX6_isNow : MethodName := ⟨RX6, "isNow", "(I)C"⟩
abbrev cX6_isNote : ByteArray := prog_8_method_60_code
def yX6_isNote : MethodName := ⟨RX6, "isNote", "(I)Z"⟩
abbrev cX6_noteIs : ByteArray := prog_8_method_61_code
def yX6_noteIs : MethodName := ⟨RX6, "noteIs", "(I)C"⟩
abbrev cX6_close : ByteArray := prog_8_method_62_code
def yX6_close : MethodName := ⟨RX6, "close", "(IZ)Z"⟩
abbrev cX6_renew : ByteArray := prog_8_method_63_code
def yX6_renew : MethodName := ⟨RX6, "renew", "(I)I"⟩
abbrev cX6_notes : ByteArray := prog_8_method_64_code
def yX6_notes : MethodName := ⟨RX6, "notes", "(C)I"⟩
abbrev cX6_dear : ByteArray := prog_8_method_65_code
def yX6_dear : MethodName := ⟨RX6, "dear", "(IZ)Z"⟩
abbrev cX6_countSetups : ByteArray := prog_8_method_66_code
def yX6_countSetups : MethodName := ⟨RX6, "countSetups", "(Z)I"⟩
abbrev cX6_setups : ByteArray := prog_8_method_67_code
def yX6_setups : MethodName := ⟨RX6, "setups", "()I"⟩
abbrev cX6_first : ByteArray := prog_8_method_68_code
def yX6_first : MethodName := ⟨RX6, "first", "()I"⟩
abbrev cX6_days : ByteArray := prog_8_method_69_code
def yX6_days : MethodName := ⟨RX6, "days", "()I"⟩
abbrev cX6_countWrong : ByteArray := prog_8_method_70_code
def yX6_countWrong : MethodName := ⟨RX6, "countWrong", "()I"⟩
abbrev cX6_goThrough : ByteArray := prog_8_method_71_code
def yX6_goThrough : MethodName := ⟨RX6, "goThrough", "(Z)I"⟩
abbrev cX6_orders : ByteArray := prog_8_method_72_code
def yX6_orders : MethodName := ⟨RX6, "orders", "()I"⟩
abbrev cX6_best : ByteArray := prog_8_method_73_code
def yX6_best : MethodName := ⟨RX6, "best", "()I"⟩
abbrev cX6_checksum : ByteArray := prog_8_method_74_code
def yX6_checksum : MethodName := ⟨RX6, "checksum", "()J"⟩
abbrev cX6_brokenShare : ByteArray := prog_8_method_75_code
def yX6_brokenShare : MethodName := ⟨RX6, "brokenShare", "()F"⟩
abbrev cX6_meanLength : ByteArray := prog_8_method_76_code
def yX6_meanLength : MethodName := ⟨RX6, "meanLength", "()D"⟩
abbrev cX6_isSound : ByteArray := prog_8_method_77_code
def yX6_isSound : MethodName := ⟨RX6, "isSound", "()Z"⟩
def RJx145de : String := "java/io/Serializable"
def RJ5 : String := "java/lang/AbstractStringBuilder"
def RJx2cfe8 : String := "java/lang/Appendable"
def RJx9f9b0 : String := "java/lang/CharSequence"
def RJx8e188 : String := "java/lang/Cloneable"
def RJxb160c : String := "java/lang/Comparable"
def RJ6 : String := "java/lang/Integer"
abbrev cJ6_bitCount_0f7a4 : ByteArray := prog_19_method_49_code
def yJ6_bitCount_0f7a4 : MethodName := ⟨RJ6, "bitCount", "(I)I"⟩
def RJxab1ab : String := "java/lang/Iterable"
def RJ9 : String := "java/lang/Math"
abbrev cJ9_max_7cf53 : ByteArray := prog_21_method_65_code
def yJ9_max_7cf53 : MethodName := ⟨RJ9, "max", "(II)I"⟩
abbrev cJ9_min_7cf53 : ByteArray := prog_21_method_69_code
def yJ9_min_7cf53 : MethodName := ⟨RJ9, "min", "(II)I"⟩
def RJxd2413 : String := "java/lang/Number"
def RJ0 : String := "java/lang/String"
def RJ4 : String := "java/lang/StringBuilder"
def RJ1 : String := "java/lang/StringLatin1"
def RJ2 : String := "java/lang/StringUTF16"
def RJ10 : String := "java/lang/System"
def RJxfd54e : String := "java/lang/constant/Constable"
def RJx3cf43 : String := "java/lang/constant/ConstantDesc"
def RJxa1e45 : String := "java/util/AbstractCollection"
abbrev cJxa1e45_init_da8c8 : ByteArray := prog_33_method_1_code
def yJxa1e45_init_da8c8 : MethodName := ⟨RJxa1e45, "<init>", "()V"⟩
def RJxc12de : String := "java/util/AbstractList"
abbrev cJxc12de_init_da8c8 : ByteArray := prog_34_method_1_code
def yJxc12de_init_da8c8 : MethodName := ⟨RJxc12de, "<init>", "()V"⟩
def RJx4a65c : String := "java/util/ArrayList"
def TJx4a65c : u_T := fun k => match k with
  | 0 => ("java/util/AbstractList", "modCount", "I", false)
  | 1 => ("java/util/ArrayList", "elementData", "[Ljava/lang/Object;", false)
  | _ => ("java/util/ArrayList", "size", "I", false)
def tyJx4a65c : Nat → FieldType := fun k => match k with
  | 0 => .int
  | 1 => .array (.object "java/lang/Object")
  | _ => .int
abbrev wsJx4a65c0 : List Cond := u_ws RJx4a65c TJx4a65c 3
theorem nmJx4a65c : ∀ a, a < 3 → ∀ b, b < 3 → a ≠ b → (TJx4a65c a).2.1 ≠ (TJx4a65c b).2.1 := by decide +kernel
theorem tyJx4a65c_ok : ∀ k, k < 3 → parseFieldDescriptor (TJx4a65c k).2.2.1 = some (tyJx4a65c k) := by decide +kernel
abbrev cJx4a65c_init_da8c8 : ByteArray := prog_35_method_2_code
def yJx4a65c_init_da8c8 : MethodName := ⟨RJx4a65c, "<init>", "()V"⟩
abbrev cJx4a65c_grow_92f84 : ByteArray := prog_35_method_6_code
def yJx4a65c_grow_92f84 : MethodName := ⟨RJx4a65c, "grow", "(I)[Ljava/lang/Object;"⟩
abbrev cJx4a65c_grow_d5877 : ByteArray := prog_35_method_7_code
def yJx4a65c_grow_d5877 : MethodName := ⟨RJx4a65c, "grow", "()[Ljava/lang/Object;"⟩
abbrev cJx4a65c_size_8abf5 : ByteArray := prog_35_method_8_code
def yJx4a65c_size_8abf5 : MethodName := ⟨RJx4a65c, "size", "()I"⟩
abbrev cJx4a65c_isEmpty_aae02 : ByteArray := prog_35_method_9_code
def yJx4a65c_isEmpty_aae02 : MethodName := ⟨RJx4a65c, "isEmpty", "()Z"⟩
abbrev cJx4a65c_elementData_915e3 : ByteArray := prog_35_method_18_code
def yJx4a65c_elementData_915e3 : MethodName := ⟨RJx4a65c, "elementData", "(I)Ljava/lang/Object;"⟩
abbrev cJx4a65c_get_915e3 : ByteArray := prog_35_method_20_code
def yJx4a65c_get_915e3 : MethodName := ⟨RJx4a65c, "get", "(I)Ljava/lang/Object;"⟩
abbrev cJx4a65c_add_72be8 : ByteArray := prog_35_method_24_code
def yJx4a65c_add_72be8 : MethodName := ⟨RJx4a65c, "add", "(Ljava/lang/Object;[Ljava/lang/Object;I)V"⟩
abbrev cJx4a65c_add_9ea2d : ByteArray := prog_35_method_25_code
def yJx4a65c_add_9ea2d : MethodName := ⟨RJx4a65c, "add", "(Ljava/lang/Object;)Z"⟩
abbrev cJx4a65c_add_7a177 : ByteArray := prog_35_method_26_code
def yJx4a65c_add_7a177 : MethodName := ⟨RJx4a65c, "add", "(ILjava/lang/Object;)V"⟩
abbrev cJx4a65c_remove_915e3 : ByteArray := prog_35_method_29_code
def yJx4a65c_remove_915e3 : MethodName := ⟨RJx4a65c, "remove", "(I)Ljava/lang/Object;"⟩
abbrev cJx4a65c_fastRemove_b59b0 : ByteArray := prog_35_method_39_code
def yJx4a65c_fastRemove_b59b0 : MethodName := ⟨RJx4a65c, "fastRemove", "([Ljava/lang/Object;I)V"⟩
abbrev cJx4a65c_rangeCheckForAdd_d00df : ByteArray := prog_35_method_45_code
def yJx4a65c_rangeCheckForAdd_d00df : MethodName := ⟨RJx4a65c, "rangeCheckForAdd", "(I)V"⟩
def RJ7 : String := "java/util/Arrays"
abbrev cJ7_copyOf_1904c : ByteArray := prog_36_method_119_code
def yJ7_copyOf_1904c : MethodName := ⟨RJ7, "copyOf", "([Ljava/lang/Object;I)[Ljava/lang/Object;"⟩
abbrev cJ7_copyOf_6403c : ByteArray := prog_36_method_120_code
def yJ7_copyOf_6403c : MethodName := ⟨RJ7, "copyOf", "([Ljava/lang/Object;ILjava/lang/Class;)[Ljava/lang/Object;"⟩
def RJx5ef63 : String := "java/util/Collection"
def RJxbd725 : String := "java/util/List"
def RJ15 : String := "java/util/Objects"
abbrev cJ15_checkIndex_7cf53 : ByteArray := prog_40_method_17_code
def yJ15_checkIndex_7cf53 : MethodName := ⟨RJ15, "checkIndex", "(II)I"⟩
def RJxf0a74 : String := "java/util/RandomAccess"
def RJxa66e6 : String := "java/util/SequencedCollection"
def RJ8 : String := "jdk/internal/util/ArraysSupport"
abbrev cJ8_newLength_cabcc : ByteArray := prog_43_method_27_code
def yJ8_newLength_cabcc : MethodName := ⟨RJ8, "newLength", "(III)I"⟩
def RJ3 : String := "jdk/internal/util/Preconditions"
abbrev cJ3_checkIndex_8e157 : ByteArray := prog_44_method_11_code
def yJ3_checkIndex_8e157 : MethodName := ⟨RJ3, "checkIndex", "(IILjava/util/function/BiFunction;)I"⟩
def RL : String := "ThumbnailRowLaw"
abbrev cL_shot : ByteArray := method_3_code
def yL_shot : MethodName := ⟨RL, "shot", "(LThumbnailRow;CIII[J)I"⟩
abbrev cL_drop : ByteArray := method_4_code
def yL_drop : MethodName := ⟨RL, "drop", "(LThumbnailRow;I[J)I"⟩
abbrev cL_move : ByteArray := method_5_code
def yL_move : MethodName := ⟨RL, "move", "(LThumbnailRow;II[J)I"⟩
abbrev cL_at : ByteArray := method_6_code
def yL_at : MethodName := ⟨RL, "at", "(LThumbnailRow;I[J)I"⟩
abbrev cL_place : ByteArray := method_7_code
def yL_place : MethodName := ⟨RL, "place", "(LThumbnailRow;I[J)I"⟩
abbrev cL_camera : ByteArray := method_8_code
def yL_camera : MethodName := ⟨RL, "camera", "(LThumbnailRow;ICI[J)I"⟩
abbrev cL_length : ByteArray := method_9_code
def yL_length : MethodName := ⟨RL, "length", "(LThumbnailRow;II[J)I"⟩
abbrev cL_stand : ByteArray := method_10_code
def yL_stand : MethodName := ⟨RL, "stand", "(LThumbnailRow;IICC[J)I"⟩
abbrev cL_enters : ByteArray := method_11_code
def yL_enters : MethodName := ⟨RL, "enters", "(LThumbnailRow;IIC[J)I"⟩
abbrev cL_leaves : ByteArray := method_12_code
def yL_leaves : MethodName := ⟨RL, "leaves", "(LThumbnailRow;IIC[J)I"⟩
abbrev cL_version : ByteArray := method_13_code
def yL_version : MethodName := ⟨RL, "version", "(LThumbnailRow;I[J)I"⟩
abbrev cL_time : ByteArray := method_14_code
def yL_time : MethodName := ⟨RL, "time", "(LThumbnailRow;I[J)I"⟩
abbrev cL_seen : ByteArray := method_15_code
def yL_seen : MethodName := ⟨RL, "seen", "(LThumbnailRow;I[J)I"⟩
abbrev cL_ended : ByteArray := method_16_code
def yL_ended : MethodName := ⟨RL, "ended", "(LThumbnailRow;I[J)I"⟩
abbrev cL_number : ByteArray := method_17_code
def yL_number : MethodName := ⟨RL, "number", "(LThumbnailRow;I[J)I"⟩
abbrev cL_letter : ByteArray := method_18_code
def yL_letter : MethodName := ⟨RL, "letter", "(LThumbnailRow;I[J)I"⟩
abbrev cL_named : ByteArray := method_19_code
def yL_named : MethodName := ⟨RL, "named", "(LThumbnailRow;IC[J)I"⟩
abbrev cL_wrong : ByteArray := method_20_code
def yL_wrong : MethodName := ⟨RL, "wrong", "(LThumbnailRow;I[J)I"⟩
abbrev cL_excuse : ByteArray := method_21_code
def yL_excuse : MethodName := ⟨RL, "excuse", "(LThumbnailRow;IC[J)I"⟩
abbrev cL_isBroken : ByteArray := method_22_code
def yL_isBroken : MethodName := ⟨RL, "isBroken", "(LThumbnailRow;I[J)I"⟩
abbrev cL_hand : ByteArray := method_23_code
def yL_hand : MethodName := ⟨RL, "hand", "(LThumbnailRow;II[J)I"⟩
abbrev cL_bring : ByteArray := method_24_code
def yL_bring : MethodName := ⟨RL, "bring", "(LThumbnailRow;II[J)I"⟩
abbrev cL_with : ByteArray := method_25_code
def yL_with : MethodName := ⟨RL, "with", "(LThumbnailRow;I[J)I"⟩
abbrev cL_note : ByteArray := method_26_code
def yL_note : MethodName := ⟨RL, "note", "(LThumbnailRow;I[J)I"⟩
abbrev cL_noteIs : ByteArray := method_27_code
def yL_noteIs : MethodName := ⟨RL, "noteIs", "(LThumbnailRow;I[J)I"⟩
abbrev cL_close : ByteArray := method_28_code
def yL_close : MethodName := ⟨RL, "close", "(LThumbnailRow;IZ[J)I"⟩
abbrev cL_renew : ByteArray := method_29_code
def yL_renew : MethodName := ⟨RL, "renew", "(LThumbnailRow;I[J)I"⟩
abbrev cL_notes : ByteArray := method_30_code
def yL_notes : MethodName := ⟨RL, "notes", "(LThumbnailRow;C[J)I"⟩
abbrev cL_dear : ByteArray := method_31_code
def yL_dear : MethodName := ⟨RL, "dear", "(LThumbnailRow;IZ[J)I"⟩
abbrev cL_orders : ByteArray := method_32_code
def yL_orders : MethodName := ⟨RL, "orders", "(LThumbnailRow;[J)I"⟩
abbrev cL_best : ByteArray := method_33_code
def yL_best : MethodName := ⟨RL, "best", "(LThumbnailRow;[J)I"⟩
abbrev cL_brokenShare : ByteArray := method_34_code
def yL_brokenShare : MethodName := ⟨RL, "brokenShare", "(LThumbnailRow;[D)I"⟩
abbrev cL_meanLength : ByteArray := method_35_code
def yL_meanLength : MethodName := ⟨RL, "meanLength", "(LThumbnailRow;[D)I"⟩
abbrev cL_law : ByteArray := code
def yL_law : MethodName := ⟨RL, "law", "([I)Z"⟩
abbrev vwCl : List vw_C := [(RJx4a65c, TJx4a65c, 3), (RX0, TX0, 4), (RX1, TX1, 3), (RX2, TX2, 4), (RX3, TX3, 4), (RX4, TX4, 12), (RX5, TX5, 6), (RX6, TX6, 30)]
def TG : List Cond := lw_tbl.filter goodWord
theorem tg_good {w : Cond} (h : w ∈ TG) : goodWord w = true := (List.mem_filter.mp h).2
theorem tg_tbl {w : Cond} (h : w ∈ TG) : w ∈ lw_tbl := (List.mem_filter.mp h).1
theorem tg_mk {w : Cond} (h : w ∈ lw_tbl) (g : goodWord w = true) : w ∈ TG := List.mem_filter.mpr ⟨h, g⟩
theorem tg_t {w : Cond} (h : w ∈ tables_1) : w ∈ lw_tbl := List.mem_append_right _ h
theorem tg_0 {w : Cond} (i : Nat) (h : (k2_sels lw_privs)[i]? = some w) (g : goodWord w = true) : w ∈ TG := tg_mk (List.mem_append_left _ (List.mem_of_getElem? h)) g
theorem tg_1 {w : Cond} (i : Nat) (h : tables_1_1[i]? = some w) (g : goodWord w = true) : w ∈ TG := tg_mk (tg_t (List.mem_append_left _ (List.mem_of_getElem? h))) g
theorem tg_2 {w : Cond} (i : Nat) (h : tables_1_2[i]? = some w) (g : goodWord w = true) : w ∈ TG := tg_mk (tg_t (List.mem_append_right _ (List.mem_append_left _ (List.mem_of_getElem? h)))) g
theorem tg_3 {w : Cond} (i : Nat) (h : tables_1_3[i]? = some w) (g : goodWord w = true) : w ∈ TG := tg_mk (tg_t (List.mem_append_right _ (List.mem_append_right _ (List.mem_append_left _ (List.mem_of_getElem? h))))) g
theorem tg_4 {w : Cond} (i : Nat) (h : tables_1_4[i]? = some w) (g : goodWord w = true) : w ∈ TG := tg_mk (tg_t (List.mem_append_right _ (List.mem_append_right _ (List.mem_append_right _ (List.mem_append_left _ (List.mem_of_getElem? h)))))) g
theorem tg_5 {w : Cond} (i : Nat) (h : tables_1_5[i]? = some w) (g : goodWord w = true) : w ∈ TG := tg_mk (tg_t (List.mem_append_right _ (List.mem_append_right _ (List.mem_append_right _ (List.mem_append_right _ (List.mem_append_left _ (List.mem_of_getElem? h))))))) g
theorem tg_6 {w : Cond} (i : Nat) (h : tables_1_6[i]? = some w) (g : goodWord w = true) : w ∈ TG := tg_mk (tg_t (List.mem_append_right _ (List.mem_append_right _ (List.mem_append_right _ (List.mem_append_right _ (List.mem_append_right _ (List.mem_append_left _ (List.mem_of_getElem? h)))))))) g
theorem tg_7 {w : Cond} (i : Nat) (h : tables_1_7[i]? = some w) (g : goodWord w = true) : w ∈ TG := tg_mk (tg_t (List.mem_append_right _ (List.mem_append_right _ (List.mem_append_right _ (List.mem_append_right _ (List.mem_append_right _ (List.mem_append_right _ (List.mem_of_getElem? h)))))))) g
theorem tg_list {ws : List Cond} (ps : List Nat) (hp : ws = ps.filterMap (fun i => lw_tbl[i]?)) (h : ws.all goodWord = true) : ∀ w ∈ ws, w ∈ TG := by
  intro w hw
  have h1 := List.all_eq_true.mp h w hw
  rw [hp] at hw
  obtain ⟨i, -, hi⟩ := List.mem_filterMap.mp hw
  exact tg_mk (List.mem_of_getElem? hi) h1
theorem wf_RJx4a65c_39 : Cond.fieldLink RJx4a65c 39 "java/util/ArrayList" "DEFAULTCAPACITY_EMPTY_ELEMENTDATA" "[Ljava/lang/Object;" ∈ TG := tg_1 52 (by decide +kernel) rfl
theorem wf_RJx4a65c_9 : Cond.fieldLink RJx4a65c 9 "java/util/ArrayList" "elementData" "[Ljava/lang/Object;" ∈ TG := tg_1 54 (by decide +kernel) rfl
theorem wf_RJx4a65c_48 : Cond.fieldLink RJx4a65c 48 "java/util/ArrayList" "size" "I" ∈ TG := tg_1 55 (by decide +kernel) rfl
theorem wf_RJxc12de_7 : Cond.fieldLink RJxc12de 7 "java/util/AbstractList" "modCount" "I" ∈ TG := tg_1 56 (by decide +kernel) rfl
theorem wf_RJx4a65c_63 : Cond.fieldLink RJx4a65c 63 "java/util/ArrayList" "modCount" "I" ∈ TG := tg_1 57 (by decide +kernel) rfl
theorem wf_RX2_9 : Cond.fieldLink RX2 9 "ThumbnailRow$Orders" "wrongCuts" "[Z" ∈ TG := tg_1 72 (by decide +kernel) rfl
theorem wf_RX2_15 : Cond.fieldLink RX2 15 "ThumbnailRow$Orders" "goodOnes" "[I" ∈ TG := tg_1 73 (by decide +kernel) rfl
theorem wf_RX2_19 : Cond.fieldLink RX2 19 "ThumbnailRow$Orders" "leastFaults" "[I" ∈ TG := tg_1 74 (by decide +kernel) rfl
theorem wf_RX2_34 : Cond.fieldLink RX2 34 "ThumbnailRow$Orders" "count" "I" ∈ TG := tg_1 75 (by decide +kernel) rfl
theorem wf_RX5_10 : Cond.fieldLink RX5 10 "ThumbnailRow" "made" "Ljava/util/ArrayList;" ∈ TG := tg_1 87 (by decide +kernel) rfl
theorem wf_RX5_16 : Cond.fieldLink RX5 16 "ThumbnailRow" "reel" "Ljava/util/ArrayList;" ∈ TG := tg_1 88 (by decide +kernel) rfl
theorem wf_RX5_19 : Cond.fieldLink RX5 19 "ThumbnailRow" "noted" "Ljava/util/ArrayList;" ∈ TG := tg_1 89 (by decide +kernel) rfl
theorem wf_RX5_25 : Cond.fieldLink RX5 25 "ThumbnailRow" "reelOrders" "LThumbnailRow$Orders;" ∈ TG := tg_1 90 (by decide +kernel) rfl
theorem wf_RX5_48 : Cond.fieldLink RX5 48 "ThumbnailRow" "isLocked" "Z" ∈ TG := tg_1 91 (by decide +kernel) rfl
theorem wf_RX5_240 : Cond.fieldLink RX5 240 "ThumbnailRow" "conflictCount" "I" ∈ TG := tg_1 92 (by decide +kernel) rfl
theorem wf_RX0_9 : Cond.fieldLink RX0 9 "ThumbnailRow$Cast" "places" "[C" ∈ TG := tg_2 174 (by decide +kernel) rfl
theorem wf_RX4_51 : Cond.fieldLink RX4 51 "ThumbnailRow$Cast" "places" "[C" ∈ TG := tg_2 175 (by decide +kernel) rfl
theorem wf_RX5_391 : Cond.fieldLink RX5 391 "ThumbnailRow$Cast" "places" "[C" ∈ TG := tg_2 176 (by decide +kernel) rfl
theorem wf_RX0_15 : Cond.fieldLink RX0 15 "ThumbnailRow$Cast" "gazes" "[C" ∈ TG := tg_2 177 (by decide +kernel) rfl
theorem wf_RX4_55 : Cond.fieldLink RX4 55 "ThumbnailRow$Cast" "gazes" "[C" ∈ TG := tg_2 178 (by decide +kernel) rfl
theorem wf_RX5_388 : Cond.fieldLink RX5 388 "ThumbnailRow$Cast" "gazes" "[C" ∈ TG := tg_2 179 (by decide +kernel) rfl
theorem wf_RX0_18 : Cond.fieldLink RX0 18 "ThumbnailRow$Cast" "entries" "[C" ∈ TG := tg_2 180 (by decide +kernel) rfl
theorem wf_RX4_62 : Cond.fieldLink RX4 62 "ThumbnailRow$Cast" "entries" "[C" ∈ TG := tg_2 181 (by decide +kernel) rfl
theorem wf_RX5_166 : Cond.fieldLink RX5 166 "ThumbnailRow$Cast" "entries" "[C" ∈ TG := tg_2 182 (by decide +kernel) rfl
theorem wf_RX0_21 : Cond.fieldLink RX0 21 "ThumbnailRow$Cast" "exits" "[C" ∈ TG := tg_2 183 (by decide +kernel) rfl
theorem wf_RX4_65 : Cond.fieldLink RX4 65 "ThumbnailRow$Cast" "exits" "[C" ∈ TG := tg_2 184 (by decide +kernel) rfl
theorem wf_RX5_174 : Cond.fieldLink RX5 174 "ThumbnailRow$Cast" "exits" "[C" ∈ TG := tg_2 185 (by decide +kernel) rfl
theorem wf_RX3_9 : Cond.fieldLink RX3 9 "ThumbnailRow$Pardon" "cause" "C" ∈ TG := tg_2 202 (by decide +kernel) rfl
theorem wf_RX3_21 : Cond.fieldLink RX3 21 "ThumbnailRow$Pardon" "version" "I" ∈ TG := tg_2 204 (by decide +kernel) rfl
theorem wf_RX3_25 : Cond.fieldLink RX3 25 "ThumbnailRow$Pardon" "aheadIndex" "I" ∈ TG := tg_2 205 (by decide +kernel) rfl
theorem wf_RX3_28 : Cond.fieldLink RX3 28 "ThumbnailRow$Pardon" "aheadVersion" "I" ∈ TG := tg_2 206 (by decide +kernel) rfl
theorem wf_RX4_36 : Cond.fieldLink RX4 36 "ThumbnailRow$Shot" "index" "I" ∈ TG := tg_2 216 (by decide +kernel) rfl
theorem wf_RX3_22 : Cond.fieldLink RX3 22 "ThumbnailRow$Shot" "index" "I" ∈ TG := tg_2 217 (by decide +kernel) rfl
theorem wf_RX5_90 : Cond.fieldLink RX5 90 "ThumbnailRow$Shot" "index" "I" ∈ TG := tg_2 218 (by decide +kernel) rfl
theorem wf_RX4_12 : Cond.fieldLink RX4 12 "ThumbnailRow$Shot" "cast" "LThumbnailRow$Cast;" ∈ TG := tg_2 219 (by decide +kernel) rfl
theorem wf_RX5_148 : Cond.fieldLink RX5 148 "ThumbnailRow$Shot" "cast" "LThumbnailRow$Cast;" ∈ TG := tg_2 220 (by decide +kernel) rfl
theorem wf_RX4_21 : Cond.fieldLink RX4 21 "ThumbnailRow$Shot" "pardon" "LThumbnailRow$Pardon;" ∈ TG := tg_2 221 (by decide +kernel) rfl
theorem wf_RX5_211 : Cond.fieldLink RX5 211 "ThumbnailRow$Shot" "pardon" "LThumbnailRow$Pardon;" ∈ TG := tg_2 222 (by decide +kernel) rfl
theorem wf_RX4_39 : Cond.fieldLink RX4 39 "ThumbnailRow$Shot" "side" "C" ∈ TG := tg_2 223 (by decide +kernel) rfl
theorem wf_RX5_379 : Cond.fieldLink RX5 379 "ThumbnailRow$Shot" "side" "C" ∈ TG := tg_2 224 (by decide +kernel) rfl
theorem wf_RX4_42 : Cond.fieldLink RX4 42 "ThumbnailRow$Shot" "lens" "I" ∈ TG := tg_2 225 (by decide +kernel) rfl
theorem wf_RX5_382 : Cond.fieldLink RX5 382 "ThumbnailRow$Shot" "lens" "I" ∈ TG := tg_2 226 (by decide +kernel) rfl
theorem wf_RX4_45 : Cond.fieldLink RX4 45 "ThumbnailRow$Shot" "frames" "I" ∈ TG := tg_2 227 (by decide +kernel) rfl
theorem wf_RX5_187 : Cond.fieldLink RX5 187 "ThumbnailRow$Shot" "frames" "I" ∈ TG := tg_2 228 (by decide +kernel) rfl
theorem wf_RX1_17 : Cond.fieldLink RX1 17 "ThumbnailRow$Shot" "version" "I" ∈ TG := tg_2 229 (by decide +kernel) rfl
theorem wf_RX3_15 : Cond.fieldLink RX3 15 "ThumbnailRow$Shot" "version" "I" ∈ TG := tg_2 230 (by decide +kernel) rfl
theorem wf_RX4_48 : Cond.fieldLink RX4 48 "ThumbnailRow$Shot" "version" "I" ∈ TG := tg_2 231 (by decide +kernel) rfl
theorem wf_RX5_105 : Cond.fieldLink RX5 105 "ThumbnailRow$Shot" "version" "I" ∈ TG := tg_2 232 (by decide +kernel) rfl
theorem wf_RX4_25 : Cond.fieldLink RX4 25 "ThumbnailRow$Shot" "nameNumber" "I" ∈ TG := tg_2 233 (by decide +kernel) rfl
theorem wf_RX5_75 : Cond.fieldLink RX5 75 "ThumbnailRow$Shot" "nameNumber" "I" ∈ TG := tg_2 234 (by decide +kernel) rfl
theorem wf_RX4_29 : Cond.fieldLink RX4 29 "ThumbnailRow$Shot" "nameLetter" "C" ∈ TG := tg_2 235 (by decide +kernel) rfl
theorem wf_RX5_79 : Cond.fieldLink RX5 79 "ThumbnailRow$Shot" "nameLetter" "C" ∈ TG := tg_2 236 (by decide +kernel) rfl
theorem wf_RX4_33 : Cond.fieldLink RX4 33 "ThumbnailRow$Shot" "holder" "I" ∈ TG := tg_2 237 (by decide +kernel) rfl
theorem wf_RX5_108 : Cond.fieldLink RX5 108 "ThumbnailRow$Shot" "holder" "I" ∈ TG := tg_2 238 (by decide +kernel) rfl
theorem wf_RX5_232 : Cond.fieldLink RX5 232 "ThumbnailRow$Shot" "handedVersion" "I" ∈ TG := tg_2 239 (by decide +kernel) rfl
theorem wf_RX5_273 : Cond.fieldLink RX5 273 "ThumbnailRow$Shot" "isDear" "Z" ∈ TG := tg_3 0 (by decide +kernel) rfl
theorem wf_RJ5_18 : Cond.fieldLink RJ5 18 "java/lang/String" "COMPACT_STRINGS" "Z" ∈ TG := tg_3 116 (by decide +kernel) rfl
theorem wf_RJ5_15 : Cond.fieldLink RJ5 15 "java/lang/AbstractStringBuilder" "value" "[B" ∈ TG := tg_3 125 (by decide +kernel) rfl
theorem wf_RJ5_22 : Cond.fieldLink RJ5 22 "java/lang/AbstractStringBuilder" "coder" "B" ∈ TG := tg_3 126 (by decide +kernel) rfl
theorem wf_RJ0_1048 : Cond.fieldLink RJ0 1048 "java/lang/AbstractStringBuilder" "maybeLatin1" "Z" ∈ TG := tg_3 127 (by decide +kernel) rfl
theorem wf_RJ5_79 : Cond.fieldLink RJ5 79 "java/lang/AbstractStringBuilder" "count" "I" ∈ TG := tg_3 128 (by decide +kernel) rfl
theorem wf_RJ0_1053 : Cond.fieldLink RJ0 1053 "jdk/internal/util/Preconditions" "SIOOBE_FORMATTER" "Ljava/util/function/BiFunction;" ∈ TG := tg_3 187 (by decide +kernel) rfl
theorem wf_RJ2_44 : Cond.fieldLink RJ2 44 "java/lang/StringUTF16" "$assertionsDisabled" "Z" ∈ TG := tg_3 195 (by decide +kernel) rfl
theorem wf_RJ2_59 : Cond.fieldLink RJ2 59 "java/lang/StringUTF16" "HI_BYTE_SHIFT" "I" ∈ TG := tg_3 197 (by decide +kernel) rfl
theorem wf_RJ2_63 : Cond.fieldLink RJ2 63 "java/lang/StringUTF16" "LO_BYTE_SHIFT" "I" ∈ TG := tg_3 199 (by decide +kernel) rfl
theorem wf_RJ0_38 : Cond.fieldLink RJ0 38 "java/lang/String" "COMPACT_STRINGS" "Z" ∈ TG := tg_3 209 (by decide +kernel) rfl
theorem wf_RJ6_83 : Cond.fieldLink RJ6 83 "java/lang/Integer" "DigitOnes" "[B" ∈ TG := tg_4 17 (by decide +kernel) rfl
theorem wf_RJ6_87 : Cond.fieldLink RJ6 87 "java/lang/Integer" "DigitTens" "[B" ∈ TG := tg_4 19 (by decide +kernel) rfl
theorem wf_RJ2_403 : Cond.fieldLink RJ2 403 "java/lang/Integer" "DigitOnes" "[B" ∈ TG := tg_4 27 (by decide +kernel) rfl
theorem wf_RJ2_407 : Cond.fieldLink RJ2 407 "java/lang/Integer" "DigitTens" "[B" ∈ TG := tg_4 28 (by decide +kernel) rfl
theorem wf_RJ0_9 : Cond.fieldLink RJ0 9 "java/lang/String" "value" "[B" ∈ TG := tg_4 87 (by decide +kernel) rfl
theorem wf_RJ0_15 : Cond.fieldLink RJ0 15 "java/lang/String" "coder" "B" ∈ TG := tg_4 88 (by decide +kernel) rfl
theorem wf_RX1_13 : Cond.fieldLink RX1 13 "ThumbnailRow$Note" "subject" "LThumbnailRow$Shot;" ∈ TG := tg_5 138 (by decide +kernel) rfl
theorem wf_RX5_264 : Cond.fieldLink RX5 264 "ThumbnailRow$Note" "subject" "LThumbnailRow$Shot;" ∈ TG := tg_5 139 (by decide +kernel) rfl
theorem wf_RX1_23 : Cond.fieldLink RX1 23 "ThumbnailRow$Note" "version" "I" ∈ TG := tg_5 140 (by decide +kernel) rfl
theorem wf_RX5_268 : Cond.fieldLink RX5 268 "ThumbnailRow$Note" "version" "I" ∈ TG := tg_5 141 (by decide +kernel) rfl
theorem wf_RX1_7 : Cond.fieldLink RX1 7 "ThumbnailRow$Note" "verdict" "C" ∈ TG := tg_5 142 (by decide +kernel) rfl
theorem wf_RX5_259 : Cond.fieldLink RX5 259 "ThumbnailRow$Note" "verdict" "C" ∈ TG := tg_5 143 (by decide +kernel) rfl
theorem wf_RX6_84 : Cond.fieldLink RX6 84 "ThumbnailRowModel" "code" "I" ∈ TG := tg_6 26 (by decide +kernel) rfl
theorem wf_RX6_88 : Cond.fieldLink RX6 88 "ThumbnailRowModel" "made" "I" ∈ TG := tg_6 27 (by decide +kernel) rfl
theorem wf_RX6_95 : Cond.fieldLink RX6 95 "ThumbnailRowModel" "many" "I" ∈ TG := tg_6 28 (by decide +kernel) rfl
theorem wf_RX6_7 : Cond.fieldLink RX6 7 "ThumbnailRowModel" "reel" "[I" ∈ TG := tg_6 29 (by decide +kernel) rfl
theorem wf_RX6_13 : Cond.fieldLink RX6 13 "ThumbnailRowModel" "side" "[C" ∈ TG := tg_6 30 (by decide +kernel) rfl
theorem wf_RX6_17 : Cond.fieldLink RX6 17 "ThumbnailRowModel" "lens" "[I" ∈ TG := tg_6 31 (by decide +kernel) rfl
theorem wf_RX6_20 : Cond.fieldLink RX6 20 "ThumbnailRowModel" "length" "[I" ∈ TG := tg_6 32 (by decide +kernel) rfl
theorem wf_RX6_23 : Cond.fieldLink RX6 23 "ThumbnailRowModel" "version" "[I" ∈ TG := tg_6 33 (by decide +kernel) rfl
theorem wf_RX6_26 : Cond.fieldLink RX6 26 "ThumbnailRowModel" "isDear" "[Z" ∈ TG := tg_6 34 (by decide +kernel) rfl
theorem wf_RX6_30 : Cond.fieldLink RX6 30 "ThumbnailRowModel" "number" "[I" ∈ TG := tg_6 35 (by decide +kernel) rfl
theorem wf_RX6_33 : Cond.fieldLink RX6 33 "ThumbnailRowModel" "letter" "[C" ∈ TG := tg_6 36 (by decide +kernel) rfl
theorem wf_RX6_36 : Cond.fieldLink RX6 36 "ThumbnailRowModel" "place" "[C" ∈ TG := tg_6 37 (by decide +kernel) rfl
theorem wf_RX6_39 : Cond.fieldLink RX6 39 "ThumbnailRowModel" "gaze" "[C" ∈ TG := tg_6 38 (by decide +kernel) rfl
theorem wf_RX6_42 : Cond.fieldLink RX6 42 "ThumbnailRowModel" "enters" "[C" ∈ TG := tg_6 39 (by decide +kernel) rfl
theorem wf_RX6_45 : Cond.fieldLink RX6 45 "ThumbnailRowModel" "leaves" "[C" ∈ TG := tg_6 40 (by decide +kernel) rfl
theorem wf_RX6_106 : Cond.fieldLink RX6 106 "ThumbnailRowModel" "isLocked" "Z" ∈ TG := tg_6 41 (by decide +kernel) rfl
theorem wf_RX6_48 : Cond.fieldLink RX6 48 "ThumbnailRowModel" "excuse" "[C" ∈ TG := tg_6 42 (by decide +kernel) rfl
theorem wf_RX6_51 : Cond.fieldLink RX6 51 "ThumbnailRowModel" "excused" "[I" ∈ TG := tg_6 43 (by decide +kernel) rfl
theorem wf_RX6_54 : Cond.fieldLink RX6 54 "ThumbnailRowModel" "ahead" "[I" ∈ TG := tg_6 44 (by decide +kernel) rfl
theorem wf_RX6_57 : Cond.fieldLink RX6 57 "ThumbnailRowModel" "excusedAhead" "[I" ∈ TG := tg_6 45 (by decide +kernel) rfl
theorem wf_RX6_60 : Cond.fieldLink RX6 60 "ThumbnailRowModel" "hand" "[I" ∈ TG := tg_6 46 (by decide +kernel) rfl
theorem wf_RX6_63 : Cond.fieldLink RX6 63 "ThumbnailRowModel" "handed" "[I" ∈ TG := tg_6 47 (by decide +kernel) rfl
theorem wf_RX6_196 : Cond.fieldLink RX6 196 "ThumbnailRowModel" "conflicts" "I" ∈ TG := tg_6 48 (by decide +kernel) rfl
theorem wf_RX6_199 : Cond.fieldLink RX6 199 "ThumbnailRowModel" "notes" "I" ∈ TG := tg_6 49 (by decide +kernel) rfl
theorem wf_RX6_66 : Cond.fieldLink RX6 66 "ThumbnailRowModel" "noteOf" "[I" ∈ TG := tg_6 50 (by decide +kernel) rfl
theorem wf_RX6_69 : Cond.fieldLink RX6 69 "ThumbnailRowModel" "noted" "[I" ∈ TG := tg_6 51 (by decide +kernel) rfl
theorem wf_RX6_72 : Cond.fieldLink RX6 72 "ThumbnailRowModel" "closed" "[C" ∈ TG := tg_6 52 (by decide +kernel) rfl
theorem wf_RX6_75 : Cond.fieldLink RX6 75 "ThumbnailRowModel" "order" "[I" ∈ TG := tg_6 53 (by decide +kernel) rfl
theorem wf_RX6_78 : Cond.fieldLink RX6 78 "ThumbnailRowModel" "step" "[I" ∈ TG := tg_6 54 (by decide +kernel) rfl
theorem wf_RX6_81 : Cond.fieldLink RX6 81 "ThumbnailRowModel" "used" "[Z" ∈ TG := tg_6 55 (by decide +kernel) rfl
theorem wm_RL_134 : Cond.methodLink RL 134 yX5_init ∈ TG := tg_1 34 (by decide +kernel) rfl
theorem wm_RX5_1 : Cond.methodLink RX5 1 objectInit ∈ TG := tg_1 37 (by decide +kernel) rfl
theorem wm_RX5_9 : Cond.methodLink RX5 9 yJx4a65c_init_da8c8 ∈ TG := tg_1 42 (by decide +kernel) rfl
theorem wm_RJx4a65c_1 : Cond.methodLink RJx4a65c 1 yJxc12de_init_da8c8 ∈ TG := tg_1 45 (by decide +kernel) rfl
theorem wm_RJxc12de_1 : Cond.methodLink RJxc12de 1 yJxa1e45_init_da8c8 ∈ TG := tg_1 48 (by decide +kernel) rfl
theorem wm_RJxa1e45_1 : Cond.methodLink RJxa1e45 1 objectInit ∈ TG := tg_1 51 (by decide +kernel) rfl
theorem wm_RX2_3 : Cond.methodLink RX2 3 objectInit ∈ TG := tg_1 71 (by decide +kernel) rfl
theorem wm_RL_155 : Cond.methodLink RL 155 yX5_shots ∈ TG := tg_1 106 (by decide +kernel) rfl
theorem wm_RX5_37 : Cond.methodLink RX5 37 yJx4a65c_size_8abf5 ∈ TG := tg_1 110 (by decide +kernel) rfl
theorem wm_RL_195 : Cond.methodLink RL 195 yX5_lock ∈ TG := tg_1 114 (by decide +kernel) rfl
theorem wm_RX5_116 : Cond.methodLink RX5 116 yJx4a65c_get_915e3 ∈ TG := tg_1 118 (by decide +kernel) rfl
theorem wm_RJx4a65c_118 : Cond.methodLink RJx4a65c 118 yJ15_checkIndex_7cf53 ∈ TG := tg_1 122 (by decide +kernel) rfl
theorem wm_RJ15_105 : Cond.methodLink RJ15 105 yJ3_checkIndex_8e157 ∈ TG := tg_1 125 (by decide +kernel) rfl
theorem wm_RJx4a65c_123 : Cond.methodLink RJx4a65c 123 yJx4a65c_elementData_915e3 ∈ TG := tg_1 128 (by decide +kernel) rfl
theorem wm_RL_219 : Cond.methodLink RL 219 yX5_broken ∈ TG := tg_1 133 (by decide +kernel) rfl
theorem wm_RX5_225 : Cond.methodLink RX5 225 yX5_brokenCuts ∈ TG := tg_1 137 (by decide +kernel) rfl
theorem wm_RX5_221 : Cond.methodLink RX5 221 yX5_isBrokenBetween ∈ TG := tg_1 141 (by decide +kernel) rfl
theorem wm_RX5_201 : Cond.methodLink RX5 201 yX5_faultBetween ∈ TG := tg_1 144 (by decide +kernel) rfl
theorem wm_RX5_362 : Cond.methodLink RX5 362 yX5_isAcrossLine ∈ TG := tg_1 147 (by decide +kernel) rfl
theorem wm_RX5_365 : Cond.methodLink RX5 365 yX5_isJump ∈ TG := tg_1 150 (by decide +kernel) rfl
theorem wm_RX5_152 : Cond.methodLink RX5 152 yX0_members ∈ TG := tg_1 153 (by decide +kernel) rfl
theorem wm_RX0_24 : Cond.methodLink RX0 24 yX0_has ∈ TG := tg_1 157 (by decide +kernel) rfl
theorem wm_RX5_368 : Cond.methodLink RX5 368 yX5_areGazesUnmatched ∈ TG := tg_1 161 (by decide +kernel) rfl
theorem wm_RX5_385 : Cond.methodLink RX5 385 yX0_onlyMember ∈ TG := tg_1 164 (by decide +kernel) rfl
theorem wm_RX5_372 : Cond.methodLink RX5 372 yX5_isBackByTheSameEdge ∈ TG := tg_1 168 (by decide +kernel) rfl
theorem wm_RX5_376 : Cond.methodLink RX5 376 yX5_isMisplaced ∈ TG := tg_1 171 (by decide +kernel) rfl
theorem wm_RX5_207 : Cond.methodLink RX5 207 yX4_excusedFor ∈ TG := tg_1 174 (by decide +kernel) rfl
theorem wm_RX4_68 : Cond.methodLink RX4 68 yX3_holds ∈ TG := tg_1 178 (by decide +kernel) rfl
theorem wm_RL_232 : Cond.methodLink RL 232 yX5_conflicts ∈ TG := tg_1 182 (by decide +kernel) rfl
theorem wm_RL_256 : Cond.methodLink RL 256 yX5_setups ∈ TG := tg_1 186 (by decide +kernel) rfl
theorem wm_RX5_276 : Cond.methodLink RX5 276 yX5_setupCount ∈ TG := tg_1 190 (by decide +kernel) rfl
theorem wm_RX5_359 : Cond.methodLink RX5 359 yX4_setupBit ∈ TG := tg_1 194 (by decide +kernel) rfl
theorem wm_RX5_157 : Cond.methodLink RX5 157 yJ6_bitCount_0f7a4 ∈ TG := tg_1 198 (by decide +kernel) rfl
theorem wm_RL_260 : Cond.methodLink RL 260 yX5_first ∈ TG := tg_1 204 (by decide +kernel) rfl
theorem wm_RL_264 : Cond.methodLink RL 264 yX5_days ∈ TG := tg_1 208 (by decide +kernel) rfl
theorem wm_RX5_280 : Cond.methodLink RX5 280 yJ9_max_7cf53 ∈ TG := tg_1 212 (by decide +kernel) rfl
theorem wm_RL_275 : Cond.methodLink RL 275 yX5_checksum ∈ TG := tg_1 215 (by decide +kernel) rfl
theorem wm_RX5_253 : Cond.methodLink RX5 253 yX1_kind ∈ TG := tg_1 222 (by decide +kernel) rfl
theorem wm_RL_287 : Cond.methodLink RL 287 yX5_isSound ∈ TG := tg_1 226 (by decide +kernel) rfl
theorem wm_RX5_307 : Cond.methodLink RX5 307 yX5_areNamesUnlike ∈ TG := tg_1 230 (by decide +kernel) rfl
theorem wm_RX5_193 : Cond.methodLink RX5 193 yX5_nameNumberOf ∈ TG := tg_1 234 (by decide +kernel) rfl
theorem wm_RX5_327 : Cond.methodLink RX5 327 yX5_placeOf ∈ TG := tg_1 238 (by decide +kernel) rfl
theorem wm_RX5_311 : Cond.methodLink RX5 311 yX5_isEachSeenAtItsBegin ∈ TG := tg_2 2 (by decide +kernel) rfl
theorem wm_RX5_177 : Cond.methodLink RX5 177 yX5_beginOf ∈ TG := tg_2 6 (by decide +kernel) rfl
theorem wm_RX5_180 : Cond.methodLink RX5 180 yX5_indexSeen ∈ TG := tg_2 10 (by decide +kernel) rfl
theorem wm_RX5_314 : Cond.methodLink RX5 314 yX5_doNotesSumUp ∈ TG := tg_2 14 (by decide +kernel) rfl
theorem wm_RX5_269 : Cond.methodLink RX5 269 yX5_notesOf ∈ TG := tg_2 18 (by decide +kernel) rfl
theorem wm_RX5_317 : Cond.methodLink RX5 317 yX5_areEdgesOfMembers ∈ TG := tg_2 22 (by decide +kernel) rfl
theorem wm_RX5_394 : Cond.methodLink RX5 394 yX0_areEdgesOfThoseIn ∈ TG := tg_2 26 (by decide +kernel) rfl
theorem wm_RL_138 : Cond.methodLink RL 138 yL_shot ∈ TG := tg_2 30 (by decide +kernel) rfl
theorem wm_RL_7 : Cond.methodLink RL 7 yX5_shot ∈ TG := tg_2 36 (by decide +kernel) rfl
theorem wm_RX5_29 : Cond.methodLink RX5 29 yX5_checkCamera ∈ TG := tg_2 40 (by decide +kernel) rfl
theorem wm_RX5_33 : Cond.methodLink RX5 33 yX5_checkLength ∈ TG := tg_2 114 (by decide +kernel) rfl
theorem wm_RX5_52 : Cond.methodLink RX5 52 yX5_numberBehind ∈ TG := tg_2 119 (by decide +kernel) rfl
theorem wm_RX5_56 : Cond.methodLink RX5 56 yX5_freeLetter ∈ TG := tg_2 123 (by decide +kernel) rfl
theorem wm_RX5_355 : Cond.methodLink RX5 355 yX5_isNameTaken ∈ TG := tg_2 127 (by decide +kernel) rfl
theorem wm_RX5_72 : Cond.methodLink RX5 72 yX4_init ∈ TG := tg_2 164 (by decide +kernel) rfl
theorem wm_RX4_3 : Cond.methodLink RX4 3 objectInit ∈ TG := tg_2 167 (by decide +kernel) rfl
theorem wm_RX4_11 : Cond.methodLink RX4 11 yX0_init ∈ TG := tg_2 170 (by decide +kernel) rfl
theorem wm_RX0_3 : Cond.methodLink RX0 3 objectInit ∈ TG := tg_2 173 (by decide +kernel) rfl
theorem wm_RX3_3 : Cond.methodLink RX3 3 objectInit ∈ TG := tg_2 201 (by decide +kernel) rfl
theorem wm_RX5_83 : Cond.methodLink RX5 83 yJx4a65c_add_9ea2d ∈ TG := tg_3 26 (by decide +kernel) rfl
theorem wm_RJx4a65c_131 : Cond.methodLink RJx4a65c 131 yJx4a65c_add_72be8 ∈ TG := tg_3 30 (by decide +kernel) rfl
theorem wm_RJx4a65c_129 : Cond.methodLink RJx4a65c 129 yJx4a65c_grow_d5877 ∈ TG := tg_3 34 (by decide +kernel) rfl
theorem wm_RJx4a65c_69 : Cond.methodLink RJx4a65c 69 yJx4a65c_grow_92f84 ∈ TG := tg_3 38 (by decide +kernel) rfl
theorem wm_RJx4a65c_73 : Cond.methodLink RJx4a65c 73 yJ8_newLength_cabcc ∈ TG := tg_3 42 (by decide +kernel) rfl
theorem wm_RJ8_194 : Cond.methodLink RJ8 194 yJ9_max_7cf53 ∈ TG := tg_3 45 (by decide +kernel) rfl
theorem wm_RJx4a65c_66 : Cond.methodLink RJx4a65c 66 yJ7_copyOf_1904c ∈ TG := tg_3 50 (by decide +kernel) rfl
theorem wm_RJ7_86 : Cond.methodLink RJ7 86 ⟨"java/lang/Object", "getClass", "()Ljava/lang/Class;"⟩ ∈ TG := tg_3 53 (by decide +kernel) rfl
theorem wm_RJ7_300 : Cond.methodLink RJ7 300 yJ7_copyOf_6403c ∈ TG := tg_3 72 (by decide +kernel) rfl
theorem wm_RJ7_304 : Cond.methodLink RJ7 304 yJ9_min_7cf53 ∈ TG := tg_3 78 (by decide +kernel) rfl
theorem wm_RJ7_150 : Cond.methodLink RJ7 150 ⟨"java/lang/System", "arraycopy", "(Ljava/lang/Object;ILjava/lang/Object;II)V"⟩ ∈ TG := tg_3 81 (by decide +kernel) rfl
theorem wm_RJx4a65c_79 : Cond.methodLink RJx4a65c 79 yJ9_max_7cf53 ∈ TG := tg_3 84 (by decide +kernel) rfl
theorem wm_RX5_87 : Cond.methodLink RX5 87 yJx4a65c_add_7a177 ∈ TG := tg_3 86 (by decide +kernel) rfl
theorem wm_RJx4a65c_135 : Cond.methodLink RJx4a65c 135 yJx4a65c_rangeCheckForAdd_d00df ∈ TG := tg_3 90 (by decide +kernel) rfl
theorem wm_RJ5_3 : Cond.methodLink RJ5 3 objectInit ∈ TG := tg_3 115 (by decide +kernel) rfl
theorem wm_RJ5_114 : Cond.methodLink RJ5 114 yJ8_newLength_cabcc ∈ TG := tg_3 158 (by decide +kernel) rfl
theorem wm_RJ0_212 : Cond.methodLink RJ0 212 ⟨"java/lang/System", "arraycopy", "(Ljava/lang/Object;ILjava/lang/Object;II)V"⟩ ∈ TG := tg_4 2 (by decide +kernel) rfl
theorem wm_RJ0_1 : Cond.methodLink RJ0 1 objectInit ∈ TG := tg_4 42 (by decide +kernel) rfl
theorem wm_RJx4a65c_112 : Cond.methodLink RJx4a65c 112 ⟨"java/lang/System", "arraycopy", "(Ljava/lang/Object;ILjava/lang/Object;II)V"⟩ ∈ TG := tg_4 104 (by decide +kernel) rfl
theorem wm_RL_147 : Cond.methodLink RL 147 yL_drop ∈ TG := tg_4 105 (by decide +kernel) rfl
theorem wm_RL_19 : Cond.methodLink RL 19 yX5_drop ∈ TG := tg_4 109 (by decide +kernel) rfl
theorem wm_RX5_93 : Cond.methodLink RX5 93 yX5_madeShot ∈ TG := tg_4 113 (by decide +kernel) rfl
theorem wm_RX5_97 : Cond.methodLink RX5 97 yX5_placeInReel ∈ TG := tg_4 120 (by decide +kernel) rfl
theorem wm_RX5_101 : Cond.methodLink RX5 101 yJx4a65c_remove_915e3 ∈ TG := tg_4 125 (by decide +kernel) rfl
theorem wm_RJx4a65c_144 : Cond.methodLink RJx4a65c 144 yJx4a65c_fastRemove_b59b0 ∈ TG := tg_4 129 (by decide +kernel) rfl
theorem wm_RL_151 : Cond.methodLink RL 151 yL_move ∈ TG := tg_4 133 (by decide +kernel) rfl
theorem wm_RL_25 : Cond.methodLink RL 25 yX5_move ∈ TG := tg_4 136 (by decide +kernel) rfl
theorem wm_RL_159 : Cond.methodLink RL 159 yL_at ∈ TG := tg_4 140 (by decide +kernel) rfl
theorem wm_RL_29 : Cond.methodLink RL 29 yX5_at ∈ TG := tg_4 144 (by decide +kernel) rfl
theorem wm_RL_162 : Cond.methodLink RL 162 yL_place ∈ TG := tg_4 164 (by decide +kernel) rfl
theorem wm_RL_34 : Cond.methodLink RL 34 yX5_place ∈ TG := tg_4 167 (by decide +kernel) rfl
theorem wm_RX5_119 : Cond.methodLink RX5 119 yX5_foundPlace ∈ TG := tg_4 171 (by decide +kernel) rfl
theorem wm_RL_165 : Cond.methodLink RL 165 yL_camera ∈ TG := tg_4 175 (by decide +kernel) rfl
theorem wm_RL_37 : Cond.methodLink RL 37 yX5_camera ∈ TG := tg_4 178 (by decide +kernel) rfl
theorem wm_RX5_122 : Cond.methodLink RX5 122 yX5_checkInReel ∈ TG := tg_4 182 (by decide +kernel) rfl
theorem wm_RX5_126 : Cond.methodLink RX5 126 yX4_film ∈ TG := tg_4 186 (by decide +kernel) rfl
theorem wm_RL_169 : Cond.methodLink RL 169 yL_length ∈ TG := tg_4 190 (by decide +kernel) rfl
theorem wm_RL_41 : Cond.methodLink RL 41 yX5_length ∈ TG := tg_4 193 (by decide +kernel) rfl
theorem wm_RX5_129 : Cond.methodLink RX5 129 yX4_changeLength ∈ TG := tg_4 197 (by decide +kernel) rfl
theorem wm_RL_172 : Cond.methodLink RL 172 yL_stand ∈ TG := tg_4 201 (by decide +kernel) rfl
theorem wm_RL_44 : Cond.methodLink RL 44 yX5_stand ∈ TG := tg_4 204 (by decide +kernel) rfl
theorem wm_RX5_132 : Cond.methodLink RX5 132 yX5_checkCharacter ∈ TG := tg_4 208 (by decide +kernel) rfl
theorem wm_RX5_135 : Cond.methodLink RX5 135 yX5_isPosition ∈ TG := tg_4 212 (by decide +kernel) rfl
theorem wm_RX5_141 : Cond.methodLink RX5 141 yX4_takeOut ∈ TG := tg_4 216 (by decide +kernel) rfl
theorem wm_RX4_58 : Cond.methodLink RX4 58 yX0_has ∈ TG := tg_4 220 (by decide +kernel) rfl
theorem wm_RX5_144 : Cond.methodLink RX5 144 yX4_putIn ∈ TG := tg_4 221 (by decide +kernel) rfl
theorem wm_RL_176 : Cond.methodLink RL 176 yL_enters ∈ TG := tg_4 225 (by decide +kernel) rfl
theorem wm_RL_48 : Cond.methodLink RL 48 yX5_enters ∈ TG := tg_4 228 (by decide +kernel) rfl
theorem wm_RX5_162 : Cond.methodLink RX5 162 yX5_shotForEdge ∈ TG := tg_4 232 (by decide +kernel) rfl
theorem wm_RX5_342 : Cond.methodLink RX5 342 yX0_has ∈ TG := tg_4 237 (by decide +kernel) rfl
theorem wm_RX5_170 : Cond.methodLink RX5 170 yX4_changeEdge ∈ TG := tg_4 239 (by decide +kernel) rfl
theorem wm_RL_180 : Cond.methodLink RL 180 yL_leaves ∈ TG := tg_5 3 (by decide +kernel) rfl
theorem wm_RL_52 : Cond.methodLink RL 52 yX5_leaves ∈ TG := tg_5 6 (by decide +kernel) rfl
theorem wm_RL_183 : Cond.methodLink RL 183 yL_version ∈ TG := tg_5 10 (by decide +kernel) rfl
theorem wm_RL_55 : Cond.methodLink RL 55 yX5_version ∈ TG := tg_5 13 (by decide +kernel) rfl
theorem wm_RL_186 : Cond.methodLink RL 186 yL_time ∈ TG := tg_5 17 (by decide +kernel) rfl
theorem wm_RL_58 : Cond.methodLink RL 58 yX5_time ∈ TG := tg_5 20 (by decide +kernel) rfl
theorem wm_RL_189 : Cond.methodLink RL 189 yL_seen ∈ TG := tg_5 24 (by decide +kernel) rfl
theorem wm_RL_61 : Cond.methodLink RL 61 yX5_seen ∈ TG := tg_5 27 (by decide +kernel) rfl
theorem wm_RL_192 : Cond.methodLink RL 192 yL_ended ∈ TG := tg_5 32 (by decide +kernel) rfl
theorem wm_RL_64 : Cond.methodLink RL 64 yX5_ended ∈ TG := tg_5 35 (by decide +kernel) rfl
theorem wm_RL_200 : Cond.methodLink RL 200 yL_number ∈ TG := tg_5 39 (by decide +kernel) rfl
theorem wm_RL_67 : Cond.methodLink RL 67 yX5_number ∈ TG := tg_5 42 (by decide +kernel) rfl
theorem wm_RX5_190 : Cond.methodLink RX5 190 yX5_foundNumber ∈ TG := tg_5 46 (by decide +kernel) rfl
theorem wm_RL_203 : Cond.methodLink RL 203 yL_letter ∈ TG := tg_5 51 (by decide +kernel) rfl
theorem wm_RL_70 : Cond.methodLink RL 70 yX5_letter ∈ TG := tg_5 54 (by decide +kernel) rfl
theorem wm_RL_206 : Cond.methodLink RL 206 yL_named ∈ TG := tg_5 58 (by decide +kernel) rfl
theorem wm_RL_74 : Cond.methodLink RL 74 yX5_named ∈ TG := tg_5 61 (by decide +kernel) rfl
theorem wm_RL_210 : Cond.methodLink RL 210 yL_wrong ∈ TG := tg_5 66 (by decide +kernel) rfl
theorem wm_RL_78 : Cond.methodLink RL 78 yX5_wrong ∈ TG := tg_5 69 (by decide +kernel) rfl
theorem wm_RX5_198 : Cond.methodLink RX5 198 yX5_checkCut ∈ TG := tg_5 73 (by decide +kernel) rfl
theorem wm_RL_213 : Cond.methodLink RL 213 yL_excuse ∈ TG := tg_5 78 (by decide +kernel) rfl
theorem wm_RL_81 : Cond.methodLink RL 81 yX5_excuse ∈ TG := tg_5 81 (by decide +kernel) rfl
theorem wm_RX5_215 : Cond.methodLink RX5 215 yX3_grant ∈ TG := tg_5 86 (by decide +kernel) rfl
theorem wm_RL_216 : Cond.methodLink RL 216 yL_isBroken ∈ TG := tg_5 90 (by decide +kernel) rfl
theorem wm_RL_85 : Cond.methodLink RL 85 yX5_isBroken ∈ TG := tg_5 93 (by decide +kernel) rfl
theorem wm_RL_223 : Cond.methodLink RL 223 yL_hand ∈ TG := tg_5 97 (by decide +kernel) rfl
theorem wm_RL_89 : Cond.methodLink RL 89 yX5_hand ∈ TG := tg_5 100 (by decide +kernel) rfl
theorem wm_RX5_235 : Cond.methodLink RX5 235 yX5_boardsWith ∈ TG := tg_5 106 (by decide +kernel) rfl
theorem wm_RL_226 : Cond.methodLink RL 226 yL_bring ∈ TG := tg_5 110 (by decide +kernel) rfl
theorem wm_RL_92 : Cond.methodLink RL 92 yX5_bring ∈ TG := tg_5 113 (by decide +kernel) rfl
theorem wm_RL_229 : Cond.methodLink RL 229 yL_with ∈ TG := tg_5 118 (by decide +kernel) rfl
theorem wm_RL_96 : Cond.methodLink RL 96 yX5_with ∈ TG := tg_5 121 (by decide +kernel) rfl
theorem wm_RL_236 : Cond.methodLink RL 236 yL_note ∈ TG := tg_5 125 (by decide +kernel) rfl
theorem wm_RL_99 : Cond.methodLink RL 99 yX5_note ∈ TG := tg_5 128 (by decide +kernel) rfl
theorem wm_RX5_247 : Cond.methodLink RX5 247 yX1_init ∈ TG := tg_5 134 (by decide +kernel) rfl
theorem wm_RX1_1 : Cond.methodLink RX1 1 objectInit ∈ TG := tg_5 137 (by decide +kernel) rfl
theorem wm_RL_239 : Cond.methodLink RL 239 yL_noteIs ∈ TG := tg_5 151 (by decide +kernel) rfl
theorem wm_RL_102 : Cond.methodLink RL 102 yX5_noteIs ∈ TG := tg_5 154 (by decide +kernel) rfl
theorem wm_RX5_249 : Cond.methodLink RX5 249 yX5_madeNote ∈ TG := tg_5 158 (by decide +kernel) rfl
theorem wm_RL_242 : Cond.methodLink RL 242 yL_close ∈ TG := tg_5 163 (by decide +kernel) rfl
theorem wm_RL_105 : Cond.methodLink RL 105 yX5_close ∈ TG := tg_5 166 (by decide +kernel) rfl
theorem wm_RL_246 : Cond.methodLink RL 246 yL_renew ∈ TG := tg_5 171 (by decide +kernel) rfl
theorem wm_RL_109 : Cond.methodLink RL 109 yX5_renew ∈ TG := tg_5 174 (by decide +kernel) rfl
theorem wm_RL_249 : Cond.methodLink RL 249 yL_notes ∈ TG := tg_5 179 (by decide +kernel) rfl
theorem wm_RL_112 : Cond.methodLink RL 112 yX5_notes ∈ TG := tg_5 182 (by decide +kernel) rfl
theorem wm_RL_253 : Cond.methodLink RL 253 yL_dear ∈ TG := tg_5 186 (by decide +kernel) rfl
theorem wm_RL_116 : Cond.methodLink RL 116 yX5_dear ∈ TG := tg_5 189 (by decide +kernel) rfl
theorem wm_RL_268 : Cond.methodLink RL 268 yL_orders ∈ TG := tg_5 193 (by decide +kernel) rfl
theorem wm_RL_119 : Cond.methodLink RL 119 yX5_orders ∈ TG := tg_5 196 (by decide +kernel) rfl
theorem wm_RX5_286 : Cond.methodLink RX5 286 yX5_checkShortReel ∈ TG := tg_5 200 (by decide +kernel) rfl
theorem wm_RX5_350 : Cond.methodLink RX5 350 yJx4a65c_isEmpty_aae02 ∈ TG := tg_5 204 (by decide +kernel) rfl
theorem wm_RX5_289 : Cond.methodLink RX5 289 yX2_layOut ∈ TG := tg_5 209 (by decide +kernel) rfl
theorem wm_RX2_22 : Cond.methodLink RX2 22 yJx4a65c_size_8abf5 ∈ TG := tg_5 213 (by decide +kernel) rfl
theorem wm_RX2_28 : Cond.methodLink RX2 28 yJ9_min_7cf53 ∈ TG := tg_5 214 (by decide +kernel) rfl
theorem wm_RX2_38 : Cond.methodLink RX2 38 yX2_cell ∈ TG := tg_5 215 (by decide +kernel) rfl
theorem wm_RX2_41 : Cond.methodLink RX2 41 yJx4a65c_get_915e3 ∈ TG := tg_5 218 (by decide +kernel) rfl
theorem wm_RX2_51 : Cond.methodLink RX2 51 yX2_goodEndingWith ∈ TG := tg_5 221 (by decide +kernel) rfl
theorem wm_RX2_54 : Cond.methodLink RX2 54 yX2_leastEndingWith ∈ TG := tg_5 225 (by decide +kernel) rfl
theorem wm_RX5_293 : Cond.methodLink RX5 293 yX2_allGood ∈ TG := tg_5 229 (by decide +kernel) rfl
theorem wm_RL_272 : Cond.methodLink RL 272 yL_best ∈ TG := tg_5 233 (by decide +kernel) rfl
theorem wm_RL_123 : Cond.methodLink RL 123 yX5_best ∈ TG := tg_5 236 (by decide +kernel) rfl
theorem wm_RX5_296 : Cond.methodLink RX5 296 yX2_leastWrong ∈ TG := tg_6 0 (by decide +kernel) rfl
theorem wm_RL_280 : Cond.methodLink RL 280 yL_brokenShare ∈ TG := tg_6 4 (by decide +kernel) rfl
theorem wm_RL_126 : Cond.methodLink RL 126 yX5_brokenShare ∈ TG := tg_6 7 (by decide +kernel) rfl
theorem wm_RL_284 : Cond.methodLink RL 284 yL_meanLength ∈ TG := tg_6 12 (by decide +kernel) rfl
theorem wm_RL_130 : Cond.methodLink RL 130 yX5_meanLength ∈ TG := tg_6 15 (by decide +kernel) rfl
theorem wm_RL_137 : Cond.methodLink RL 137 yX6_init ∈ TG := tg_6 22 (by decide +kernel) rfl
theorem wm_RX6_1 : Cond.methodLink RX6 1 objectInit ∈ TG := tg_6 25 (by decide +kernel) rfl
theorem wm_RL_144 : Cond.methodLink RL 144 yX6_thrown ∈ TG := tg_6 117 (by decide +kernel) rfl
theorem wm_RL_143 : Cond.methodLink RL 143 yX6_shot ∈ TG := tg_6 121 (by decide +kernel) rfl
theorem wm_RX6_98 : Cond.methodLink RX6 98 yX6_isCamera ∈ TG := tg_6 125 (by decide +kernel) rfl
theorem wm_RX6_91 : Cond.methodLink RX6 91 yX6_in ∈ TG := tg_6 128 (by decide +kernel) rfl
theorem wm_RX6_102 : Cond.methodLink RX6 102 yX6_fails ∈ TG := tg_6 131 (by decide +kernel) rfl
theorem wm_RX6_110 : Cond.methodLink RX6 110 yX6_freeLetter ∈ TG := tg_6 135 (by decide +kernel) rfl
theorem wm_RX6_114 : Cond.methodLink RX6 114 yX6_putIn ∈ TG := tg_6 139 (by decide +kernel) rfl
theorem wm_RL_150 : Cond.methodLink RL 150 yX6_drop ∈ TG := tg_6 143 (by decide +kernel) rfl
theorem wm_RX6_118 : Cond.methodLink RX6 118 yX6_isShot ∈ TG := tg_6 147 (by decide +kernel) rfl
theorem wm_RX6_121 : Cond.methodLink RX6 121 yX6_placeOf ∈ TG := tg_6 151 (by decide +kernel) rfl
theorem wm_RX6_125 : Cond.methodLink RX6 125 yX6_takeOut ∈ TG := tg_6 155 (by decide +kernel) rfl
theorem wm_RL_154 : Cond.methodLink RL 154 yX6_move ∈ TG := tg_6 159 (by decide +kernel) rfl
theorem wm_RL_158 : Cond.methodLink RL 158 yX6_shots ∈ TG := tg_6 163 (by decide +kernel) rfl
theorem wm_RL_161 : Cond.methodLink RL 161 yX6_at ∈ TG := tg_6 167 (by decide +kernel) rfl
theorem wm_RL_164 : Cond.methodLink RL 164 yX6_place ∈ TG := tg_6 171 (by decide +kernel) rfl
theorem wm_RL_168 : Cond.methodLink RL 168 yX6_camera ∈ TG := tg_6 175 (by decide +kernel) rfl
theorem wm_RX6_129 : Cond.methodLink RX6 129 yX6_change ∈ TG := tg_6 179 (by decide +kernel) rfl
theorem wm_RL_171 : Cond.methodLink RL 171 yX6_length ∈ TG := tg_6 183 (by decide +kernel) rfl
theorem wm_RL_175 : Cond.methodLink RL 175 yX6_stand ∈ TG := tg_6 187 (by decide +kernel) rfl
theorem wm_RX6_133 : Cond.methodLink RX6 133 yX6_isThird ∈ TG := tg_6 191 (by decide +kernel) rfl
theorem wm_RX6_137 : Cond.methodLink RX6 137 yX6_countIn ∈ TG := tg_6 194 (by decide +kernel) rfl
theorem wm_RL_179 : Cond.methodLink RL 179 yX6_enters ∈ TG := tg_6 198 (by decide +kernel) rfl
theorem wm_RX6_143 : Cond.methodLink RX6 143 yX6_noEdge ∈ TG := tg_6 202 (by decide +kernel) rfl
theorem wm_RX6_140 : Cond.methodLink RX6 140 yX6_isEdge ∈ TG := tg_6 206 (by decide +kernel) rfl
theorem wm_RL_182 : Cond.methodLink RL 182 yX6_leaves ∈ TG := tg_6 209 (by decide +kernel) rfl
theorem wm_RL_185 : Cond.methodLink RL 185 yX6_version ∈ TG := tg_6 213 (by decide +kernel) rfl
theorem wm_RL_188 : Cond.methodLink RL 188 yX6_time ∈ TG := tg_6 217 (by decide +kernel) rfl
theorem wm_RX6_147 : Cond.methodLink RX6 147 yX6_begins ∈ TG := tg_6 221 (by decide +kernel) rfl
theorem wm_RL_191 : Cond.methodLink RL 191 yX6_seen ∈ TG := tg_6 225 (by decide +kernel) rfl
theorem wm_RL_194 : Cond.methodLink RL 194 yX6_ended ∈ TG := tg_6 229 (by decide +kernel) rfl
theorem wm_RL_199 : Cond.methodLink RL 199 yX6_lock ∈ TG := tg_6 233 (by decide +kernel) rfl
theorem wm_RL_202 : Cond.methodLink RL 202 yX6_number ∈ TG := tg_6 237 (by decide +kernel) rfl
theorem wm_RX6_150 : Cond.methodLink RX6 150 yX6_hasName ∈ TG := tg_7 1 (by decide +kernel) rfl
theorem wm_RX6_153 : Cond.methodLink RX6 153 yX6_numberOf ∈ TG := tg_7 5 (by decide +kernel) rfl
theorem wm_RL_205 : Cond.methodLink RL 205 yX6_letter ∈ TG := tg_7 9 (by decide +kernel) rfl
theorem wm_RL_209 : Cond.methodLink RL 209 yX6_named ∈ TG := tg_7 13 (by decide +kernel) rfl
theorem wm_RL_212 : Cond.methodLink RL 212 yX6_wrong ∈ TG := tg_7 17 (by decide +kernel) rfl
theorem wm_RX6_179 : Cond.methodLink RX6 179 yX6_wrongWith ∈ TG := tg_7 21 (by decide +kernel) rfl
theorem wm_RX6_167 : Cond.methodLink RX6 167 yX6_areSame ∈ TG := tg_7 25 (by decide +kernel) rfl
theorem wm_RX6_156 : Cond.methodLink RX6 156 yX6_isIn ∈ TG := tg_7 29 (by decide +kernel) rfl
theorem wm_RX6_170 : Cond.methodLink RX6 170 yX6_areBadGazes ∈ TG := tg_7 33 (by decide +kernel) rfl
theorem wm_RX6_160 : Cond.methodLink RX6 160 yX6_alone ∈ TG := tg_7 37 (by decide +kernel) rfl
theorem wm_RX6_163 : Cond.methodLink RX6 163 yX6_other ∈ TG := tg_7 41 (by decide +kernel) rfl
theorem wm_RX6_173 : Cond.methodLink RX6 173 yX6_isBadEdge ∈ TG := tg_7 44 (by decide +kernel) rfl
theorem wm_RX6_176 : Cond.methodLink RX6 176 yX6_isJump ∈ TG := tg_7 48 (by decide +kernel) rfl
theorem wm_RL_215 : Cond.methodLink RL 215 yX6_excuse ∈ TG := tg_7 52 (by decide +kernel) rfl
theorem wm_RX6_183 : Cond.methodLink RX6 183 yX6_isFault ∈ TG := tg_7 56 (by decide +kernel) rfl
theorem wm_RX6_186 : Cond.methodLink RX6 186 yX6_excuseAt ∈ TG := tg_7 59 (by decide +kernel) rfl
theorem wm_RL_218 : Cond.methodLink RL 218 yX6_isBroken ∈ TG := tg_7 63 (by decide +kernel) rfl
theorem wm_RX6_189 : Cond.methodLink RX6 189 yX6_isBrokenAt ∈ TG := tg_7 67 (by decide +kernel) rfl
theorem wm_RL_222 : Cond.methodLink RL 222 yX6_broken ∈ TG := tg_7 71 (by decide +kernel) rfl
theorem wm_RX6_192 : Cond.methodLink RX6 192 yX6_countBroken ∈ TG := tg_7 75 (by decide +kernel) rfl
theorem wm_RL_225 : Cond.methodLink RL 225 yX6_hand ∈ TG := tg_7 79 (by decide +kernel) rfl
theorem wm_RL_228 : Cond.methodLink RL 228 yX6_bring ∈ TG := tg_7 83 (by decide +kernel) rfl
theorem wm_RL_231 : Cond.methodLink RL 231 yX6_with ∈ TG := tg_7 87 (by decide +kernel) rfl
theorem wm_RL_235 : Cond.methodLink RL 235 yX6_conflicts ∈ TG := tg_7 91 (by decide +kernel) rfl
theorem wm_RL_238 : Cond.methodLink RL 238 yX6_note ∈ TG := tg_7 95 (by decide +kernel) rfl
theorem wm_RL_241 : Cond.methodLink RL 241 yX6_noteIs ∈ TG := tg_7 99 (by decide +kernel) rfl
theorem wm_RX6_202 : Cond.methodLink RX6 202 yX6_isNote ∈ TG := tg_7 103 (by decide +kernel) rfl
theorem wm_RX6_205 : Cond.methodLink RX6 205 yX6_isNow ∈ TG := tg_7 107 (by decide +kernel) rfl
theorem wm_RL_245 : Cond.methodLink RL 245 yX6_close ∈ TG := tg_7 111 (by decide +kernel) rfl
theorem wm_RL_248 : Cond.methodLink RL 248 yX6_renew ∈ TG := tg_7 115 (by decide +kernel) rfl
theorem wm_RL_252 : Cond.methodLink RL 252 yX6_notes ∈ TG := tg_7 119 (by decide +kernel) rfl
theorem wm_RL_255 : Cond.methodLink RL 255 yX6_dear ∈ TG := tg_7 123 (by decide +kernel) rfl
theorem wm_RL_259 : Cond.methodLink RL 259 yX6_setups ∈ TG := tg_7 127 (by decide +kernel) rfl
theorem wm_RX6_208 : Cond.methodLink RX6 208 yX6_countSetups ∈ TG := tg_7 131 (by decide +kernel) rfl
theorem wm_RL_263 : Cond.methodLink RL 263 yX6_first ∈ TG := tg_7 135 (by decide +kernel) rfl
theorem wm_RL_267 : Cond.methodLink RL 267 yX6_days ∈ TG := tg_7 139 (by decide +kernel) rfl
theorem wm_RL_271 : Cond.methodLink RL 271 yX6_orders ∈ TG := tg_7 143 (by decide +kernel) rfl
theorem wm_RX6_215 : Cond.methodLink RX6 215 yX6_goThrough ∈ TG := tg_7 147 (by decide +kernel) rfl
theorem wm_RX6_212 : Cond.methodLink RX6 212 yX6_countWrong ∈ TG := tg_7 151 (by decide +kernel) rfl
theorem wm_RL_274 : Cond.methodLink RL 274 yX6_best ∈ TG := tg_7 155 (by decide +kernel) rfl
theorem wm_RL_279 : Cond.methodLink RL 279 yX6_checksum ∈ TG := tg_7 159 (by decide +kernel) rfl
theorem wm_RL_283 : Cond.methodLink RL 283 yX6_brokenShare ∈ TG := tg_7 165 (by decide +kernel) rfl
theorem wm_RL_286 : Cond.methodLink RL 286 yX6_meanLength ∈ TG := tg_7 169 (by decide +kernel) rfl
theorem wm_RL_290 : Cond.methodLink RL 290 yX6_isSound ∈ TG := tg_7 173 (by decide +kernel) rfl
theorem wk_RL_8 : Cond.classLink RL 8 "ThumbnailRow" ∈ TG := tg_1 32 (by decide +kernel) rfl
theorem wk_RX5_7 : Cond.classLink RX5 7 "java/util/ArrayList" ∈ TG := tg_1 40 (by decide +kernel) rfl
theorem wk_RX5_22 : Cond.classLink RX5 22 "ThumbnailRow$Orders" ∈ TG := tg_1 66 (by decide +kernel) rfl
theorem wk_RX5_70 : Cond.classLink RX5 70 "ThumbnailRow$Shot" ∈ TG := tg_1 132 (by decide +kernel) rfl
theorem wk_RX5_245 : Cond.classLink RX5 245 "ThumbnailRow$Note" ∈ TG := tg_1 221 (by decide +kernel) rfl
theorem wk_RL_13 : Cond.classLink RL 13 "java/lang/IllegalArgumentException" ∈ TG := tg_2 33 (by decide +kernel) rfl
theorem wk_RL_15 : Cond.classLink RL 15 "java/lang/UnsupportedOperationException" ∈ TG := tg_2 34 (by decide +kernel) rfl
theorem wk_RL_17 : Cond.classLink RL 17 "java/lang/IllegalStateException" ∈ TG := tg_2 35 (by decide +kernel) rfl
theorem wk_RX5_41 : Cond.classLink RX5 41 "java/lang/IllegalArgumentException" ∈ TG := tg_2 43 (by decide +kernel) rfl
theorem wk_RX5_60 : Cond.classLink RX5 60 "java/lang/UnsupportedOperationException" ∈ TG := tg_2 131 (by decide +kernel) rfl
theorem wk_RX5_65 : Cond.classLink RX5 65 "java/lang/IllegalStateException" ∈ TG := tg_2 147 (by decide +kernel) rfl
theorem wk_RX4_9 : Cond.classLink RX4 9 "ThumbnailRow$Cast" ∈ TG := tg_2 168 (by decide +kernel) rfl
theorem wk_RX4_18 : Cond.classLink RX4 18 "ThumbnailRow$Pardon" ∈ TG := tg_2 196 (by decide +kernel) rfl
theorem wk_RJ7_110 : Cond.classLink RJ7 110 "[Ljava/lang/Object;" ∈ TG := tg_3 75 (by decide +kernel) rfl
theorem wk_RJ7_2 : Cond.classLink RJ7 2 "java/lang/Object" ∈ TG := tg_3 77 (by decide +kernel) rfl
theorem wk_RJx4a65c_7 : Cond.classLink RJx4a65c 7 "java/lang/Object" ∈ TG := tg_3 85 (by decide +kernel) rfl
theorem wk_RJx4a65c_187 : Cond.classLink RJx4a65c 187 "java/lang/IndexOutOfBoundsException" ∈ TG := tg_3 94 (by decide +kernel) rfl
theorem wk_RJx4a65c_20 : Cond.classLink RJx4a65c 20 "java/lang/StringBuilder" ∈ TG := tg_3 107 (by decide +kernel) rfl
theorem wk_RJ7_311 : Cond.classLink RJ7 311 "[B" ∈ TG := tg_3 169 (by decide +kernel) rfl
theorem wk_RJ4_18 : Cond.classLink RJ4 18 "java/lang/String" ∈ TG := tg_4 34 (by decide +kernel) rfl
theorem wk_RJ7_43 : Cond.classLink RJ7 43 "java/lang/IllegalArgumentException" ∈ TG := tg_4 66 (by decide +kernel) rfl
theorem wk_RJ7_45 : Cond.classLink RJ7 45 "java/lang/StringBuilder" ∈ TG := tg_4 67 (by decide +kernel) rfl
theorem wk_RL_23 : Cond.classLink RL 23 "java/lang/IndexOutOfBoundsException" ∈ TG := tg_4 108 (by decide +kernel) rfl
theorem wk_RX5_320 : Cond.classLink RX5 320 "java/lang/IndexOutOfBoundsException" ∈ TG := tg_4 117 (by decide +kernel) rfl
theorem wk_RL_32 : Cond.classLink RL 32 "java/util/NoSuchElementException" ∈ TG := tg_4 143 (by decide +kernel) rfl
theorem wk_RX5_111 : Cond.classLink RX5 111 "java/util/NoSuchElementException" ∈ TG := tg_4 148 (by decide +kernel) rfl
theorem wk_RX2_45 : Cond.classLink RX2 45 "ThumbnailRow$Shot" ∈ TG := tg_5 219 (by decide +kernel) rfl
theorem wk_RL_135 : Cond.classLink RL 135 "ThumbnailRowModel" ∈ TG := tg_6 20 (by decide +kernel) rfl
theorem wn_RL : Cond.initialized RL ∈ TG := tg_1 0 (by decide +kernel) rfl
theorem wn_RX5 : Cond.initialized RX5 ∈ TG := tg_1 1 (by decide +kernel) rfl
theorem wn_RJxa1e45 : Cond.initialized RJxa1e45 ∈ TG := tg_1 2 (by decide +kernel) rfl
theorem wn_RJxc12de : Cond.initialized RJxc12de ∈ TG := tg_1 3 (by decide +kernel) rfl
theorem wn_RJx4a65c : Cond.initialized RJx4a65c ∈ TG := tg_1 4 (by decide +kernel) rfl
theorem wn_RX2 : Cond.initialized RX2 ∈ TG := tg_1 5 (by decide +kernel) rfl
theorem wn_RX6 : Cond.initialized RX6 ∈ TG := tg_1 6 (by decide +kernel) rfl
theorem wn_java_lang_Throwable : Cond.initialized "java/lang/Throwable" ∈ TG := tg_1 7 (by decide +kernel) rfl
theorem wn_java_lang_Exception : Cond.initialized "java/lang/Exception" ∈ TG := tg_1 8 (by decide +kernel) rfl
theorem wn_java_lang_RuntimeException : Cond.initialized "java/lang/RuntimeException" ∈ TG := tg_1 9 (by decide +kernel) rfl
theorem wn_java_lang_IllegalArgumentException : Cond.initialized "java/lang/IllegalArgumentException" ∈ TG := tg_1 10 (by decide +kernel) rfl
theorem wn_RJ15 : Cond.initialized RJ15 ∈ TG := tg_1 11 (by decide +kernel) rfl
theorem wn_RJ3 : Cond.initialized RJ3 ∈ TG := tg_1 12 (by decide +kernel) rfl
theorem wn_java_lang_UnsupportedOperationException : Cond.initialized "java/lang/UnsupportedOperationException" ∈ TG := tg_1 13 (by decide +kernel) rfl
theorem wn_java_lang_IllegalStateException : Cond.initialized "java/lang/IllegalStateException" ∈ TG := tg_1 14 (by decide +kernel) rfl
theorem wn_RX4 : Cond.initialized RX4 ∈ TG := tg_1 15 (by decide +kernel) rfl
theorem wn_RX0 : Cond.initialized RX0 ∈ TG := tg_1 16 (by decide +kernel) rfl
theorem wn_RX3 : Cond.initialized RX3 ∈ TG := tg_1 17 (by decide +kernel) rfl
theorem wn_RJ8 : Cond.initialized RJ8 ∈ TG := tg_1 18 (by decide +kernel) rfl
theorem wn_RJ9 : Cond.initialized RJ9 ∈ TG := tg_1 19 (by decide +kernel) rfl
theorem wn_RJ7 : Cond.initialized RJ7 ∈ TG := tg_1 20 (by decide +kernel) rfl
theorem wn_RJ10 : Cond.initialized RJ10 ∈ TG := tg_1 21 (by decide +kernel) rfl
theorem wn_java_lang_IndexOutOfBoundsException : Cond.initialized "java/lang/IndexOutOfBoundsException" ∈ TG := tg_1 22 (by decide +kernel) rfl
theorem wn_RJ5 : Cond.initialized RJ5 ∈ TG := tg_1 23 (by decide +kernel) rfl
theorem wn_RJ4 : Cond.initialized RJ4 ∈ TG := tg_1 24 (by decide +kernel) rfl
theorem wn_RJ0 : Cond.initialized RJ0 ∈ TG := tg_1 25 (by decide +kernel) rfl
theorem wn_RJ2 : Cond.initialized RJ2 ∈ TG := tg_1 26 (by decide +kernel) rfl
theorem wn_RJ1 : Cond.initialized RJ1 ∈ TG := tg_1 27 (by decide +kernel) rfl
theorem wn_RJxd2413 : Cond.initialized RJxd2413 ∈ TG := tg_1 28 (by decide +kernel) rfl
theorem wn_RJ6 : Cond.initialized RJ6 ∈ TG := tg_1 29 (by decide +kernel) rfl
theorem wn_java_util_NoSuchElementException : Cond.initialized "java/util/NoSuchElementException" ∈ TG := tg_1 30 (by decide +kernel) rfl
theorem wn_RX1 : Cond.initialized RX1 ∈ TG := tg_1 31 (by decide +kernel) rfl
theorem wo_RX5 : Cond.instantiable RX5 6 ∈ TG := tg_1 33 (by decide +kernel) rfl
theorem wi_yX5_init : Cond.instanceMethod yX5_init ∈ TG := tg_1 35 (by decide +kernel) rfl
theorem wc_yX5_init : Cond.code yX5_init cX5_init 1 none ∈ TG := tg_1 36 (by decide +kernel) rfl
theorem wi_objectInit : Cond.instanceMethod objectInit ∈ TG := tg_1 38 (by decide +kernel) rfl
theorem wc_objectInit : Cond.code objectInit ⟨#[0xb1]⟩ 1 none ∈ TG := tg_1 39 (by decide +kernel) rfl
theorem wo_RJx4a65c : Cond.instantiable RJx4a65c 3 ∈ TG := tg_1 41 (by decide +kernel) rfl
theorem wi_yJx4a65c_init_da8c8 : Cond.instanceMethod yJx4a65c_init_da8c8 ∈ TG := tg_1 43 (by decide +kernel) rfl
theorem wc_yJx4a65c_init_da8c8 : Cond.code yJx4a65c_init_da8c8 cJx4a65c_init_da8c8 1 none ∈ TG := tg_1 44 (by decide +kernel) rfl
theorem wi_yJxc12de_init_da8c8 : Cond.instanceMethod yJxc12de_init_da8c8 ∈ TG := tg_1 46 (by decide +kernel) rfl
theorem wc_yJxc12de_init_da8c8 : Cond.code yJxc12de_init_da8c8 cJxc12de_init_da8c8 1 none ∈ TG := tg_1 47 (by decide +kernel) rfl
theorem wi_yJxa1e45_init_da8c8 : Cond.instanceMethod yJxa1e45_init_da8c8 ∈ TG := tg_1 49 (by decide +kernel) rfl
theorem wc_yJxa1e45_init_da8c8 : Cond.code yJxa1e45_init_da8c8 cJxa1e45_init_da8c8 1 none ∈ TG := tg_1 50 (by decide +kernel) rfl
theorem wo_RX2 : Cond.instantiable RX2 4 ∈ TG := tg_1 67 (by decide +kernel) rfl
theorem wi_yX2_init : Cond.instanceMethod yX2_init ∈ TG := tg_1 69 (by decide +kernel) rfl
theorem wc_yX2_init : Cond.code yX2_init cX2_init 1 none ∈ TG := tg_1 70 (by decide +kernel) rfl
theorem wa_boolean : Cond.arrayClass .boolean ∈ TG := tg_1 85 (by decide +kernel) rfl
theorem wa_int : Cond.arrayClass .int ∈ TG := tg_1 86 (by decide +kernel) rfl
theorem wi_yX5_shots : Cond.instanceMethod yX5_shots ∈ TG := tg_1 107 (by decide +kernel) rfl
theorem ws_yX5_shots : Cond.selects RX5 yX5_shots yX5_shots ∈ TG := tg_1 108 (by decide +kernel) rfl
theorem wc_yX5_shots : Cond.code yX5_shots cX5_shots 1 (some .int) ∈ TG := tg_1 109 (by decide +kernel) rfl
theorem wi_yJx4a65c_size_8abf5 : Cond.instanceMethod yJx4a65c_size_8abf5 ∈ TG := tg_1 111 (by decide +kernel) rfl
theorem ws_yJx4a65c_size_8abf5 : Cond.selects RJx4a65c yJx4a65c_size_8abf5 yJx4a65c_size_8abf5 ∈ TG := tg_1 112 (by decide +kernel) rfl
theorem wc_yJx4a65c_size_8abf5 : Cond.code yJx4a65c_size_8abf5 cJx4a65c_size_8abf5 1 (some .int) ∈ TG := tg_1 113 (by decide +kernel) rfl
theorem wi_yX5_lock : Cond.instanceMethod yX5_lock ∈ TG := tg_1 115 (by decide +kernel) rfl
theorem ws_yX5_lock : Cond.selects RX5 yX5_lock yX5_lock ∈ TG := tg_1 116 (by decide +kernel) rfl
theorem wc_yX5_lock : Cond.code yX5_lock cX5_lock 3 (some .boolean) ∈ TG := tg_1 117 (by decide +kernel) rfl
theorem wi_yJx4a65c_get_915e3 : Cond.instanceMethod yJx4a65c_get_915e3 ∈ TG := tg_1 119 (by decide +kernel) rfl
theorem ws_yJx4a65c_get_915e3 : Cond.selects RJx4a65c yJx4a65c_get_915e3 yJx4a65c_get_915e3 ∈ TG := tg_1 120 (by decide +kernel) rfl
theorem wc_yJx4a65c_get_915e3 : Cond.code yJx4a65c_get_915e3 cJx4a65c_get_915e3 2 (some (.object "java/lang/Object")) ∈ TG := tg_1 121 (by decide +kernel) rfl
theorem wt_yJ15_checkIndex_7cf53 : Cond.static yJ15_checkIndex_7cf53 ∈ TG := tg_1 123 (by decide +kernel) rfl
theorem wc_yJ15_checkIndex_7cf53 : Cond.code yJ15_checkIndex_7cf53 cJ15_checkIndex_7cf53 2 (some .int) ∈ TG := tg_1 124 (by decide +kernel) rfl
theorem wt_yJ3_checkIndex_8e157 : Cond.static yJ3_checkIndex_8e157 ∈ TG := tg_1 126 (by decide +kernel) rfl
theorem wc_yJ3_checkIndex_8e157 : Cond.code yJ3_checkIndex_8e157 cJ3_checkIndex_8e157 3 (some .int) ∈ TG := tg_1 127 (by decide +kernel) rfl
theorem wi_yJx4a65c_elementData_915e3 : Cond.instanceMethod yJx4a65c_elementData_915e3 ∈ TG := tg_1 129 (by decide +kernel) rfl
theorem ws_yJx4a65c_elementData_915e3 : Cond.selects RJx4a65c yJx4a65c_elementData_915e3 yJx4a65c_elementData_915e3 ∈ TG := tg_1 130 (by decide +kernel) rfl
theorem wc_yJx4a65c_elementData_915e3 : Cond.code yJx4a65c_elementData_915e3 cJx4a65c_elementData_915e3 2 (some (.object "java/lang/Object")) ∈ TG := tg_1 131 (by decide +kernel) rfl
theorem wi_yX5_broken : Cond.instanceMethod yX5_broken ∈ TG := tg_1 134 (by decide +kernel) rfl
theorem ws_yX5_broken : Cond.selects RX5 yX5_broken yX5_broken ∈ TG := tg_1 135 (by decide +kernel) rfl
theorem wc_yX5_broken : Cond.code yX5_broken cX5_broken 1 (some .int) ∈ TG := tg_1 136 (by decide +kernel) rfl
theorem wi_yX5_brokenCuts : Cond.instanceMethod yX5_brokenCuts ∈ TG := tg_1 139 (by decide +kernel) rfl
theorem wc_yX5_brokenCuts : Cond.code yX5_brokenCuts cX5_brokenCuts 3 (some .int) ∈ TG := tg_1 140 (by decide +kernel) rfl
theorem wt_yX5_isBrokenBetween : Cond.static yX5_isBrokenBetween ∈ TG := tg_1 142 (by decide +kernel) rfl
theorem wc_yX5_isBrokenBetween : Cond.code yX5_isBrokenBetween cX5_isBrokenBetween 3 (some .boolean) ∈ TG := tg_1 143 (by decide +kernel) rfl
theorem wt_yX5_faultBetween : Cond.static yX5_faultBetween ∈ TG := tg_1 145 (by decide +kernel) rfl
theorem wc_yX5_faultBetween : Cond.code yX5_faultBetween cX5_faultBetween 3 (some .char) ∈ TG := tg_1 146 (by decide +kernel) rfl
theorem wt_yX5_isAcrossLine : Cond.static yX5_isAcrossLine ∈ TG := tg_1 148 (by decide +kernel) rfl
theorem wc_yX5_isAcrossLine : Cond.code yX5_isAcrossLine cX5_isAcrossLine 2 (some .boolean) ∈ TG := tg_1 149 (by decide +kernel) rfl
theorem wt_yX5_isJump : Cond.static yX5_isJump ∈ TG := tg_1 151 (by decide +kernel) rfl
theorem wc_yX5_isJump : Cond.code yX5_isJump cX5_isJump 3 (some .boolean) ∈ TG := tg_1 152 (by decide +kernel) rfl
theorem wi_yX0_members : Cond.instanceMethod yX0_members ∈ TG := tg_1 154 (by decide +kernel) rfl
theorem ws_yX0_members : Cond.selects RX0 yX0_members yX0_members ∈ TG := tg_1 155 (by decide +kernel) rfl
theorem wc_yX0_members : Cond.code yX0_members cX0_members 3 (some .int) ∈ TG := tg_1 156 (by decide +kernel) rfl
theorem wi_yX0_has : Cond.instanceMethod yX0_has ∈ TG := tg_1 158 (by decide +kernel) rfl
theorem ws_yX0_has : Cond.selects RX0 yX0_has yX0_has ∈ TG := tg_1 159 (by decide +kernel) rfl
theorem wc_yX0_has : Cond.code yX0_has cX0_has 2 (some .boolean) ∈ TG := tg_1 160 (by decide +kernel) rfl
theorem wt_yX5_areGazesUnmatched : Cond.static yX5_areGazesUnmatched ∈ TG := tg_1 162 (by decide +kernel) rfl
theorem wc_yX5_areGazesUnmatched : Cond.code yX5_areGazesUnmatched cX5_areGazesUnmatched 7 (some .boolean) ∈ TG := tg_1 163 (by decide +kernel) rfl
theorem wi_yX0_onlyMember : Cond.instanceMethod yX0_onlyMember ∈ TG := tg_1 165 (by decide +kernel) rfl
theorem ws_yX0_onlyMember : Cond.selects RX0 yX0_onlyMember yX0_onlyMember ∈ TG := tg_1 166 (by decide +kernel) rfl
theorem wc_yX0_onlyMember : Cond.code yX0_onlyMember cX0_onlyMember 3 (some .int) ∈ TG := tg_1 167 (by decide +kernel) rfl
theorem wt_yX5_isBackByTheSameEdge : Cond.static yX5_isBackByTheSameEdge ∈ TG := tg_1 169 (by decide +kernel) rfl
theorem wc_yX5_isBackByTheSameEdge : Cond.code yX5_isBackByTheSameEdge cX5_isBackByTheSameEdge 4 (some .boolean) ∈ TG := tg_1 170 (by decide +kernel) rfl
theorem wt_yX5_isMisplaced : Cond.static yX5_isMisplaced ∈ TG := tg_1 172 (by decide +kernel) rfl
theorem wc_yX5_isMisplaced : Cond.code yX5_isMisplaced cX5_isMisplaced 5 (some .boolean) ∈ TG := tg_1 173 (by decide +kernel) rfl
theorem wi_yX4_excusedFor : Cond.instanceMethod yX4_excusedFor ∈ TG := tg_1 175 (by decide +kernel) rfl
theorem ws_yX4_excusedFor : Cond.selects RX4 yX4_excusedFor yX4_excusedFor ∈ TG := tg_1 176 (by decide +kernel) rfl
theorem wc_yX4_excusedFor : Cond.code yX4_excusedFor cX4_excusedFor 2 (some .char) ∈ TG := tg_1 177 (by decide +kernel) rfl
theorem wi_yX3_holds : Cond.instanceMethod yX3_holds ∈ TG := tg_1 179 (by decide +kernel) rfl
theorem ws_yX3_holds : Cond.selects RX3 yX3_holds yX3_holds ∈ TG := tg_1 180 (by decide +kernel) rfl
theorem wc_yX3_holds : Cond.code yX3_holds cX3_holds 3 (some .boolean) ∈ TG := tg_1 181 (by decide +kernel) rfl
theorem wi_yX5_conflicts : Cond.instanceMethod yX5_conflicts ∈ TG := tg_1 183 (by decide +kernel) rfl
theorem ws_yX5_conflicts : Cond.selects RX5 yX5_conflicts yX5_conflicts ∈ TG := tg_1 184 (by decide +kernel) rfl
theorem wc_yX5_conflicts : Cond.code yX5_conflicts cX5_conflicts 1 (some .int) ∈ TG := tg_1 185 (by decide +kernel) rfl
theorem wi_yX5_setups : Cond.instanceMethod yX5_setups ∈ TG := tg_1 187 (by decide +kernel) rfl
theorem ws_yX5_setups : Cond.selects RX5 yX5_setups yX5_setups ∈ TG := tg_1 188 (by decide +kernel) rfl
theorem wc_yX5_setups : Cond.code yX5_setups cX5_setups 1 (some .int) ∈ TG := tg_1 189 (by decide +kernel) rfl
theorem wi_yX5_setupCount : Cond.instanceMethod yX5_setupCount ∈ TG := tg_1 192 (by decide +kernel) rfl
theorem wc_yX5_setupCount : Cond.code yX5_setupCount cX5_setupCount 5 (some .int) ∈ TG := tg_1 193 (by decide +kernel) rfl
theorem wi_yX4_setupBit : Cond.instanceMethod yX4_setupBit ∈ TG := tg_1 195 (by decide +kernel) rfl
theorem ws_yX4_setupBit : Cond.selects RX4 yX4_setupBit yX4_setupBit ∈ TG := tg_1 196 (by decide +kernel) rfl
theorem wc_yX4_setupBit : Cond.code yX4_setupBit cX4_setupBit 2 (some .int) ∈ TG := tg_1 197 (by decide +kernel) rfl
theorem wt_yJ6_bitCount_0f7a4 : Cond.static yJ6_bitCount_0f7a4 ∈ TG := tg_1 199 (by decide +kernel) rfl
theorem wc_yJ6_bitCount_0f7a4 : Cond.code yJ6_bitCount_0f7a4 cJ6_bitCount_0f7a4 1 (some .int) ∈ TG := tg_1 200 (by decide +kernel) rfl
theorem wq_RJ6_265 : Cond.constant RJ6 265 (1431655765) ∈ TG := tg_1 201 (by decide +kernel) rfl
theorem wq_RJ6_266 : Cond.constant RJ6 266 (858993459) ∈ TG := tg_1 202 (by decide +kernel) rfl
theorem wq_RJ6_267 : Cond.constant RJ6 267 (252645135) ∈ TG := tg_1 203 (by decide +kernel) rfl
theorem wi_yX5_first : Cond.instanceMethod yX5_first ∈ TG := tg_1 205 (by decide +kernel) rfl
theorem ws_yX5_first : Cond.selects RX5 yX5_first yX5_first ∈ TG := tg_1 206 (by decide +kernel) rfl
theorem wc_yX5_first : Cond.code yX5_first cX5_first 1 (some .int) ∈ TG := tg_1 207 (by decide +kernel) rfl
theorem wi_yX5_days : Cond.instanceMethod yX5_days ∈ TG := tg_1 209 (by decide +kernel) rfl
theorem ws_yX5_days : Cond.selects RX5 yX5_days yX5_days ∈ TG := tg_1 210 (by decide +kernel) rfl
theorem wc_yX5_days : Cond.code yX5_days cX5_days 3 (some .int) ∈ TG := tg_1 211 (by decide +kernel) rfl
theorem wt_yJ9_max_7cf53 : Cond.static yJ9_max_7cf53 ∈ TG := tg_1 213 (by decide +kernel) rfl
theorem wc_yJ9_max_7cf53 : Cond.code yJ9_max_7cf53 cJ9_max_7cf53 2 (some .int) ∈ TG := tg_1 214 (by decide +kernel) rfl
theorem wi_yX5_checksum : Cond.instanceMethod yX5_checksum ∈ TG := tg_1 216 (by decide +kernel) rfl
theorem ws_yX5_checksum : Cond.selects RX5 yX5_checksum yX5_checksum ∈ TG := tg_1 217 (by decide +kernel) rfl
theorem wc_yX5_checksum : Cond.code yX5_checksum cX5_checksum 5 (some .long) ∈ TG := tg_1 218 (by decide +kernel) rfl
theorem wq_RX5_299 : Cond.constantLong RX5 299 (7) ∈ TG := tg_1 219 (by decide +kernel) rfl
theorem wq_RX5_301 : Cond.constantLong RX5 301 (31) ∈ TG := tg_1 220 (by decide +kernel) rfl
theorem wi_yX1_kind : Cond.instanceMethod yX1_kind ∈ TG := tg_1 223 (by decide +kernel) rfl
theorem ws_yX1_kind : Cond.selects RX1 yX1_kind yX1_kind ∈ TG := tg_1 224 (by decide +kernel) rfl
theorem wc_yX1_kind : Cond.code yX1_kind cX1_kind 1 (some .char) ∈ TG := tg_1 225 (by decide +kernel) rfl
theorem wi_yX5_isSound : Cond.instanceMethod yX5_isSound ∈ TG := tg_1 227 (by decide +kernel) rfl
theorem ws_yX5_isSound : Cond.selects RX5 yX5_isSound yX5_isSound ∈ TG := tg_1 228 (by decide +kernel) rfl
theorem wc_yX5_isSound : Cond.code yX5_isSound cX5_isSound 1 (some .boolean) ∈ TG := tg_1 229 (by decide +kernel) rfl
theorem wi_yX5_areNamesUnlike : Cond.instanceMethod yX5_areNamesUnlike ∈ TG := tg_1 232 (by decide +kernel) rfl
theorem wc_yX5_areNamesUnlike : Cond.code yX5_areNamesUnlike cX5_areNamesUnlike 5 (some .boolean) ∈ TG := tg_1 233 (by decide +kernel) rfl
theorem wi_yX5_nameNumberOf : Cond.instanceMethod yX5_nameNumberOf ∈ TG := tg_1 236 (by decide +kernel) rfl
theorem wc_yX5_nameNumberOf : Cond.code yX5_nameNumberOf cX5_nameNumberOf 3 (some .int) ∈ TG := tg_1 237 (by decide +kernel) rfl
theorem wi_yX5_placeOf : Cond.instanceMethod yX5_placeOf ∈ TG := tg_2 0 (by decide +kernel) rfl
theorem wc_yX5_placeOf : Cond.code yX5_placeOf cX5_placeOf 3 (some .int) ∈ TG := tg_2 1 (by decide +kernel) rfl
theorem wi_yX5_isEachSeenAtItsBegin : Cond.instanceMethod yX5_isEachSeenAtItsBegin ∈ TG := tg_2 4 (by decide +kernel) rfl
theorem wc_yX5_isEachSeenAtItsBegin : Cond.code yX5_isEachSeenAtItsBegin cX5_isEachSeenAtItsBegin 2 (some .boolean) ∈ TG := tg_2 5 (by decide +kernel) rfl
theorem wi_yX5_beginOf : Cond.instanceMethod yX5_beginOf ∈ TG := tg_2 8 (by decide +kernel) rfl
theorem wc_yX5_beginOf : Cond.code yX5_beginOf cX5_beginOf 4 (some .int) ∈ TG := tg_2 9 (by decide +kernel) rfl
theorem wi_yX5_indexSeen : Cond.instanceMethod yX5_indexSeen ∈ TG := tg_2 12 (by decide +kernel) rfl
theorem wc_yX5_indexSeen : Cond.code yX5_indexSeen cX5_indexSeen 4 (some .int) ∈ TG := tg_2 13 (by decide +kernel) rfl
theorem wi_yX5_doNotesSumUp : Cond.instanceMethod yX5_doNotesSumUp ∈ TG := tg_2 16 (by decide +kernel) rfl
theorem wc_yX5_doNotesSumUp : Cond.code yX5_doNotesSumUp cX5_doNotesSumUp 1 (some .boolean) ∈ TG := tg_2 17 (by decide +kernel) rfl
theorem wi_yX5_notesOf : Cond.instanceMethod yX5_notesOf ∈ TG := tg_2 20 (by decide +kernel) rfl
theorem wc_yX5_notesOf : Cond.code yX5_notesOf cX5_notesOf 4 (some .int) ∈ TG := tg_2 21 (by decide +kernel) rfl
theorem wi_yX5_areEdgesOfMembers : Cond.instanceMethod yX5_areEdgesOfMembers ∈ TG := tg_2 24 (by decide +kernel) rfl
theorem wc_yX5_areEdgesOfMembers : Cond.code yX5_areEdgesOfMembers cX5_areEdgesOfMembers 2 (some .boolean) ∈ TG := tg_2 25 (by decide +kernel) rfl
theorem wi_yX0_areEdgesOfThoseIn : Cond.instanceMethod yX0_areEdgesOfThoseIn ∈ TG := tg_2 27 (by decide +kernel) rfl
theorem ws_yX0_areEdgesOfThoseIn : Cond.selects RX0 yX0_areEdgesOfThoseIn yX0_areEdgesOfThoseIn ∈ TG := tg_2 28 (by decide +kernel) rfl
theorem wc_yX0_areEdgesOfThoseIn : Cond.code yX0_areEdgesOfThoseIn cX0_areEdgesOfThoseIn 2 (some .boolean) ∈ TG := tg_2 29 (by decide +kernel) rfl
theorem wt_yL_shot : Cond.static yL_shot ∈ TG := tg_2 31 (by decide +kernel) rfl
theorem wc_yL_shot : Cond.codeWith yL_shot cL_shot 7 (some .int) [(0, 14, 17, 13), (0, 14, 21, 15), (0, 14, 25, 17)] ∈ TG := tg_2 32 (by decide +kernel) rfl
theorem wi_yX5_shot : Cond.instanceMethod yX5_shot ∈ TG := tg_2 37 (by decide +kernel) rfl
theorem ws_yX5_shot : Cond.selects RX5 yX5_shot yX5_shot ∈ TG := tg_2 38 (by decide +kernel) rfl
theorem wc_yX5_shot : Cond.code yX5_shot cX5_shot 8 (some .int) ∈ TG := tg_2 39 (by decide +kernel) rfl
theorem wt_yX5_checkCamera : Cond.static yX5_checkCamera ∈ TG := tg_2 41 (by decide +kernel) rfl
theorem wc_yX5_checkCamera : Cond.code yX5_checkCamera cX5_checkCamera 2 none ∈ TG := tg_2 42 (by decide +kernel) rfl
theorem wo_java_lang_IllegalArgumentException : Cond.instantiable "java/lang/IllegalArgumentException" 6 ∈ TG := tg_2 44 (by decide +kernel) rfl
theorem wo_java_lang_Throwable : Cond.instantiable "java/lang/Throwable" 6 ∈ TG := tg_2 84 (by decide +kernel) rfl
theorem wa_byte : Cond.arrayClass .byte ∈ TG := tg_2 112 (by decide +kernel) rfl
theorem wt_yX5_checkLength : Cond.static yX5_checkLength ∈ TG := tg_2 115 (by decide +kernel) rfl
theorem wc_yX5_checkLength : Cond.code yX5_checkLength cX5_checkLength 1 none ∈ TG := tg_2 116 (by decide +kernel) rfl
theorem wi_yX5_numberBehind : Cond.instanceMethod yX5_numberBehind ∈ TG := tg_2 121 (by decide +kernel) rfl
theorem wc_yX5_numberBehind : Cond.code yX5_numberBehind cX5_numberBehind 2 (some .int) ∈ TG := tg_2 122 (by decide +kernel) rfl
theorem wi_yX5_freeLetter : Cond.instanceMethod yX5_freeLetter ∈ TG := tg_2 125 (by decide +kernel) rfl
theorem wc_yX5_freeLetter : Cond.code yX5_freeLetter cX5_freeLetter 3 (some .char) ∈ TG := tg_2 126 (by decide +kernel) rfl
theorem wi_yX5_isNameTaken : Cond.instanceMethod yX5_isNameTaken ∈ TG := tg_2 129 (by decide +kernel) rfl
theorem wc_yX5_isNameTaken : Cond.code yX5_isNameTaken cX5_isNameTaken 5 (some .boolean) ∈ TG := tg_2 130 (by decide +kernel) rfl
theorem wo_java_lang_UnsupportedOperationException : Cond.instantiable "java/lang/UnsupportedOperationException" 6 ∈ TG := tg_2 132 (by decide +kernel) rfl
theorem wo_java_lang_IllegalStateException : Cond.instantiable "java/lang/IllegalStateException" 6 ∈ TG := tg_2 148 (by decide +kernel) rfl
theorem wo_RX4 : Cond.instantiable RX4 12 ∈ TG := tg_2 163 (by decide +kernel) rfl
theorem wi_yX4_init : Cond.instanceMethod yX4_init ∈ TG := tg_2 165 (by decide +kernel) rfl
theorem wc_yX4_init : Cond.code yX4_init cX4_init 5 none ∈ TG := tg_2 166 (by decide +kernel) rfl
theorem wo_RX0 : Cond.instantiable RX0 4 ∈ TG := tg_2 169 (by decide +kernel) rfl
theorem wi_yX0_init : Cond.instanceMethod yX0_init ∈ TG := tg_2 171 (by decide +kernel) rfl
theorem wc_yX0_init : Cond.code yX0_init cX0_init 2 none ∈ TG := tg_2 172 (by decide +kernel) rfl
theorem wa_char : Cond.arrayClass .char ∈ TG := tg_2 195 (by decide +kernel) rfl
theorem wo_RX3 : Cond.instantiable RX3 4 ∈ TG := tg_2 197 (by decide +kernel) rfl
theorem wi_yX3_init : Cond.instanceMethod yX3_init ∈ TG := tg_2 199 (by decide +kernel) rfl
theorem wc_yX3_init : Cond.code yX3_init cX3_init 1 none ∈ TG := tg_2 200 (by decide +kernel) rfl
theorem wi_yJx4a65c_add_9ea2d : Cond.instanceMethod yJx4a65c_add_9ea2d ∈ TG := tg_3 27 (by decide +kernel) rfl
theorem ws_yJx4a65c_add_9ea2d : Cond.selects RJx4a65c yJx4a65c_add_9ea2d yJx4a65c_add_9ea2d ∈ TG := tg_3 28 (by decide +kernel) rfl
theorem wc_yJx4a65c_add_9ea2d : Cond.code yJx4a65c_add_9ea2d cJx4a65c_add_9ea2d 2 (some .boolean) ∈ TG := tg_3 29 (by decide +kernel) rfl
theorem wi_yJx4a65c_add_72be8 : Cond.instanceMethod yJx4a65c_add_72be8 ∈ TG := tg_3 32 (by decide +kernel) rfl
theorem wc_yJx4a65c_add_72be8 : Cond.code yJx4a65c_add_72be8 cJx4a65c_add_72be8 4 none ∈ TG := tg_3 33 (by decide +kernel) rfl
theorem wi_yJx4a65c_grow_d5877 : Cond.instanceMethod yJx4a65c_grow_d5877 ∈ TG := tg_3 36 (by decide +kernel) rfl
theorem wc_yJx4a65c_grow_d5877 : Cond.code yJx4a65c_grow_d5877 cJx4a65c_grow_d5877 1 (some (.array (.object "java/lang/Object"))) ∈ TG := tg_3 37 (by decide +kernel) rfl
theorem wi_yJx4a65c_grow_92f84 : Cond.instanceMethod yJx4a65c_grow_92f84 ∈ TG := tg_3 40 (by decide +kernel) rfl
theorem wc_yJx4a65c_grow_92f84 : Cond.code yJx4a65c_grow_92f84 cJx4a65c_grow_92f84 4 (some (.array (.object "java/lang/Object"))) ∈ TG := tg_3 41 (by decide +kernel) rfl
theorem wt_yJ8_newLength_cabcc : Cond.static yJ8_newLength_cabcc ∈ TG := tg_3 43 (by decide +kernel) rfl
theorem wc_yJ8_newLength_cabcc : Cond.code yJ8_newLength_cabcc cJ8_newLength_cabcc 4 (some .int) ∈ TG := tg_3 44 (by decide +kernel) rfl
theorem wq_RJ8_200 : Cond.constant RJ8 200 (2147483639) ∈ TG := tg_3 46 (by decide +kernel) rfl
theorem wt_yJ7_copyOf_1904c : Cond.static yJ7_copyOf_1904c ∈ TG := tg_3 51 (by decide +kernel) rfl
theorem wc_yJ7_copyOf_1904c : Cond.code yJ7_copyOf_1904c cJ7_copyOf_1904c 2 (some (.array (.object "java/lang/Object"))) ∈ TG := tg_3 52 (by decide +kernel) rfl
theorem wt_yJ7_copyOf_6403c : Cond.static yJ7_copyOf_6403c ∈ TG := tg_3 73 (by decide +kernel) rfl
theorem wc_yJ7_copyOf_6403c : Cond.code yJ7_copyOf_6403c cJ7_copyOf_6403c 4 (some (.array (.object "java/lang/Object"))) ∈ TG := tg_3 74 (by decide +kernel) rfl
theorem wt_yJ9_min_7cf53 : Cond.static yJ9_min_7cf53 ∈ TG := tg_3 79 (by decide +kernel) rfl
theorem wc_yJ9_min_7cf53 : Cond.code yJ9_min_7cf53 cJ9_min_7cf53 2 (some .int) ∈ TG := tg_3 80 (by decide +kernel) rfl
theorem wi_yJx4a65c_add_7a177 : Cond.instanceMethod yJx4a65c_add_7a177 ∈ TG := tg_3 87 (by decide +kernel) rfl
theorem ws_yJx4a65c_add_7a177 : Cond.selects RJx4a65c yJx4a65c_add_7a177 yJx4a65c_add_7a177 ∈ TG := tg_3 88 (by decide +kernel) rfl
theorem wc_yJx4a65c_add_7a177 : Cond.code yJx4a65c_add_7a177 cJx4a65c_add_7a177 5 none ∈ TG := tg_3 89 (by decide +kernel) rfl
theorem wi_yJx4a65c_rangeCheckForAdd_d00df : Cond.instanceMethod yJx4a65c_rangeCheckForAdd_d00df ∈ TG := tg_3 92 (by decide +kernel) rfl
theorem wc_yJx4a65c_rangeCheckForAdd_d00df : Cond.code yJx4a65c_rangeCheckForAdd_d00df cJx4a65c_rangeCheckForAdd_d00df 2 none ∈ TG := tg_3 93 (by decide +kernel) rfl
theorem wo_java_lang_IndexOutOfBoundsException : Cond.instantiable "java/lang/IndexOutOfBoundsException" 6 ∈ TG := tg_3 95 (by decide +kernel) rfl
theorem wo_RJ4 : Cond.instantiable RJ4 4 ∈ TG := tg_3 108 (by decide +kernel) rfl
theorem wq_RJ2_20 : Cond.constant RJ2 20 (1073741823) ∈ TG := tg_3 124 (by decide +kernel) rfl
theorem wq_RJ5_39 : Cond.constant RJ5 39 (2147483647) ∈ TG := tg_3 159 (by decide +kernel) rfl
theorem wo_RJ0 : Cond.instantiable RJ0 4 ∈ TG := tg_4 35 (by decide +kernel) rfl
theorem wt_yL_drop : Cond.static yL_drop ∈ TG := tg_4 106 (by decide +kernel) rfl
theorem wc_yL_drop : Cond.codeWith yL_drop cL_drop 4 (some .int) [(0, 9, 12, 23), (0, 9, 15, 15)] ∈ TG := tg_4 107 (by decide +kernel) rfl
theorem wi_yX5_drop : Cond.instanceMethod yX5_drop ∈ TG := tg_4 110 (by decide +kernel) rfl
theorem ws_yX5_drop : Cond.selects RX5 yX5_drop yX5_drop ∈ TG := tg_4 111 (by decide +kernel) rfl
theorem wc_yX5_drop : Cond.code yX5_drop cX5_drop 4 (some .int) ∈ TG := tg_4 112 (by decide +kernel) rfl
theorem wi_yX5_madeShot : Cond.instanceMethod yX5_madeShot ∈ TG := tg_4 115 (by decide +kernel) rfl
theorem wc_yX5_madeShot : Cond.code yX5_madeShot cX5_madeShot 2 (some (.object "ThumbnailRow$Shot")) ∈ TG := tg_4 116 (by decide +kernel) rfl
theorem wi_yX5_placeInReel : Cond.instanceMethod yX5_placeInReel ∈ TG := tg_4 122 (by decide +kernel) rfl
theorem wc_yX5_placeInReel : Cond.code yX5_placeInReel cX5_placeInReel 3 (some .int) ∈ TG := tg_4 123 (by decide +kernel) rfl
theorem wi_yJx4a65c_remove_915e3 : Cond.instanceMethod yJx4a65c_remove_915e3 ∈ TG := tg_4 126 (by decide +kernel) rfl
theorem ws_yJx4a65c_remove_915e3 : Cond.selects RJx4a65c yJx4a65c_remove_915e3 yJx4a65c_remove_915e3 ∈ TG := tg_4 127 (by decide +kernel) rfl
theorem wc_yJx4a65c_remove_915e3 : Cond.code yJx4a65c_remove_915e3 cJx4a65c_remove_915e3 4 (some (.object "java/lang/Object")) ∈ TG := tg_4 128 (by decide +kernel) rfl
theorem wi_yJx4a65c_fastRemove_b59b0 : Cond.instanceMethod yJx4a65c_fastRemove_b59b0 ∈ TG := tg_4 131 (by decide +kernel) rfl
theorem wc_yJx4a65c_fastRemove_b59b0 : Cond.code yJx4a65c_fastRemove_b59b0 cJx4a65c_fastRemove_b59b0 4 none ∈ TG := tg_4 132 (by decide +kernel) rfl
theorem wt_yL_move : Cond.static yL_move ∈ TG := tg_4 134 (by decide +kernel) rfl
theorem wc_yL_move : Cond.codeWith yL_move cL_move 5 (some .int) [(0, 10, 13, 23), (0, 10, 17, 13), (0, 10, 21, 15)] ∈ TG := tg_4 135 (by decide +kernel) rfl
theorem wi_yX5_move : Cond.instanceMethod yX5_move ∈ TG := tg_4 137 (by decide +kernel) rfl
theorem ws_yX5_move : Cond.selects RX5 yX5_move yX5_move ∈ TG := tg_4 138 (by decide +kernel) rfl
theorem wc_yX5_move : Cond.code yX5_move cX5_move 5 (some .int) ∈ TG := tg_4 139 (by decide +kernel) rfl
theorem wt_yL_at : Cond.static yL_at ∈ TG := tg_4 141 (by decide +kernel) rfl
theorem wc_yL_at : Cond.codeWith yL_at cL_at 4 (some .int) [(0, 9, 12, 32)] ∈ TG := tg_4 142 (by decide +kernel) rfl
theorem wi_yX5_at : Cond.instanceMethod yX5_at ∈ TG := tg_4 145 (by decide +kernel) rfl
theorem ws_yX5_at : Cond.selects RX5 yX5_at yX5_at ∈ TG := tg_4 146 (by decide +kernel) rfl
theorem wc_yX5_at : Cond.code yX5_at cX5_at 2 (some .int) ∈ TG := tg_4 147 (by decide +kernel) rfl
theorem wo_java_util_NoSuchElementException : Cond.instantiable "java/util/NoSuchElementException" 6 ∈ TG := tg_4 149 (by decide +kernel) rfl
theorem wt_yL_place : Cond.static yL_place ∈ TG := tg_4 165 (by decide +kernel) rfl
theorem wc_yL_place : Cond.codeWith yL_place cL_place 4 (some .int) [(0, 9, 12, 23), (0, 9, 15, 32)] ∈ TG := tg_4 166 (by decide +kernel) rfl
theorem wi_yX5_place : Cond.instanceMethod yX5_place ∈ TG := tg_4 168 (by decide +kernel) rfl
theorem ws_yX5_place : Cond.selects RX5 yX5_place yX5_place ∈ TG := tg_4 169 (by decide +kernel) rfl
theorem wc_yX5_place : Cond.code yX5_place cX5_place 2 (some .int) ∈ TG := tg_4 170 (by decide +kernel) rfl
theorem wi_yX5_foundPlace : Cond.instanceMethod yX5_foundPlace ∈ TG := tg_4 173 (by decide +kernel) rfl
theorem wc_yX5_foundPlace : Cond.code yX5_foundPlace cX5_foundPlace 3 (some .int) ∈ TG := tg_4 174 (by decide +kernel) rfl
theorem wt_yL_camera : Cond.static yL_camera ∈ TG := tg_4 176 (by decide +kernel) rfl
theorem wc_yL_camera : Cond.codeWith yL_camera cL_camera 6 (some .int) [(0, 12, 15, 23), (0, 12, 19, 13), (0, 12, 23, 15)] ∈ TG := tg_4 177 (by decide +kernel) rfl
theorem wi_yX5_camera : Cond.instanceMethod yX5_camera ∈ TG := tg_4 179 (by decide +kernel) rfl
theorem ws_yX5_camera : Cond.selects RX5 yX5_camera yX5_camera ∈ TG := tg_4 180 (by decide +kernel) rfl
theorem wc_yX5_camera : Cond.code yX5_camera cX5_camera 5 (some .int) ∈ TG := tg_4 181 (by decide +kernel) rfl
theorem wi_yX5_checkInReel : Cond.instanceMethod yX5_checkInReel ∈ TG := tg_4 184 (by decide +kernel) rfl
theorem wc_yX5_checkInReel : Cond.code yX5_checkInReel cX5_checkInReel 2 none ∈ TG := tg_4 185 (by decide +kernel) rfl
theorem wi_yX4_film : Cond.instanceMethod yX4_film ∈ TG := tg_4 187 (by decide +kernel) rfl
theorem ws_yX4_film : Cond.selects RX4 yX4_film yX4_film ∈ TG := tg_4 188 (by decide +kernel) rfl
theorem wc_yX4_film : Cond.code yX4_film cX4_film 3 none ∈ TG := tg_4 189 (by decide +kernel) rfl
theorem wt_yL_length : Cond.static yL_length ∈ TG := tg_4 191 (by decide +kernel) rfl
theorem wc_yL_length : Cond.codeWith yL_length cL_length 5 (some .int) [(0, 10, 13, 23), (0, 10, 17, 13), (0, 10, 21, 15)] ∈ TG := tg_4 192 (by decide +kernel) rfl
theorem wi_yX5_length : Cond.instanceMethod yX5_length ∈ TG := tg_4 194 (by decide +kernel) rfl
theorem ws_yX5_length : Cond.selects RX5 yX5_length yX5_length ∈ TG := tg_4 195 (by decide +kernel) rfl
theorem wc_yX5_length : Cond.code yX5_length cX5_length 4 (some .int) ∈ TG := tg_4 196 (by decide +kernel) rfl
theorem wi_yX4_changeLength : Cond.instanceMethod yX4_changeLength ∈ TG := tg_4 198 (by decide +kernel) rfl
theorem ws_yX4_changeLength : Cond.selects RX4 yX4_changeLength yX4_changeLength ∈ TG := tg_4 199 (by decide +kernel) rfl
theorem wc_yX4_changeLength : Cond.code yX4_changeLength cX4_changeLength 3 (some .int) ∈ TG := tg_4 200 (by decide +kernel) rfl
theorem wt_yL_stand : Cond.static yL_stand ∈ TG := tg_4 202 (by decide +kernel) rfl
theorem wc_yL_stand : Cond.codeWith yL_stand cL_stand 7 (some .int) [(0, 14, 17, 23), (0, 14, 21, 13), (0, 14, 25, 15)] ∈ TG := tg_4 203 (by decide +kernel) rfl
theorem wi_yX5_stand : Cond.instanceMethod yX5_stand ∈ TG := tg_4 205 (by decide +kernel) rfl
theorem ws_yX5_stand : Cond.selects RX5 yX5_stand yX5_stand ∈ TG := tg_4 206 (by decide +kernel) rfl
theorem wc_yX5_stand : Cond.code yX5_stand cX5_stand 6 (some .int) ∈ TG := tg_4 207 (by decide +kernel) rfl
theorem wt_yX5_checkCharacter : Cond.static yX5_checkCharacter ∈ TG := tg_4 209 (by decide +kernel) rfl
theorem wc_yX5_checkCharacter : Cond.code yX5_checkCharacter cX5_checkCharacter 1 none ∈ TG := tg_4 210 (by decide +kernel) rfl
theorem wt_yX5_isPosition : Cond.static yX5_isPosition ∈ TG := tg_4 213 (by decide +kernel) rfl
theorem wc_yX5_isPosition : Cond.code yX5_isPosition cX5_isPosition 1 (some .boolean) ∈ TG := tg_4 214 (by decide +kernel) rfl
theorem wi_yX4_takeOut : Cond.instanceMethod yX4_takeOut ∈ TG := tg_4 217 (by decide +kernel) rfl
theorem ws_yX4_takeOut : Cond.selects RX4 yX4_takeOut yX4_takeOut ∈ TG := tg_4 218 (by decide +kernel) rfl
theorem wc_yX4_takeOut : Cond.code yX4_takeOut cX4_takeOut 2 none ∈ TG := tg_4 219 (by decide +kernel) rfl
theorem wi_yX4_putIn : Cond.instanceMethod yX4_putIn ∈ TG := tg_4 222 (by decide +kernel) rfl
theorem ws_yX4_putIn : Cond.selects RX4 yX4_putIn yX4_putIn ∈ TG := tg_4 223 (by decide +kernel) rfl
theorem wc_yX4_putIn : Cond.code yX4_putIn cX4_putIn 4 none ∈ TG := tg_4 224 (by decide +kernel) rfl
theorem wt_yL_enters : Cond.static yL_enters ∈ TG := tg_4 226 (by decide +kernel) rfl
theorem wc_yL_enters : Cond.codeWith yL_enters cL_enters 6 (some .int) [(0, 12, 15, 23), (0, 12, 19, 13), (0, 12, 23, 15)] ∈ TG := tg_4 227 (by decide +kernel) rfl
theorem wi_yX5_enters : Cond.instanceMethod yX5_enters ∈ TG := tg_4 229 (by decide +kernel) rfl
theorem ws_yX5_enters : Cond.selects RX5 yX5_enters yX5_enters ∈ TG := tg_4 230 (by decide +kernel) rfl
theorem wc_yX5_enters : Cond.code yX5_enters cX5_enters 5 (some .char) ∈ TG := tg_4 231 (by decide +kernel) rfl
theorem wi_yX5_shotForEdge : Cond.instanceMethod yX5_shotForEdge ∈ TG := tg_4 234 (by decide +kernel) rfl
theorem wc_yX5_shotForEdge : Cond.code yX5_shotForEdge cX5_shotForEdge 5 (some (.object "ThumbnailRow$Shot")) ∈ TG := tg_4 235 (by decide +kernel) rfl
theorem wi_yX4_changeEdge : Cond.instanceMethod yX4_changeEdge ∈ TG := tg_5 0 (by decide +kernel) rfl
theorem ws_yX4_changeEdge : Cond.selects RX4 yX4_changeEdge yX4_changeEdge ∈ TG := tg_5 1 (by decide +kernel) rfl
theorem wc_yX4_changeEdge : Cond.code yX4_changeEdge cX4_changeEdge 5 (some .char) ∈ TG := tg_5 2 (by decide +kernel) rfl
theorem wt_yL_leaves : Cond.static yL_leaves ∈ TG := tg_5 4 (by decide +kernel) rfl
theorem wc_yL_leaves : Cond.codeWith yL_leaves cL_leaves 6 (some .int) [(0, 12, 15, 23), (0, 12, 19, 13), (0, 12, 23, 15)] ∈ TG := tg_5 5 (by decide +kernel) rfl
theorem wi_yX5_leaves : Cond.instanceMethod yX5_leaves ∈ TG := tg_5 7 (by decide +kernel) rfl
theorem ws_yX5_leaves : Cond.selects RX5 yX5_leaves yX5_leaves ∈ TG := tg_5 8 (by decide +kernel) rfl
theorem wc_yX5_leaves : Cond.code yX5_leaves cX5_leaves 5 (some .char) ∈ TG := tg_5 9 (by decide +kernel) rfl
theorem wt_yL_version : Cond.static yL_version ∈ TG := tg_5 11 (by decide +kernel) rfl
theorem wc_yL_version : Cond.codeWith yL_version cL_version 4 (some .int) [(0, 9, 12, 23)] ∈ TG := tg_5 12 (by decide +kernel) rfl
theorem wi_yX5_version : Cond.instanceMethod yX5_version ∈ TG := tg_5 14 (by decide +kernel) rfl
theorem ws_yX5_version : Cond.selects RX5 yX5_version yX5_version ∈ TG := tg_5 15 (by decide +kernel) rfl
theorem wc_yX5_version : Cond.code yX5_version cX5_version 2 (some .int) ∈ TG := tg_5 16 (by decide +kernel) rfl
theorem wt_yL_time : Cond.static yL_time ∈ TG := tg_5 18 (by decide +kernel) rfl
theorem wc_yL_time : Cond.codeWith yL_time cL_time 4 (some .int) [(0, 9, 12, 23), (0, 9, 15, 32)] ∈ TG := tg_5 19 (by decide +kernel) rfl
theorem wi_yX5_time : Cond.instanceMethod yX5_time ∈ TG := tg_5 21 (by decide +kernel) rfl
theorem ws_yX5_time : Cond.selects RX5 yX5_time yX5_time ∈ TG := tg_5 22 (by decide +kernel) rfl
theorem wc_yX5_time : Cond.code yX5_time cX5_time 2 (some .int) ∈ TG := tg_5 23 (by decide +kernel) rfl
theorem wt_yL_seen : Cond.static yL_seen ∈ TG := tg_5 25 (by decide +kernel) rfl
theorem wc_yL_seen : Cond.codeWith yL_seen cL_seen 4 (some .int) [(0, 9, 12, 32)] ∈ TG := tg_5 26 (by decide +kernel) rfl
theorem wi_yX5_seen : Cond.instanceMethod yX5_seen ∈ TG := tg_5 28 (by decide +kernel) rfl
theorem ws_yX5_seen : Cond.selects RX5 yX5_seen yX5_seen ∈ TG := tg_5 29 (by decide +kernel) rfl
theorem wc_yX5_seen : Cond.code yX5_seen cX5_seen 3 (some .int) ∈ TG := tg_5 30 (by decide +kernel) rfl
theorem wt_yL_ended : Cond.static yL_ended ∈ TG := tg_5 33 (by decide +kernel) rfl
theorem wc_yL_ended : Cond.codeWith yL_ended cL_ended 4 (some .int) [(0, 9, 12, 13)] ∈ TG := tg_5 34 (by decide +kernel) rfl
theorem wi_yX5_ended : Cond.instanceMethod yX5_ended ∈ TG := tg_5 36 (by decide +kernel) rfl
theorem ws_yX5_ended : Cond.selects RX5 yX5_ended yX5_ended ∈ TG := tg_5 37 (by decide +kernel) rfl
theorem wc_yX5_ended : Cond.code yX5_ended cX5_ended 5 (some .int) ∈ TG := tg_5 38 (by decide +kernel) rfl
theorem wt_yL_number : Cond.static yL_number ∈ TG := tg_5 40 (by decide +kernel) rfl
theorem wc_yL_number : Cond.codeWith yL_number cL_number 4 (some .int) [(0, 9, 12, 23), (0, 9, 15, 32)] ∈ TG := tg_5 41 (by decide +kernel) rfl
theorem wi_yX5_number : Cond.instanceMethod yX5_number ∈ TG := tg_5 43 (by decide +kernel) rfl
theorem ws_yX5_number : Cond.selects RX5 yX5_number yX5_number ∈ TG := tg_5 44 (by decide +kernel) rfl
theorem wc_yX5_number : Cond.code yX5_number cX5_number 2 (some .int) ∈ TG := tg_5 45 (by decide +kernel) rfl
theorem wi_yX5_foundNumber : Cond.instanceMethod yX5_foundNumber ∈ TG := tg_5 48 (by decide +kernel) rfl
theorem wc_yX5_foundNumber : Cond.code yX5_foundNumber cX5_foundNumber 3 (some .int) ∈ TG := tg_5 49 (by decide +kernel) rfl
theorem wt_yL_letter : Cond.static yL_letter ∈ TG := tg_5 52 (by decide +kernel) rfl
theorem wc_yL_letter : Cond.codeWith yL_letter cL_letter 4 (some .int) [(0, 9, 12, 23), (0, 9, 15, 32)] ∈ TG := tg_5 53 (by decide +kernel) rfl
theorem wi_yX5_letter : Cond.instanceMethod yX5_letter ∈ TG := tg_5 55 (by decide +kernel) rfl
theorem ws_yX5_letter : Cond.selects RX5 yX5_letter yX5_letter ∈ TG := tg_5 56 (by decide +kernel) rfl
theorem wc_yX5_letter : Cond.code yX5_letter cX5_letter 3 (some .char) ∈ TG := tg_5 57 (by decide +kernel) rfl
theorem wt_yL_named : Cond.static yL_named ∈ TG := tg_5 59 (by decide +kernel) rfl
theorem wc_yL_named : Cond.codeWith yL_named cL_named 5 (some .int) [(0, 10, 13, 32)] ∈ TG := tg_5 60 (by decide +kernel) rfl
theorem wi_yX5_named : Cond.instanceMethod yX5_named ∈ TG := tg_5 62 (by decide +kernel) rfl
theorem ws_yX5_named : Cond.selects RX5 yX5_named yX5_named ∈ TG := tg_5 63 (by decide +kernel) rfl
theorem wc_yX5_named : Cond.code yX5_named cX5_named 5 (some .int) ∈ TG := tg_5 64 (by decide +kernel) rfl
theorem wt_yL_wrong : Cond.static yL_wrong ∈ TG := tg_5 67 (by decide +kernel) rfl
theorem wc_yL_wrong : Cond.codeWith yL_wrong cL_wrong 4 (some .int) [(0, 9, 12, 32)] ∈ TG := tg_5 68 (by decide +kernel) rfl
theorem wi_yX5_wrong : Cond.instanceMethod yX5_wrong ∈ TG := tg_5 70 (by decide +kernel) rfl
theorem ws_yX5_wrong : Cond.selects RX5 yX5_wrong yX5_wrong ∈ TG := tg_5 71 (by decide +kernel) rfl
theorem wc_yX5_wrong : Cond.code yX5_wrong cX5_wrong 2 (some .char) ∈ TG := tg_5 72 (by decide +kernel) rfl
theorem wi_yX5_checkCut : Cond.instanceMethod yX5_checkCut ∈ TG := tg_5 75 (by decide +kernel) rfl
theorem wc_yX5_checkCut : Cond.code yX5_checkCut cX5_checkCut 2 none ∈ TG := tg_5 76 (by decide +kernel) rfl
theorem wt_yL_excuse : Cond.static yL_excuse ∈ TG := tg_5 79 (by decide +kernel) rfl
theorem wc_yL_excuse : Cond.codeWith yL_excuse cL_excuse 5 (some .int) [(0, 10, 13, 13), (0, 10, 17, 32)] ∈ TG := tg_5 80 (by decide +kernel) rfl
theorem wi_yX5_excuse : Cond.instanceMethod yX5_excuse ∈ TG := tg_5 82 (by decide +kernel) rfl
theorem ws_yX5_excuse : Cond.selects RX5 yX5_excuse yX5_excuse ∈ TG := tg_5 83 (by decide +kernel) rfl
theorem wc_yX5_excuse : Cond.code yX5_excuse cX5_excuse 6 (some .char) ∈ TG := tg_5 84 (by decide +kernel) rfl
theorem wi_yX3_grant : Cond.instanceMethod yX3_grant ∈ TG := tg_5 87 (by decide +kernel) rfl
theorem ws_yX3_grant : Cond.selects RX3 yX3_grant yX3_grant ∈ TG := tg_5 88 (by decide +kernel) rfl
theorem wc_yX3_grant : Cond.code yX3_grant cX3_grant 4 none ∈ TG := tg_5 89 (by decide +kernel) rfl
theorem wt_yL_isBroken : Cond.static yL_isBroken ∈ TG := tg_5 91 (by decide +kernel) rfl
theorem wc_yL_isBroken : Cond.codeWith yL_isBroken cL_isBroken 4 (some .int) [(0, 16, 19, 32)] ∈ TG := tg_5 92 (by decide +kernel) rfl
theorem wi_yX5_isBroken : Cond.instanceMethod yX5_isBroken ∈ TG := tg_5 94 (by decide +kernel) rfl
theorem ws_yX5_isBroken : Cond.selects RX5 yX5_isBroken yX5_isBroken ∈ TG := tg_5 95 (by decide +kernel) rfl
theorem wc_yX5_isBroken : Cond.code yX5_isBroken cX5_isBroken 2 (some .boolean) ∈ TG := tg_5 96 (by decide +kernel) rfl
theorem wt_yL_hand : Cond.static yL_hand ∈ TG := tg_5 98 (by decide +kernel) rfl
theorem wc_yL_hand : Cond.codeWith yL_hand cL_hand 5 (some .int) [(0, 10, 13, 23), (0, 10, 17, 13), (0, 10, 21, 15)] ∈ TG := tg_5 99 (by decide +kernel) rfl
theorem wi_yX5_hand : Cond.instanceMethod yX5_hand ∈ TG := tg_5 101 (by decide +kernel) rfl
theorem ws_yX5_hand : Cond.selects RX5 yX5_hand yX5_hand ∈ TG := tg_5 102 (by decide +kernel) rfl
theorem wc_yX5_hand : Cond.code yX5_hand cX5_hand 4 (some .int) ∈ TG := tg_5 103 (by decide +kernel) rfl
theorem wi_yX5_boardsWith : Cond.instanceMethod yX5_boardsWith ∈ TG := tg_5 108 (by decide +kernel) rfl
theorem wc_yX5_boardsWith : Cond.code yX5_boardsWith cX5_boardsWith 4 (some .int) ∈ TG := tg_5 109 (by decide +kernel) rfl
theorem wt_yL_bring : Cond.static yL_bring ∈ TG := tg_5 111 (by decide +kernel) rfl
theorem wc_yL_bring : Cond.codeWith yL_bring cL_bring 5 (some .int) [(0, 17, 20, 23), (0, 17, 24, 13), (0, 17, 28, 15)] ∈ TG := tg_5 112 (by decide +kernel) rfl
theorem wi_yX5_bring : Cond.instanceMethod yX5_bring ∈ TG := tg_5 114 (by decide +kernel) rfl
theorem ws_yX5_bring : Cond.selects RX5 yX5_bring yX5_bring ∈ TG := tg_5 115 (by decide +kernel) rfl
theorem wc_yX5_bring : Cond.code yX5_bring cX5_bring 4 (some .boolean) ∈ TG := tg_5 116 (by decide +kernel) rfl
theorem wt_yL_with : Cond.static yL_with ∈ TG := tg_5 119 (by decide +kernel) rfl
theorem wc_yL_with : Cond.codeWith yL_with cL_with 4 (some .int) [(0, 9, 12, 23), (0, 9, 15, 32)] ∈ TG := tg_5 120 (by decide +kernel) rfl
theorem wi_yX5_with : Cond.instanceMethod yX5_with ∈ TG := tg_5 122 (by decide +kernel) rfl
theorem ws_yX5_with : Cond.selects RX5 yX5_with yX5_with ∈ TG := tg_5 123 (by decide +kernel) rfl
theorem wc_yX5_with : Cond.code yX5_with cX5_with 3 (some .int) ∈ TG := tg_5 124 (by decide +kernel) rfl
theorem wt_yL_note : Cond.static yL_note ∈ TG := tg_5 126 (by decide +kernel) rfl
theorem wc_yL_note : Cond.codeWith yL_note cL_note 4 (some .int) [(0, 9, 12, 23), (0, 9, 15, 15), (0, 9, 18, 17)] ∈ TG := tg_5 127 (by decide +kernel) rfl
theorem wi_yX5_note : Cond.instanceMethod yX5_note ∈ TG := tg_5 129 (by decide +kernel) rfl
theorem ws_yX5_note : Cond.selects RX5 yX5_note yX5_note ∈ TG := tg_5 130 (by decide +kernel) rfl
theorem wc_yX5_note : Cond.code yX5_note cX5_note 3 (some .int) ∈ TG := tg_5 131 (by decide +kernel) rfl
theorem wo_RX1 : Cond.instantiable RX1 3 ∈ TG := tg_5 133 (by decide +kernel) rfl
theorem wi_yX1_init : Cond.instanceMethod yX1_init ∈ TG := tg_5 135 (by decide +kernel) rfl
theorem wc_yX1_init : Cond.code yX1_init cX1_init 2 none ∈ TG := tg_5 136 (by decide +kernel) rfl
theorem wt_yL_noteIs : Cond.static yL_noteIs ∈ TG := tg_5 152 (by decide +kernel) rfl
theorem wc_yL_noteIs : Cond.codeWith yL_noteIs cL_noteIs 4 (some .int) [(0, 9, 12, 23)] ∈ TG := tg_5 153 (by decide +kernel) rfl
theorem wi_yX5_noteIs : Cond.instanceMethod yX5_noteIs ∈ TG := tg_5 155 (by decide +kernel) rfl
theorem ws_yX5_noteIs : Cond.selects RX5 yX5_noteIs yX5_noteIs ∈ TG := tg_5 156 (by decide +kernel) rfl
theorem wc_yX5_noteIs : Cond.code yX5_noteIs cX5_noteIs 2 (some .char) ∈ TG := tg_5 157 (by decide +kernel) rfl
theorem wi_yX5_madeNote : Cond.instanceMethod yX5_madeNote ∈ TG := tg_5 160 (by decide +kernel) rfl
theorem wc_yX5_madeNote : Cond.code yX5_madeNote cX5_madeNote 2 (some (.object "ThumbnailRow$Note")) ∈ TG := tg_5 161 (by decide +kernel) rfl
theorem wt_yL_close : Cond.static yL_close ∈ TG := tg_5 164 (by decide +kernel) rfl
theorem wc_yL_close : Cond.codeWith yL_close cL_close 5 (some .int) [(0, 17, 20, 23), (0, 17, 24, 15)] ∈ TG := tg_5 165 (by decide +kernel) rfl
theorem wi_yX5_close : Cond.instanceMethod yX5_close ∈ TG := tg_5 167 (by decide +kernel) rfl
theorem ws_yX5_close : Cond.selects RX5 yX5_close yX5_close ∈ TG := tg_5 168 (by decide +kernel) rfl
theorem wc_yX5_close : Cond.code yX5_close cX5_close 4 (some .boolean) ∈ TG := tg_5 169 (by decide +kernel) rfl
theorem wt_yL_renew : Cond.static yL_renew ∈ TG := tg_5 172 (by decide +kernel) rfl
theorem wc_yL_renew : Cond.codeWith yL_renew cL_renew 4 (some .int) [(0, 9, 12, 23), (0, 9, 15, 15)] ∈ TG := tg_5 173 (by decide +kernel) rfl
theorem wi_yX5_renew : Cond.instanceMethod yX5_renew ∈ TG := tg_5 175 (by decide +kernel) rfl
theorem ws_yX5_renew : Cond.selects RX5 yX5_renew yX5_renew ∈ TG := tg_5 176 (by decide +kernel) rfl
theorem wc_yX5_renew : Cond.code yX5_renew cX5_renew 3 (some .int) ∈ TG := tg_5 177 (by decide +kernel) rfl
theorem wt_yL_notes : Cond.static yL_notes ∈ TG := tg_5 180 (by decide +kernel) rfl
theorem wc_yL_notes : Cond.codeWith yL_notes cL_notes 4 (some .int) [(0, 9, 12, 13)] ∈ TG := tg_5 181 (by decide +kernel) rfl
theorem wi_yX5_notes : Cond.instanceMethod yX5_notes ∈ TG := tg_5 183 (by decide +kernel) rfl
theorem ws_yX5_notes : Cond.selects RX5 yX5_notes yX5_notes ∈ TG := tg_5 184 (by decide +kernel) rfl
theorem wc_yX5_notes : Cond.code yX5_notes cX5_notes 2 (some .int) ∈ TG := tg_5 185 (by decide +kernel) rfl
theorem wt_yL_dear : Cond.static yL_dear ∈ TG := tg_5 187 (by decide +kernel) rfl
theorem wc_yL_dear : Cond.codeWith yL_dear cL_dear 5 (some .int) [(0, 17, 20, 23)] ∈ TG := tg_5 188 (by decide +kernel) rfl
theorem wi_yX5_dear : Cond.instanceMethod yX5_dear ∈ TG := tg_5 190 (by decide +kernel) rfl
theorem ws_yX5_dear : Cond.selects RX5 yX5_dear yX5_dear ∈ TG := tg_5 191 (by decide +kernel) rfl
theorem wc_yX5_dear : Cond.code yX5_dear cX5_dear 5 (some .boolean) ∈ TG := tg_5 192 (by decide +kernel) rfl
theorem wt_yL_orders : Cond.static yL_orders ∈ TG := tg_5 194 (by decide +kernel) rfl
theorem wc_yL_orders : Cond.codeWith yL_orders cL_orders 3 (some .int) [(0, 8, 11, 15)] ∈ TG := tg_5 195 (by decide +kernel) rfl
theorem wi_yX5_orders : Cond.instanceMethod yX5_orders ∈ TG := tg_5 197 (by decide +kernel) rfl
theorem ws_yX5_orders : Cond.selects RX5 yX5_orders yX5_orders ∈ TG := tg_5 198 (by decide +kernel) rfl
theorem wc_yX5_orders : Cond.code yX5_orders cX5_orders 1 (some .int) ∈ TG := tg_5 199 (by decide +kernel) rfl
theorem wi_yX5_checkShortReel : Cond.instanceMethod yX5_checkShortReel ∈ TG := tg_5 202 (by decide +kernel) rfl
theorem wc_yX5_checkShortReel : Cond.code yX5_checkShortReel cX5_checkShortReel 1 none ∈ TG := tg_5 203 (by decide +kernel) rfl
theorem wi_yJx4a65c_isEmpty_aae02 : Cond.instanceMethod yJx4a65c_isEmpty_aae02 ∈ TG := tg_5 205 (by decide +kernel) rfl
theorem ws_yJx4a65c_isEmpty_aae02 : Cond.selects RJx4a65c yJx4a65c_isEmpty_aae02 yJx4a65c_isEmpty_aae02 ∈ TG := tg_5 206 (by decide +kernel) rfl
theorem wc_yJx4a65c_isEmpty_aae02 : Cond.code yJx4a65c_isEmpty_aae02 cJx4a65c_isEmpty_aae02 1 (some .boolean) ∈ TG := tg_5 207 (by decide +kernel) rfl
theorem wi_yX2_layOut : Cond.instanceMethod yX2_layOut ∈ TG := tg_5 210 (by decide +kernel) rfl
theorem ws_yX2_layOut : Cond.selects RX2 yX2_layOut yX2_layOut ∈ TG := tg_5 211 (by decide +kernel) rfl
theorem wc_yX2_layOut : Cond.code yX2_layOut cX2_layOut 4 none ∈ TG := tg_5 212 (by decide +kernel) rfl
theorem wt_yX2_cell : Cond.static yX2_cell ∈ TG := tg_5 216 (by decide +kernel) rfl
theorem wc_yX2_cell : Cond.code yX2_cell cX2_cell 2 (some .int) ∈ TG := tg_5 217 (by decide +kernel) rfl
theorem wi_yX2_goodEndingWith : Cond.instanceMethod yX2_goodEndingWith ∈ TG := tg_5 223 (by decide +kernel) rfl
theorem wc_yX2_goodEndingWith : Cond.code yX2_goodEndingWith cX2_goodEndingWith 6 (some .int) ∈ TG := tg_5 224 (by decide +kernel) rfl
theorem wi_yX2_leastEndingWith : Cond.instanceMethod yX2_leastEndingWith ∈ TG := tg_5 227 (by decide +kernel) rfl
theorem wc_yX2_leastEndingWith : Cond.code yX2_leastEndingWith cX2_leastEndingWith 7 (some .int) ∈ TG := tg_5 228 (by decide +kernel) rfl
theorem wi_yX2_allGood : Cond.instanceMethod yX2_allGood ∈ TG := tg_5 230 (by decide +kernel) rfl
theorem ws_yX2_allGood : Cond.selects RX2 yX2_allGood yX2_allGood ∈ TG := tg_5 231 (by decide +kernel) rfl
theorem wc_yX2_allGood : Cond.code yX2_allGood cX2_allGood 4 (some .int) ∈ TG := tg_5 232 (by decide +kernel) rfl
theorem wt_yL_best : Cond.static yL_best ∈ TG := tg_5 234 (by decide +kernel) rfl
theorem wc_yL_best : Cond.codeWith yL_best cL_best 3 (some .int) [(0, 8, 11, 15)] ∈ TG := tg_5 235 (by decide +kernel) rfl
theorem wi_yX5_best : Cond.instanceMethod yX5_best ∈ TG := tg_5 237 (by decide +kernel) rfl
theorem ws_yX5_best : Cond.selects RX5 yX5_best yX5_best ∈ TG := tg_5 238 (by decide +kernel) rfl
theorem wc_yX5_best : Cond.code yX5_best cX5_best 1 (some .int) ∈ TG := tg_5 239 (by decide +kernel) rfl
theorem wi_yX2_leastWrong : Cond.instanceMethod yX2_leastWrong ∈ TG := tg_6 1 (by decide +kernel) rfl
theorem ws_yX2_leastWrong : Cond.selects RX2 yX2_leastWrong yX2_leastWrong ∈ TG := tg_6 2 (by decide +kernel) rfl
theorem wc_yX2_leastWrong : Cond.code yX2_leastWrong cX2_leastWrong 4 (some .int) ∈ TG := tg_6 3 (by decide +kernel) rfl
theorem wt_yL_brokenShare : Cond.static yL_brokenShare ∈ TG := tg_6 5 (by decide +kernel) rfl
theorem wc_yL_brokenShare : Cond.codeWith yL_brokenShare cL_brokenShare 3 (some .int) [(0, 8, 11, 32)] ∈ TG := tg_6 6 (by decide +kernel) rfl
theorem wi_yX5_brokenShare : Cond.instanceMethod yX5_brokenShare ∈ TG := tg_6 8 (by decide +kernel) rfl
theorem ws_yX5_brokenShare : Cond.selects RX5 yX5_brokenShare yX5_brokenShare ∈ TG := tg_6 9 (by decide +kernel) rfl
theorem wc_yX5_brokenShare : Cond.code yX5_brokenShare cX5_brokenShare 2 (some .float) ∈ TG := tg_6 10 (by decide +kernel) rfl
theorem wt_yL_meanLength : Cond.static yL_meanLength ∈ TG := tg_6 13 (by decide +kernel) rfl
theorem wc_yL_meanLength : Cond.codeWith yL_meanLength cL_meanLength 3 (some .int) [(0, 7, 10, 32)] ∈ TG := tg_6 14 (by decide +kernel) rfl
theorem wi_yX5_meanLength : Cond.instanceMethod yX5_meanLength ∈ TG := tg_6 16 (by decide +kernel) rfl
theorem ws_yX5_meanLength : Cond.selects RX5 yX5_meanLength yX5_meanLength ∈ TG := tg_6 17 (by decide +kernel) rfl
theorem wc_yX5_meanLength : Cond.code yX5_meanLength cX5_meanLength 2 (some .double) ∈ TG := tg_6 18 (by decide +kernel) rfl
theorem wo_RX6 : Cond.instantiable RX6 30 ∈ TG := tg_6 21 (by decide +kernel) rfl
theorem wi_yX6_init : Cond.instanceMethod yX6_init ∈ TG := tg_6 23 (by decide +kernel) rfl
theorem wc_yX6_init : Cond.code yX6_init cX6_init 1 none ∈ TG := tg_6 24 (by decide +kernel) rfl
theorem wi_yX6_thrown : Cond.instanceMethod yX6_thrown ∈ TG := tg_6 118 (by decide +kernel) rfl
theorem ws_yX6_thrown : Cond.selects RX6 yX6_thrown yX6_thrown ∈ TG := tg_6 119 (by decide +kernel) rfl
theorem wc_yX6_thrown : Cond.code yX6_thrown cX6_thrown 1 (some .int) ∈ TG := tg_6 120 (by decide +kernel) rfl
theorem wi_yX6_shot : Cond.instanceMethod yX6_shot ∈ TG := tg_6 122 (by decide +kernel) rfl
theorem ws_yX6_shot : Cond.selects RX6 yX6_shot yX6_shot ∈ TG := tg_6 123 (by decide +kernel) rfl
theorem wc_yX6_shot : Cond.code yX6_shot cX6_shot 8 (some .int) ∈ TG := tg_6 124 (by decide +kernel) rfl
theorem wt_yX6_isCamera : Cond.static yX6_isCamera ∈ TG := tg_6 126 (by decide +kernel) rfl
theorem wc_yX6_isCamera : Cond.code yX6_isCamera cX6_isCamera 2 (some .boolean) ∈ TG := tg_6 127 (by decide +kernel) rfl
theorem wt_yX6_in : Cond.static yX6_in ∈ TG := tg_6 129 (by decide +kernel) rfl
theorem wc_yX6_in : Cond.code yX6_in cX6_in 3 (some .boolean) ∈ TG := tg_6 130 (by decide +kernel) rfl
theorem wi_yX6_fails : Cond.instanceMethod yX6_fails ∈ TG := tg_6 133 (by decide +kernel) rfl
theorem wc_yX6_fails : Cond.code yX6_fails cX6_fails 2 (some .boolean) ∈ TG := tg_6 134 (by decide +kernel) rfl
theorem wi_yX6_freeLetter : Cond.instanceMethod yX6_freeLetter ∈ TG := tg_6 137 (by decide +kernel) rfl
theorem wc_yX6_freeLetter : Cond.code yX6_freeLetter cX6_freeLetter 6 (some .char) ∈ TG := tg_6 138 (by decide +kernel) rfl
theorem wi_yX6_putIn : Cond.instanceMethod yX6_putIn ∈ TG := tg_6 141 (by decide +kernel) rfl
theorem wc_yX6_putIn : Cond.code yX6_putIn cX6_putIn 4 none ∈ TG := tg_6 142 (by decide +kernel) rfl
theorem wi_yX6_drop : Cond.instanceMethod yX6_drop ∈ TG := tg_6 144 (by decide +kernel) rfl
theorem ws_yX6_drop : Cond.selects RX6 yX6_drop yX6_drop ∈ TG := tg_6 145 (by decide +kernel) rfl
theorem wc_yX6_drop : Cond.code yX6_drop cX6_drop 3 (some .int) ∈ TG := tg_6 146 (by decide +kernel) rfl
theorem wi_yX6_isShot : Cond.instanceMethod yX6_isShot ∈ TG := tg_6 149 (by decide +kernel) rfl
theorem wc_yX6_isShot : Cond.code yX6_isShot cX6_isShot 2 (some .boolean) ∈ TG := tg_6 150 (by decide +kernel) rfl
theorem wi_yX6_placeOf : Cond.instanceMethod yX6_placeOf ∈ TG := tg_6 153 (by decide +kernel) rfl
theorem wc_yX6_placeOf : Cond.code yX6_placeOf cX6_placeOf 4 (some .int) ∈ TG := tg_6 154 (by decide +kernel) rfl
theorem wi_yX6_takeOut : Cond.instanceMethod yX6_takeOut ∈ TG := tg_6 157 (by decide +kernel) rfl
theorem wc_yX6_takeOut : Cond.code yX6_takeOut cX6_takeOut 3 none ∈ TG := tg_6 158 (by decide +kernel) rfl
theorem wi_yX6_move : Cond.instanceMethod yX6_move ∈ TG := tg_6 160 (by decide +kernel) rfl
theorem ws_yX6_move : Cond.selects RX6 yX6_move yX6_move ∈ TG := tg_6 161 (by decide +kernel) rfl
theorem wc_yX6_move : Cond.code yX6_move cX6_move 4 (some .int) ∈ TG := tg_6 162 (by decide +kernel) rfl
theorem wi_yX6_shots : Cond.instanceMethod yX6_shots ∈ TG := tg_6 164 (by decide +kernel) rfl
theorem ws_yX6_shots : Cond.selects RX6 yX6_shots yX6_shots ∈ TG := tg_6 165 (by decide +kernel) rfl
theorem wc_yX6_shots : Cond.code yX6_shots cX6_shots 1 (some .int) ∈ TG := tg_6 166 (by decide +kernel) rfl
theorem wi_yX6_at : Cond.instanceMethod yX6_at ∈ TG := tg_6 168 (by decide +kernel) rfl
theorem ws_yX6_at : Cond.selects RX6 yX6_at yX6_at ∈ TG := tg_6 169 (by decide +kernel) rfl
theorem wc_yX6_at : Cond.code yX6_at cX6_at 2 (some .int) ∈ TG := tg_6 170 (by decide +kernel) rfl
theorem wi_yX6_place : Cond.instanceMethod yX6_place ∈ TG := tg_6 172 (by decide +kernel) rfl
theorem ws_yX6_place : Cond.selects RX6 yX6_place yX6_place ∈ TG := tg_6 173 (by decide +kernel) rfl
theorem wc_yX6_place : Cond.code yX6_place cX6_place 2 (some .int) ∈ TG := tg_6 174 (by decide +kernel) rfl
theorem wi_yX6_camera : Cond.instanceMethod yX6_camera ∈ TG := tg_6 176 (by decide +kernel) rfl
theorem ws_yX6_camera : Cond.selects RX6 yX6_camera yX6_camera ∈ TG := tg_6 177 (by decide +kernel) rfl
theorem wc_yX6_camera : Cond.code yX6_camera cX6_camera 4 (some .int) ∈ TG := tg_6 178 (by decide +kernel) rfl
theorem wi_yX6_change : Cond.instanceMethod yX6_change ∈ TG := tg_6 181 (by decide +kernel) rfl
theorem wc_yX6_change : Cond.code yX6_change cX6_change 3 none ∈ TG := tg_6 182 (by decide +kernel) rfl
theorem wi_yX6_length : Cond.instanceMethod yX6_length ∈ TG := tg_6 184 (by decide +kernel) rfl
theorem ws_yX6_length : Cond.selects RX6 yX6_length yX6_length ∈ TG := tg_6 185 (by decide +kernel) rfl
theorem wc_yX6_length : Cond.code yX6_length cX6_length 4 (some .int) ∈ TG := tg_6 186 (by decide +kernel) rfl
theorem wi_yX6_stand : Cond.instanceMethod yX6_stand ∈ TG := tg_6 188 (by decide +kernel) rfl
theorem ws_yX6_stand : Cond.selects RX6 yX6_stand yX6_stand ∈ TG := tg_6 189 (by decide +kernel) rfl
theorem wc_yX6_stand : Cond.code yX6_stand cX6_stand 8 (some .int) ∈ TG := tg_6 190 (by decide +kernel) rfl
theorem wt_yX6_isThird : Cond.static yX6_isThird ∈ TG := tg_6 192 (by decide +kernel) rfl
theorem wc_yX6_isThird : Cond.code yX6_isThird cX6_isThird 1 (some .boolean) ∈ TG := tg_6 193 (by decide +kernel) rfl
theorem wi_yX6_countIn : Cond.instanceMethod yX6_countIn ∈ TG := tg_6 196 (by decide +kernel) rfl
theorem wc_yX6_countIn : Cond.code yX6_countIn cX6_countIn 4 (some .int) ∈ TG := tg_6 197 (by decide +kernel) rfl
theorem wi_yX6_enters : Cond.instanceMethod yX6_enters ∈ TG := tg_6 199 (by decide +kernel) rfl
theorem ws_yX6_enters : Cond.selects RX6 yX6_enters yX6_enters ∈ TG := tg_6 200 (by decide +kernel) rfl
theorem wc_yX6_enters : Cond.code yX6_enters cX6_enters 5 (some .char) ∈ TG := tg_6 201 (by decide +kernel) rfl
theorem wi_yX6_noEdge : Cond.instanceMethod yX6_noEdge ∈ TG := tg_6 204 (by decide +kernel) rfl
theorem wc_yX6_noEdge : Cond.code yX6_noEdge cX6_noEdge 4 (some .int) ∈ TG := tg_6 205 (by decide +kernel) rfl
theorem wt_yX6_isEdge : Cond.static yX6_isEdge ∈ TG := tg_6 207 (by decide +kernel) rfl
theorem wc_yX6_isEdge : Cond.code yX6_isEdge cX6_isEdge 1 (some .boolean) ∈ TG := tg_6 208 (by decide +kernel) rfl
theorem wi_yX6_leaves : Cond.instanceMethod yX6_leaves ∈ TG := tg_6 210 (by decide +kernel) rfl
theorem ws_yX6_leaves : Cond.selects RX6 yX6_leaves yX6_leaves ∈ TG := tg_6 211 (by decide +kernel) rfl
theorem wc_yX6_leaves : Cond.code yX6_leaves cX6_leaves 5 (some .char) ∈ TG := tg_6 212 (by decide +kernel) rfl
theorem wi_yX6_version : Cond.instanceMethod yX6_version ∈ TG := tg_6 214 (by decide +kernel) rfl
theorem ws_yX6_version : Cond.selects RX6 yX6_version yX6_version ∈ TG := tg_6 215 (by decide +kernel) rfl
theorem wc_yX6_version : Cond.code yX6_version cX6_version 2 (some .int) ∈ TG := tg_6 216 (by decide +kernel) rfl
theorem wi_yX6_time : Cond.instanceMethod yX6_time ∈ TG := tg_6 218 (by decide +kernel) rfl
theorem ws_yX6_time : Cond.selects RX6 yX6_time yX6_time ∈ TG := tg_6 219 (by decide +kernel) rfl
theorem wc_yX6_time : Cond.code yX6_time cX6_time 2 (some .int) ∈ TG := tg_6 220 (by decide +kernel) rfl
theorem wi_yX6_begins : Cond.instanceMethod yX6_begins ∈ TG := tg_6 223 (by decide +kernel) rfl
theorem wc_yX6_begins : Cond.code yX6_begins cX6_begins 4 (some .int) ∈ TG := tg_6 224 (by decide +kernel) rfl
theorem wi_yX6_seen : Cond.instanceMethod yX6_seen ∈ TG := tg_6 226 (by decide +kernel) rfl
theorem ws_yX6_seen : Cond.selects RX6 yX6_seen yX6_seen ∈ TG := tg_6 227 (by decide +kernel) rfl
theorem wc_yX6_seen : Cond.code yX6_seen cX6_seen 4 (some .int) ∈ TG := tg_6 228 (by decide +kernel) rfl
theorem wi_yX6_ended : Cond.instanceMethod yX6_ended ∈ TG := tg_6 230 (by decide +kernel) rfl
theorem ws_yX6_ended : Cond.selects RX6 yX6_ended yX6_ended ∈ TG := tg_6 231 (by decide +kernel) rfl
theorem wc_yX6_ended : Cond.code yX6_ended cX6_ended 4 (some .int) ∈ TG := tg_6 232 (by decide +kernel) rfl
theorem wi_yX6_lock : Cond.instanceMethod yX6_lock ∈ TG := tg_6 234 (by decide +kernel) rfl
theorem ws_yX6_lock : Cond.selects RX6 yX6_lock yX6_lock ∈ TG := tg_6 235 (by decide +kernel) rfl
theorem wc_yX6_lock : Cond.code yX6_lock cX6_lock 3 (some .boolean) ∈ TG := tg_6 236 (by decide +kernel) rfl
theorem wi_yX6_number : Cond.instanceMethod yX6_number ∈ TG := tg_6 238 (by decide +kernel) rfl
theorem ws_yX6_number : Cond.selects RX6 yX6_number yX6_number ∈ TG := tg_6 239 (by decide +kernel) rfl
theorem wc_yX6_number : Cond.code yX6_number cX6_number 2 (some .int) ∈ TG := tg_7 0 (by decide +kernel) rfl
theorem wi_yX6_hasName : Cond.instanceMethod yX6_hasName ∈ TG := tg_7 3 (by decide +kernel) rfl
theorem wc_yX6_hasName : Cond.code yX6_hasName cX6_hasName 2 (some .boolean) ∈ TG := tg_7 4 (by decide +kernel) rfl
theorem wi_yX6_numberOf : Cond.instanceMethod yX6_numberOf ∈ TG := tg_7 7 (by decide +kernel) rfl
theorem wc_yX6_numberOf : Cond.code yX6_numberOf cX6_numberOf 2 (some .int) ∈ TG := tg_7 8 (by decide +kernel) rfl
theorem wi_yX6_letter : Cond.instanceMethod yX6_letter ∈ TG := tg_7 10 (by decide +kernel) rfl
theorem ws_yX6_letter : Cond.selects RX6 yX6_letter yX6_letter ∈ TG := tg_7 11 (by decide +kernel) rfl
theorem wc_yX6_letter : Cond.code yX6_letter cX6_letter 2 (some .char) ∈ TG := tg_7 12 (by decide +kernel) rfl
theorem wi_yX6_named : Cond.instanceMethod yX6_named ∈ TG := tg_7 14 (by decide +kernel) rfl
theorem ws_yX6_named : Cond.selects RX6 yX6_named yX6_named ∈ TG := tg_7 15 (by decide +kernel) rfl
theorem wc_yX6_named : Cond.code yX6_named cX6_named 5 (some .int) ∈ TG := tg_7 16 (by decide +kernel) rfl
theorem wi_yX6_wrong : Cond.instanceMethod yX6_wrong ∈ TG := tg_7 18 (by decide +kernel) rfl
theorem ws_yX6_wrong : Cond.selects RX6 yX6_wrong yX6_wrong ∈ TG := tg_7 19 (by decide +kernel) rfl
theorem wc_yX6_wrong : Cond.code yX6_wrong cX6_wrong 2 (some .char) ∈ TG := tg_7 20 (by decide +kernel) rfl
theorem wi_yX6_wrongWith : Cond.instanceMethod yX6_wrongWith ∈ TG := tg_7 23 (by decide +kernel) rfl
theorem wc_yX6_wrongWith : Cond.code yX6_wrongWith cX6_wrongWith 4 (some .char) ∈ TG := tg_7 24 (by decide +kernel) rfl
theorem wi_yX6_areSame : Cond.instanceMethod yX6_areSame ∈ TG := tg_7 27 (by decide +kernel) rfl
theorem wc_yX6_areSame : Cond.code yX6_areSame cX6_areSame 5 (some .boolean) ∈ TG := tg_7 28 (by decide +kernel) rfl
theorem wi_yX6_isIn : Cond.instanceMethod yX6_isIn ∈ TG := tg_7 31 (by decide +kernel) rfl
theorem wc_yX6_isIn : Cond.code yX6_isIn cX6_isIn 3 (some .boolean) ∈ TG := tg_7 32 (by decide +kernel) rfl
theorem wi_yX6_areBadGazes : Cond.instanceMethod yX6_areBadGazes ∈ TG := tg_7 35 (by decide +kernel) rfl
theorem wc_yX6_areBadGazes : Cond.code yX6_areBadGazes cX6_areBadGazes 7 (some .boolean) ∈ TG := tg_7 36 (by decide +kernel) rfl
theorem wi_yX6_alone : Cond.instanceMethod yX6_alone ∈ TG := tg_7 39 (by decide +kernel) rfl
theorem wc_yX6_alone : Cond.code yX6_alone cX6_alone 4 (some .int) ∈ TG := tg_7 40 (by decide +kernel) rfl
theorem wt_yX6_other : Cond.static yX6_other ∈ TG := tg_7 42 (by decide +kernel) rfl
theorem wc_yX6_other : Cond.code yX6_other cX6_other 1 (some .char) ∈ TG := tg_7 43 (by decide +kernel) rfl
theorem wi_yX6_isBadEdge : Cond.instanceMethod yX6_isBadEdge ∈ TG := tg_7 46 (by decide +kernel) rfl
theorem wc_yX6_isBadEdge : Cond.code yX6_isBadEdge cX6_isBadEdge 5 (some .boolean) ∈ TG := tg_7 47 (by decide +kernel) rfl
theorem wi_yX6_isJump : Cond.instanceMethod yX6_isJump ∈ TG := tg_7 50 (by decide +kernel) rfl
theorem wc_yX6_isJump : Cond.code yX6_isJump cX6_isJump 8 (some .boolean) ∈ TG := tg_7 51 (by decide +kernel) rfl
theorem wi_yX6_excuse : Cond.instanceMethod yX6_excuse ∈ TG := tg_7 53 (by decide +kernel) rfl
theorem ws_yX6_excuse : Cond.selects RX6 yX6_excuse yX6_excuse ∈ TG := tg_7 54 (by decide +kernel) rfl
theorem wc_yX6_excuse : Cond.code yX6_excuse cX6_excuse 5 (some .char) ∈ TG := tg_7 55 (by decide +kernel) rfl
theorem wt_yX6_isFault : Cond.static yX6_isFault ∈ TG := tg_7 57 (by decide +kernel) rfl
theorem wc_yX6_isFault : Cond.code yX6_isFault cX6_isFault 1 (some .boolean) ∈ TG := tg_7 58 (by decide +kernel) rfl
theorem wi_yX6_excuseAt : Cond.instanceMethod yX6_excuseAt ∈ TG := tg_7 61 (by decide +kernel) rfl
theorem wc_yX6_excuseAt : Cond.code yX6_excuseAt cX6_excuseAt 5 (some .char) ∈ TG := tg_7 62 (by decide +kernel) rfl
theorem wi_yX6_isBroken : Cond.instanceMethod yX6_isBroken ∈ TG := tg_7 64 (by decide +kernel) rfl
theorem ws_yX6_isBroken : Cond.selects RX6 yX6_isBroken yX6_isBroken ∈ TG := tg_7 65 (by decide +kernel) rfl
theorem wc_yX6_isBroken : Cond.code yX6_isBroken cX6_isBroken 2 (some .boolean) ∈ TG := tg_7 66 (by decide +kernel) rfl
theorem wi_yX6_isBrokenAt : Cond.instanceMethod yX6_isBrokenAt ∈ TG := tg_7 69 (by decide +kernel) rfl
theorem wc_yX6_isBrokenAt : Cond.code yX6_isBrokenAt cX6_isBrokenAt 3 (some .boolean) ∈ TG := tg_7 70 (by decide +kernel) rfl
theorem wi_yX6_broken : Cond.instanceMethod yX6_broken ∈ TG := tg_7 72 (by decide +kernel) rfl
theorem ws_yX6_broken : Cond.selects RX6 yX6_broken yX6_broken ∈ TG := tg_7 73 (by decide +kernel) rfl
theorem wc_yX6_broken : Cond.code yX6_broken cX6_broken 1 (some .int) ∈ TG := tg_7 74 (by decide +kernel) rfl
theorem wi_yX6_countBroken : Cond.instanceMethod yX6_countBroken ∈ TG := tg_7 77 (by decide +kernel) rfl
theorem wc_yX6_countBroken : Cond.code yX6_countBroken cX6_countBroken 3 (some .int) ∈ TG := tg_7 78 (by decide +kernel) rfl
theorem wi_yX6_hand : Cond.instanceMethod yX6_hand ∈ TG := tg_7 80 (by decide +kernel) rfl
theorem ws_yX6_hand : Cond.selects RX6 yX6_hand yX6_hand ∈ TG := tg_7 81 (by decide +kernel) rfl
theorem wc_yX6_hand : Cond.code yX6_hand cX6_hand 5 (some .int) ∈ TG := tg_7 82 (by decide +kernel) rfl
theorem wi_yX6_bring : Cond.instanceMethod yX6_bring ∈ TG := tg_7 84 (by decide +kernel) rfl
theorem ws_yX6_bring : Cond.selects RX6 yX6_bring yX6_bring ∈ TG := tg_7 85 (by decide +kernel) rfl
theorem wc_yX6_bring : Cond.code yX6_bring cX6_bring 4 (some .boolean) ∈ TG := tg_7 86 (by decide +kernel) rfl
theorem wi_yX6_with : Cond.instanceMethod yX6_with ∈ TG := tg_7 88 (by decide +kernel) rfl
theorem ws_yX6_with : Cond.selects RX6 yX6_with yX6_with ∈ TG := tg_7 89 (by decide +kernel) rfl
theorem wc_yX6_with : Cond.code yX6_with cX6_with 2 (some .int) ∈ TG := tg_7 90 (by decide +kernel) rfl
theorem wi_yX6_conflicts : Cond.instanceMethod yX6_conflicts ∈ TG := tg_7 92 (by decide +kernel) rfl
theorem ws_yX6_conflicts : Cond.selects RX6 yX6_conflicts yX6_conflicts ∈ TG := tg_7 93 (by decide +kernel) rfl
theorem wc_yX6_conflicts : Cond.code yX6_conflicts cX6_conflicts 1 (some .int) ∈ TG := tg_7 94 (by decide +kernel) rfl
theorem wi_yX6_note : Cond.instanceMethod yX6_note ∈ TG := tg_7 96 (by decide +kernel) rfl
theorem ws_yX6_note : Cond.selects RX6 yX6_note yX6_note ∈ TG := tg_7 97 (by decide +kernel) rfl
theorem wc_yX6_note : Cond.code yX6_note cX6_note 2 (some .int) ∈ TG := tg_7 98 (by decide +kernel) rfl
theorem wi_yX6_noteIs : Cond.instanceMethod yX6_noteIs ∈ TG := tg_7 100 (by decide +kernel) rfl
theorem ws_yX6_noteIs : Cond.selects RX6 yX6_noteIs yX6_noteIs ∈ TG := tg_7 101 (by decide +kernel) rfl
theorem wc_yX6_noteIs : Cond.code yX6_noteIs cX6_noteIs 2 (some .char) ∈ TG := tg_7 102 (by decide +kernel) rfl
theorem wi_yX6_isNote : Cond.instanceMethod yX6_isNote ∈ TG := tg_7 105 (by decide +kernel) rfl
theorem wc_yX6_isNote : Cond.code yX6_isNote cX6_isNote 2 (some .boolean) ∈ TG := tg_7 106 (by decide +kernel) rfl
theorem wi_yX6_isNow : Cond.instanceMethod yX6_isNow ∈ TG := tg_7 109 (by decide +kernel) rfl
theorem wc_yX6_isNow : Cond.code yX6_isNow cX6_isNow 2 (some .char) ∈ TG := tg_7 110 (by decide +kernel) rfl
theorem wi_yX6_close : Cond.instanceMethod yX6_close ∈ TG := tg_7 112 (by decide +kernel) rfl
theorem ws_yX6_close : Cond.selects RX6 yX6_close yX6_close ∈ TG := tg_7 113 (by decide +kernel) rfl
theorem wc_yX6_close : Cond.code yX6_close cX6_close 3 (some .boolean) ∈ TG := tg_7 114 (by decide +kernel) rfl
theorem wi_yX6_renew : Cond.instanceMethod yX6_renew ∈ TG := tg_7 116 (by decide +kernel) rfl
theorem ws_yX6_renew : Cond.selects RX6 yX6_renew yX6_renew ∈ TG := tg_7 117 (by decide +kernel) rfl
theorem wc_yX6_renew : Cond.code yX6_renew cX6_renew 2 (some .int) ∈ TG := tg_7 118 (by decide +kernel) rfl
theorem wi_yX6_notes : Cond.instanceMethod yX6_notes ∈ TG := tg_7 120 (by decide +kernel) rfl
theorem ws_yX6_notes : Cond.selects RX6 yX6_notes yX6_notes ∈ TG := tg_7 121 (by decide +kernel) rfl
theorem wc_yX6_notes : Cond.code yX6_notes cX6_notes 4 (some .int) ∈ TG := tg_7 122 (by decide +kernel) rfl
theorem wi_yX6_dear : Cond.instanceMethod yX6_dear ∈ TG := tg_7 124 (by decide +kernel) rfl
theorem ws_yX6_dear : Cond.selects RX6 yX6_dear yX6_dear ∈ TG := tg_7 125 (by decide +kernel) rfl
theorem wc_yX6_dear : Cond.code yX6_dear cX6_dear 4 (some .boolean) ∈ TG := tg_7 126 (by decide +kernel) rfl
theorem wi_yX6_setups : Cond.instanceMethod yX6_setups ∈ TG := tg_7 128 (by decide +kernel) rfl
theorem ws_yX6_setups : Cond.selects RX6 yX6_setups yX6_setups ∈ TG := tg_7 129 (by decide +kernel) rfl
theorem wc_yX6_setups : Cond.code yX6_setups cX6_setups 1 (some .int) ∈ TG := tg_7 130 (by decide +kernel) rfl
theorem wi_yX6_countSetups : Cond.instanceMethod yX6_countSetups ∈ TG := tg_7 133 (by decide +kernel) rfl
theorem wc_yX6_countSetups : Cond.code yX6_countSetups cX6_countSetups 8 (some .int) ∈ TG := tg_7 134 (by decide +kernel) rfl
theorem wi_yX6_first : Cond.instanceMethod yX6_first ∈ TG := tg_7 136 (by decide +kernel) rfl
theorem ws_yX6_first : Cond.selects RX6 yX6_first yX6_first ∈ TG := tg_7 137 (by decide +kernel) rfl
theorem wc_yX6_first : Cond.code yX6_first cX6_first 1 (some .int) ∈ TG := tg_7 138 (by decide +kernel) rfl
theorem wi_yX6_days : Cond.instanceMethod yX6_days ∈ TG := tg_7 140 (by decide +kernel) rfl
theorem ws_yX6_days : Cond.selects RX6 yX6_days yX6_days ∈ TG := tg_7 141 (by decide +kernel) rfl
theorem wc_yX6_days : Cond.code yX6_days cX6_days 3 (some .int) ∈ TG := tg_7 142 (by decide +kernel) rfl
theorem wi_yX6_orders : Cond.instanceMethod yX6_orders ∈ TG := tg_7 144 (by decide +kernel) rfl
theorem ws_yX6_orders : Cond.selects RX6 yX6_orders yX6_orders ∈ TG := tg_7 145 (by decide +kernel) rfl
theorem wc_yX6_orders : Cond.code yX6_orders cX6_orders 1 (some .int) ∈ TG := tg_7 146 (by decide +kernel) rfl
theorem wi_yX6_goThrough : Cond.instanceMethod yX6_goThrough ∈ TG := tg_7 149 (by decide +kernel) rfl
theorem wc_yX6_goThrough : Cond.code yX6_goThrough cX6_goThrough 7 (some .int) ∈ TG := tg_7 150 (by decide +kernel) rfl
theorem wi_yX6_countWrong : Cond.instanceMethod yX6_countWrong ∈ TG := tg_7 153 (by decide +kernel) rfl
theorem wc_yX6_countWrong : Cond.code yX6_countWrong cX6_countWrong 3 (some .int) ∈ TG := tg_7 154 (by decide +kernel) rfl
theorem wi_yX6_best : Cond.instanceMethod yX6_best ∈ TG := tg_7 156 (by decide +kernel) rfl
theorem ws_yX6_best : Cond.selects RX6 yX6_best yX6_best ∈ TG := tg_7 157 (by decide +kernel) rfl
theorem wc_yX6_best : Cond.code yX6_best cX6_best 1 (some .int) ∈ TG := tg_7 158 (by decide +kernel) rfl
theorem wi_yX6_checksum : Cond.instanceMethod yX6_checksum ∈ TG := tg_7 160 (by decide +kernel) rfl
theorem ws_yX6_checksum : Cond.selects RX6 yX6_checksum yX6_checksum ∈ TG := tg_7 161 (by decide +kernel) rfl
theorem wc_yX6_checksum : Cond.code yX6_checksum cX6_checksum 4 (some .long) ∈ TG := tg_7 162 (by decide +kernel) rfl
theorem wq_RX6_218 : Cond.constantLong RX6 218 (7) ∈ TG := tg_7 163 (by decide +kernel) rfl
theorem wq_RX6_220 : Cond.constantLong RX6 220 (31) ∈ TG := tg_7 164 (by decide +kernel) rfl
theorem wi_yX6_brokenShare : Cond.instanceMethod yX6_brokenShare ∈ TG := tg_7 166 (by decide +kernel) rfl
theorem ws_yX6_brokenShare : Cond.selects RX6 yX6_brokenShare yX6_brokenShare ∈ TG := tg_7 167 (by decide +kernel) rfl
theorem wc_yX6_brokenShare : Cond.code yX6_brokenShare cX6_brokenShare 1 (some .float) ∈ TG := tg_7 168 (by decide +kernel) rfl
theorem wi_yX6_meanLength : Cond.instanceMethod yX6_meanLength ∈ TG := tg_7 170 (by decide +kernel) rfl
theorem ws_yX6_meanLength : Cond.selects RX6 yX6_meanLength yX6_meanLength ∈ TG := tg_7 171 (by decide +kernel) rfl
theorem wc_yX6_meanLength : Cond.code yX6_meanLength cX6_meanLength 1 (some .double) ∈ TG := tg_7 172 (by decide +kernel) rfl
theorem wi_yX6_isSound : Cond.instanceMethod yX6_isSound ∈ TG := tg_7 174 (by decide +kernel) rfl
theorem ws_yX6_isSound : Cond.selects RX6 yX6_isSound yX6_isSound ∈ TG := tg_7 175 (by decide +kernel) rfl
theorem wc_yX6_isSound : Cond.code yX6_isSound cX6_isSound 1 (some .boolean) ∈ TG := tg_7 176 (by decide +kernel) rfl
theorem wa_long : Cond.arrayClass .long ∈ TG := tg_7 177 (by decide +kernel) rfl
theorem wa_double : Cond.arrayClass .double ∈ TG := tg_7 178 (by decide +kernel) rfl
theorem ws_yX5_brokenCuts : Cond.selects RX5 yX5_brokenCuts yX5_brokenCuts ∈ TG := tg_0 0 (by decide +kernel) rfl
theorem ws_yX5_setupCount : Cond.selects RX5 yX5_setupCount yX5_setupCount ∈ TG := tg_0 1 (by decide +kernel) rfl
theorem ws_yX5_areNamesUnlike : Cond.selects RX5 yX5_areNamesUnlike yX5_areNamesUnlike ∈ TG := tg_0 2 (by decide +kernel) rfl
theorem ws_yX5_nameNumberOf : Cond.selects RX5 yX5_nameNumberOf yX5_nameNumberOf ∈ TG := tg_0 3 (by decide +kernel) rfl
theorem ws_yX5_placeOf : Cond.selects RX5 yX5_placeOf yX5_placeOf ∈ TG := tg_0 4 (by decide +kernel) rfl
theorem ws_yX5_isEachSeenAtItsBegin : Cond.selects RX5 yX5_isEachSeenAtItsBegin yX5_isEachSeenAtItsBegin ∈ TG := tg_0 5 (by decide +kernel) rfl
theorem ws_yX5_beginOf : Cond.selects RX5 yX5_beginOf yX5_beginOf ∈ TG := tg_0 6 (by decide +kernel) rfl
theorem ws_yX5_indexSeen : Cond.selects RX5 yX5_indexSeen yX5_indexSeen ∈ TG := tg_0 7 (by decide +kernel) rfl
theorem ws_yX5_doNotesSumUp : Cond.selects RX5 yX5_doNotesSumUp yX5_doNotesSumUp ∈ TG := tg_0 8 (by decide +kernel) rfl
theorem ws_yX5_notesOf : Cond.selects RX5 yX5_notesOf yX5_notesOf ∈ TG := tg_0 9 (by decide +kernel) rfl
theorem ws_yX5_areEdgesOfMembers : Cond.selects RX5 yX5_areEdgesOfMembers yX5_areEdgesOfMembers ∈ TG := tg_0 10 (by decide +kernel) rfl
theorem ws_yX5_numberBehind : Cond.selects RX5 yX5_numberBehind yX5_numberBehind ∈ TG := tg_0 12 (by decide +kernel) rfl
theorem ws_yX5_freeLetter : Cond.selects RX5 yX5_freeLetter yX5_freeLetter ∈ TG := tg_0 13 (by decide +kernel) rfl
theorem ws_yX5_isNameTaken : Cond.selects RX5 yX5_isNameTaken yX5_isNameTaken ∈ TG := tg_0 14 (by decide +kernel) rfl
theorem ws_yJx4a65c_add_72be8 : Cond.selects RJx4a65c yJx4a65c_add_72be8 yJx4a65c_add_72be8 ∈ TG := tg_0 15 (by decide +kernel) rfl
theorem ws_yJx4a65c_grow_d5877 : Cond.selects RJx4a65c yJx4a65c_grow_d5877 yJx4a65c_grow_d5877 ∈ TG := tg_0 16 (by decide +kernel) rfl
theorem ws_yJx4a65c_grow_92f84 : Cond.selects RJx4a65c yJx4a65c_grow_92f84 yJx4a65c_grow_92f84 ∈ TG := tg_0 17 (by decide +kernel) rfl
theorem ws_yJx4a65c_rangeCheckForAdd_d00df : Cond.selects RJx4a65c yJx4a65c_rangeCheckForAdd_d00df yJx4a65c_rangeCheckForAdd_d00df ∈ TG := tg_0 18 (by decide +kernel) rfl
theorem ws_yX5_madeShot : Cond.selects RX5 yX5_madeShot yX5_madeShot ∈ TG := tg_0 20 (by decide +kernel) rfl
theorem ws_yX5_placeInReel : Cond.selects RX5 yX5_placeInReel yX5_placeInReel ∈ TG := tg_0 21 (by decide +kernel) rfl
theorem ws_yJx4a65c_fastRemove_b59b0 : Cond.selects RJx4a65c yJx4a65c_fastRemove_b59b0 yJx4a65c_fastRemove_b59b0 ∈ TG := tg_0 22 (by decide +kernel) rfl
theorem ws_yX5_foundPlace : Cond.selects RX5 yX5_foundPlace yX5_foundPlace ∈ TG := tg_0 23 (by decide +kernel) rfl
theorem ws_yX5_checkInReel : Cond.selects RX5 yX5_checkInReel yX5_checkInReel ∈ TG := tg_0 24 (by decide +kernel) rfl
theorem ws_yX5_shotForEdge : Cond.selects RX5 yX5_shotForEdge yX5_shotForEdge ∈ TG := tg_0 25 (by decide +kernel) rfl
theorem ws_yX5_foundNumber : Cond.selects RX5 yX5_foundNumber yX5_foundNumber ∈ TG := tg_0 26 (by decide +kernel) rfl
theorem ws_yX5_checkCut : Cond.selects RX5 yX5_checkCut yX5_checkCut ∈ TG := tg_0 27 (by decide +kernel) rfl
theorem ws_yX5_boardsWith : Cond.selects RX5 yX5_boardsWith yX5_boardsWith ∈ TG := tg_0 28 (by decide +kernel) rfl
theorem ws_yX5_madeNote : Cond.selects RX5 yX5_madeNote yX5_madeNote ∈ TG := tg_0 29 (by decide +kernel) rfl
theorem ws_yX5_checkShortReel : Cond.selects RX5 yX5_checkShortReel yX5_checkShortReel ∈ TG := tg_0 30 (by decide +kernel) rfl
theorem ws_yX2_goodEndingWith : Cond.selects RX2 yX2_goodEndingWith yX2_goodEndingWith ∈ TG := tg_0 31 (by decide +kernel) rfl
theorem ws_yX2_leastEndingWith : Cond.selects RX2 yX2_leastEndingWith yX2_leastEndingWith ∈ TG := tg_0 32 (by decide +kernel) rfl
theorem ws_yX6_fails : Cond.selects RX6 yX6_fails yX6_fails ∈ TG := tg_0 33 (by decide +kernel) rfl
theorem ws_yX6_freeLetter : Cond.selects RX6 yX6_freeLetter yX6_freeLetter ∈ TG := tg_0 34 (by decide +kernel) rfl
theorem ws_yX6_putIn : Cond.selects RX6 yX6_putIn yX6_putIn ∈ TG := tg_0 35 (by decide +kernel) rfl
theorem ws_yX6_isShot : Cond.selects RX6 yX6_isShot yX6_isShot ∈ TG := tg_0 36 (by decide +kernel) rfl
theorem ws_yX6_placeOf : Cond.selects RX6 yX6_placeOf yX6_placeOf ∈ TG := tg_0 37 (by decide +kernel) rfl
theorem ws_yX6_takeOut : Cond.selects RX6 yX6_takeOut yX6_takeOut ∈ TG := tg_0 38 (by decide +kernel) rfl
theorem ws_yX6_change : Cond.selects RX6 yX6_change yX6_change ∈ TG := tg_0 39 (by decide +kernel) rfl
theorem ws_yX6_countIn : Cond.selects RX6 yX6_countIn yX6_countIn ∈ TG := tg_0 40 (by decide +kernel) rfl
theorem ws_yX6_noEdge : Cond.selects RX6 yX6_noEdge yX6_noEdge ∈ TG := tg_0 41 (by decide +kernel) rfl
theorem ws_yX6_begins : Cond.selects RX6 yX6_begins yX6_begins ∈ TG := tg_0 42 (by decide +kernel) rfl
theorem ws_yX6_hasName : Cond.selects RX6 yX6_hasName yX6_hasName ∈ TG := tg_0 43 (by decide +kernel) rfl
theorem ws_yX6_numberOf : Cond.selects RX6 yX6_numberOf yX6_numberOf ∈ TG := tg_0 44 (by decide +kernel) rfl
theorem ws_yX6_wrongWith : Cond.selects RX6 yX6_wrongWith yX6_wrongWith ∈ TG := tg_0 45 (by decide +kernel) rfl
theorem ws_yX6_areSame : Cond.selects RX6 yX6_areSame yX6_areSame ∈ TG := tg_0 46 (by decide +kernel) rfl
theorem ws_yX6_isIn : Cond.selects RX6 yX6_isIn yX6_isIn ∈ TG := tg_0 47 (by decide +kernel) rfl
theorem ws_yX6_areBadGazes : Cond.selects RX6 yX6_areBadGazes yX6_areBadGazes ∈ TG := tg_0 48 (by decide +kernel) rfl
theorem ws_yX6_alone : Cond.selects RX6 yX6_alone yX6_alone ∈ TG := tg_0 49 (by decide +kernel) rfl
theorem ws_yX6_isBadEdge : Cond.selects RX6 yX6_isBadEdge yX6_isBadEdge ∈ TG := tg_0 50 (by decide +kernel) rfl
theorem ws_yX6_isJump : Cond.selects RX6 yX6_isJump yX6_isJump ∈ TG := tg_0 51 (by decide +kernel) rfl
theorem ws_yX6_excuseAt : Cond.selects RX6 yX6_excuseAt yX6_excuseAt ∈ TG := tg_0 52 (by decide +kernel) rfl
theorem ws_yX6_isBrokenAt : Cond.selects RX6 yX6_isBrokenAt yX6_isBrokenAt ∈ TG := tg_0 53 (by decide +kernel) rfl
theorem ws_yX6_countBroken : Cond.selects RX6 yX6_countBroken yX6_countBroken ∈ TG := tg_0 54 (by decide +kernel) rfl
theorem ws_yX6_isNote : Cond.selects RX6 yX6_isNote yX6_isNote ∈ TG := tg_0 55 (by decide +kernel) rfl
theorem ws_yX6_isNow : Cond.selects RX6 yX6_isNow yX6_isNow ∈ TG := tg_0 56 (by decide +kernel) rfl
theorem ws_yX6_countSetups : Cond.selects RX6 yX6_countSetups yX6_countSetups ∈ TG := tg_0 57 (by decide +kernel) rfl
theorem ws_yX6_goThrough : Cond.selects RX6 yX6_goThrough yX6_goThrough ∈ TG := tg_0 58 (by decide +kernel) rfl
theorem ws_yX6_countWrong : Cond.selects RX6 yX6_countWrong yX6_countWrong ∈ TG := tg_0 59 (by decide +kernel) rfl
theorem inX0 : ∀ w ∈ wsX00, w ∈ TG := tg_list [486, 488, 490, 492] (by decide +kernel) (by decide +kernel)
theorem inX1 : ∀ w ∈ wsX10, w ∈ TG := tg_list [1164, 1166, 1168] (by decide +kernel) (by decide +kernel)
theorem inX2 : ∀ w ∈ wsX20, w ∈ TG := tg_list [136, 138, 140, 142] (by decide +kernel) (by decide +kernel)
theorem inX3 : ∀ w ∈ wsX30, w ∈ TG := tg_list [507, 509, 511, 513] (by decide +kernel) (by decide +kernel)
theorem inX4 : ∀ w ∈ wsX40, w ∈ TG := tg_list [541, 543, 545, 547, 549, 551, 553, 555, 557, 559, 561, 563] (by decide +kernel) (by decide +kernel)
theorem inX5 : ∀ w ∈ wsX50, w ∈ TG := tg_list [153, 155, 157, 159, 161, 163] (by decide +kernel) (by decide +kernel)
theorem inX6 : ∀ w ∈ wsX60, w ∈ TG := tg_list [1316, 1318, 1320, 1322, 1324, 1326, 1328, 1330, 1332, 1334, 1336, 1338, 1340, 1342, 1344, 1346, 1348, 1350, 1352, 1354, 1356, 1358, 1360, 1362, 1364, 1366, 1368, 1370, 1372, 1374] (by decide +kernel) (by decide +kernel)
theorem inJx4a65c : ∀ w ∈ wsJx4a65c0, w ∈ TG := tg_list [123, 119, 121] (by decide +kernel) (by decide +kernel)
end
section
theorem dX0_init_0 : decode cX0_init 0 = .ok (.aload_n 0, 1) := by decide +kernel
theorem dX0_init_1 : decode cX0_init 1 = .ok (.invokespecial 3, 3) := by decide +kernel
theorem dX0_init_4 : decode cX0_init 4 = .ok (.aload_n 0, 1) := by decide +kernel
theorem dX0_init_5 : decode cX0_init 5 = .ok (.iconst 4, 1) := by decide +kernel
theorem dX0_init_6 : decode cX0_init 6 = .ok (.newarray .char, 2) := by decide +kernel
theorem dX0_init_8 : decode cX0_init 8 = .ok (.putfield 9, 3) := by decide +kernel
theorem dX0_init_11 : decode cX0_init 11 = .ok (.aload_n 0, 1) := by decide +kernel
theorem dX0_init_12 : decode cX0_init 12 = .ok (.iconst 4, 1) := by decide +kernel
theorem dX0_init_13 : decode cX0_init 13 = .ok (.newarray .char, 2) := by decide +kernel
theorem dX0_init_15 : decode cX0_init 15 = .ok (.putfield 15, 3) := by decide +kernel
theorem dX0_init_18 : decode cX0_init 18 = .ok (.aload_n 0, 1) := by decide +kernel
theorem dX0_init_19 : decode cX0_init 19 = .ok (.iconst 4, 1) := by decide +kernel
theorem dX0_init_20 : decode cX0_init 20 = .ok (.newarray .char, 2) := by decide +kernel
theorem dX0_init_22 : decode cX0_init 22 = .ok (.putfield 18, 3) := by decide +kernel
theorem dX0_init_25 : decode cX0_init 25 = .ok (.aload_n 0, 1) := by decide +kernel
theorem dX0_init_26 : decode cX0_init 26 = .ok (.iconst 4, 1) := by decide +kernel
theorem dX0_init_27 : decode cX0_init 27 = .ok (.newarray .char, 2) := by decide +kernel
theorem dX0_init_29 : decode cX0_init 29 = .ok (.putfield 21, 3) := by decide +kernel
theorem dX0_init_32 : decode cX0_init 32 = .ok (.iconst 0, 1) := by decide +kernel
theorem dX0_init_33 : decode cX0_init 33 = .ok (.istore_n 1, 1) := by decide +kernel
theorem dX0_init_34 : decode cX0_init 34 = .ok (.iload_n 1, 1) := by decide +kernel
theorem dX0_init_35 : decode cX0_init 35 = .ok (.iconst 4, 1) := by decide +kernel
theorem dX0_init_36 : decode cX0_init 36 = .ok (.if_icmp .ge 41, 3) := by decide +kernel
theorem dX0_init_39 : decode cX0_init 39 = .ok (.aload_n 0, 1) := by decide +kernel
theorem dX0_init_40 : decode cX0_init 40 = .ok (.getfield 9, 3) := by decide +kernel
theorem dX0_init_43 : decode cX0_init 43 = .ok (.iload_n 1, 1) := by decide +kernel
theorem dX0_init_44 : decode cX0_init 44 = .ok (.bipush 45, 2) := by decide +kernel
theorem dX0_init_46 : decode cX0_init 46 = .ok (.castore, 1) := by decide +kernel
theorem dX0_init_47 : decode cX0_init 47 = .ok (.aload_n 0, 1) := by decide +kernel
theorem dX0_init_48 : decode cX0_init 48 = .ok (.getfield 15, 3) := by decide +kernel
theorem dX0_init_51 : decode cX0_init 51 = .ok (.iload_n 1, 1) := by decide +kernel
theorem dX0_init_52 : decode cX0_init 52 = .ok (.bipush 45, 2) := by decide +kernel
theorem dX0_init_54 : decode cX0_init 54 = .ok (.castore, 1) := by decide +kernel
theorem dX0_init_55 : decode cX0_init 55 = .ok (.aload_n 0, 1) := by decide +kernel
theorem dX0_init_56 : decode cX0_init 56 = .ok (.getfield 18, 3) := by decide +kernel
theorem dX0_init_59 : decode cX0_init 59 = .ok (.iload_n 1, 1) := by decide +kernel
theorem dX0_init_60 : decode cX0_init 60 = .ok (.bipush 45, 2) := by decide +kernel
theorem dX0_init_62 : decode cX0_init 62 = .ok (.castore, 1) := by decide +kernel
theorem dX0_init_63 : decode cX0_init 63 = .ok (.aload_n 0, 1) := by decide +kernel
theorem dX0_init_64 : decode cX0_init 64 = .ok (.getfield 21, 3) := by decide +kernel
theorem dX0_init_67 : decode cX0_init 67 = .ok (.iload_n 1, 1) := by decide +kernel
theorem dX0_init_68 : decode cX0_init 68 = .ok (.bipush 45, 2) := by decide +kernel
theorem dX0_init_70 : decode cX0_init 70 = .ok (.castore, 1) := by decide +kernel
theorem dX0_init_71 : decode cX0_init 71 = .ok (.iinc 1 1, 3) := by decide +kernel
theorem dX0_init_74 : decode cX0_init 74 = .ok (.goto (-40), 3) := by decide +kernel
theorem dX0_init_77 : decode cX0_init 77 = .ok (.return_, 1) := by decide +kernel
theorem dX0_has_0 : decode cX0_has 0 = .ok (.aload_n 0, 1) := by decide +kernel
theorem dX0_has_1 : decode cX0_has 1 = .ok (.getfield 9, 3) := by decide +kernel
theorem dX0_has_4 : decode cX0_has 4 = .ok (.iload_n 1, 1) := by decide +kernel
theorem dX0_has_5 : decode cX0_has 5 = .ok (.caload, 1) := by decide +kernel
theorem dX0_has_6 : decode cX0_has 6 = .ok (.bipush 45, 2) := by decide +kernel
theorem dX0_has_8 : decode cX0_has 8 = .ok (.if_icmp .eq 7, 3) := by decide +kernel
theorem dX0_has_11 : decode cX0_has 11 = .ok (.iconst 1, 1) := by decide +kernel
theorem dX0_has_12 : decode cX0_has 12 = .ok (.goto 4, 3) := by decide +kernel
theorem dX0_has_15 : decode cX0_has 15 = .ok (.iconst 0, 1) := by decide +kernel
theorem dX0_has_16 : decode cX0_has 16 = .ok (.ireturn, 1) := by decide +kernel
theorem dX0_members_0 : decode cX0_members 0 = .ok (.iconst 0, 1) := by decide +kernel
theorem dX0_members_1 : decode cX0_members 1 = .ok (.istore_n 1, 1) := by decide +kernel
theorem dX0_members_2 : decode cX0_members 2 = .ok (.iconst 0, 1) := by decide +kernel
theorem dX0_members_3 : decode cX0_members 3 = .ok (.istore_n 2, 1) := by decide +kernel
theorem dX0_members_4 : decode cX0_members 4 = .ok (.iload_n 2, 1) := by decide +kernel
theorem dX0_members_5 : decode cX0_members 5 = .ok (.iconst 4, 1) := by decide +kernel
theorem dX0_members_6 : decode cX0_members 6 = .ok (.if_icmp .ge 23, 3) := by decide +kernel
theorem dX0_members_9 : decode cX0_members 9 = .ok (.aload_n 0, 1) := by decide +kernel
theorem dX0_members_10 : decode cX0_members 10 = .ok (.iload_n 2, 1) := by decide +kernel
theorem dX0_members_11 : decode cX0_members 11 = .ok (.invokevirtual 24, 3) := by decide +kernel
theorem dX0_members_14 : decode cX0_members 14 = .ok (.ifCond .eq 9, 3) := by decide +kernel
theorem dX0_members_17 : decode cX0_members 17 = .ok (.iload_n 1, 1) := by decide +kernel
theorem dX0_members_18 : decode cX0_members 18 = .ok (.iconst 1, 1) := by decide +kernel
theorem dX0_members_19 : decode cX0_members 19 = .ok (.iload_n 2, 1) := by decide +kernel
theorem dX0_members_20 : decode cX0_members 20 = .ok (.ishl, 1) := by decide +kernel
theorem dX0_members_21 : decode cX0_members 21 = .ok (.ior, 1) := by decide +kernel
theorem dX0_members_22 : decode cX0_members 22 = .ok (.istore_n 1, 1) := by decide +kernel
theorem dX0_members_23 : decode cX0_members 23 = .ok (.iinc 2 1, 3) := by decide +kernel
theorem dX0_members_26 : decode cX0_members 26 = .ok (.goto (-22), 3) := by decide +kernel
theorem dX0_members_29 : decode cX0_members 29 = .ok (.iload_n 1, 1) := by decide +kernel
theorem dX0_members_30 : decode cX0_members 30 = .ok (.ireturn, 1) := by decide +kernel
theorem dX0_onlyMember_0 : decode cX0_onlyMember 0 = .ok (.iconst (-1), 1) := by decide +kernel
theorem dX0_onlyMember_1 : decode cX0_onlyMember 1 = .ok (.istore_n 1, 1) := by decide +kernel
theorem dX0_onlyMember_2 : decode cX0_onlyMember 2 = .ok (.iconst 0, 1) := by decide +kernel
theorem dX0_onlyMember_3 : decode cX0_onlyMember 3 = .ok (.istore_n 2, 1) := by decide +kernel
theorem dX0_onlyMember_4 : decode cX0_onlyMember 4 = .ok (.iload_n 2, 1) := by decide +kernel
theorem dX0_onlyMember_5 : decode cX0_onlyMember 5 = .ok (.iconst 4, 1) := by decide +kernel
theorem dX0_onlyMember_6 : decode cX0_onlyMember 6 = .ok (.if_icmp .ge 26, 3) := by decide +kernel
theorem dX0_onlyMember_9 : decode cX0_onlyMember 9 = .ok (.aload_n 0, 1) := by decide +kernel
theorem dX0_onlyMember_10 : decode cX0_onlyMember 10 = .ok (.iload_n 2, 1) := by decide +kernel
theorem dX0_onlyMember_11 : decode cX0_onlyMember 11 = .ok (.invokevirtual 24, 3) := by decide +kernel
theorem dX0_onlyMember_14 : decode cX0_onlyMember 14 = .ok (.ifCond .eq 12, 3) := by decide +kernel
theorem dX0_onlyMember_17 : decode cX0_onlyMember 17 = .ok (.iload_n 1, 1) := by decide +kernel
theorem dX0_onlyMember_18 : decode cX0_onlyMember 18 = .ok (.iconst (-1), 1) := by decide +kernel
theorem dX0_onlyMember_19 : decode cX0_onlyMember 19 = .ok (.if_icmp .eq 5, 3) := by decide +kernel
theorem dX0_onlyMember_22 : decode cX0_onlyMember 22 = .ok (.iconst (-1), 1) := by decide +kernel
theorem dX0_onlyMember_23 : decode cX0_onlyMember 23 = .ok (.ireturn, 1) := by decide +kernel
theorem dX0_onlyMember_24 : decode cX0_onlyMember 24 = .ok (.iload_n 2, 1) := by decide +kernel
theorem dX0_onlyMember_25 : decode cX0_onlyMember 25 = .ok (.istore_n 1, 1) := by decide +kernel
theorem dX0_onlyMember_26 : decode cX0_onlyMember 26 = .ok (.iinc 2 1, 3) := by decide +kernel
theorem dX0_onlyMember_29 : decode cX0_onlyMember 29 = .ok (.goto (-25), 3) := by decide +kernel
theorem dX0_onlyMember_32 : decode cX0_onlyMember 32 = .ok (.iload_n 1, 1) := by decide +kernel
theorem dX0_onlyMember_33 : decode cX0_onlyMember 33 = .ok (.ireturn, 1) := by decide +kernel
theorem dX0_areEdgesOfThoseIn_0 : decode cX0_areEdgesOfThoseIn 0 = .ok (.iconst 0, 1) := by decide +kernel
theorem dX0_areEdgesOfThoseIn_1 : decode cX0_areEdgesOfThoseIn 1 = .ok (.istore_n 1, 1) := by decide +kernel
theorem dX0_areEdgesOfThoseIn_2 : decode cX0_areEdgesOfThoseIn 2 = .ok (.iload_n 1, 1) := by decide +kernel
theorem dX0_areEdgesOfThoseIn_3 : decode cX0_areEdgesOfThoseIn 3 = .ok (.iconst 4, 1) := by decide +kernel
theorem dX0_areEdgesOfThoseIn_4 : decode cX0_areEdgesOfThoseIn 4 = .ok (.if_icmp .ge 41, 3) := by decide +kernel
theorem dX0_areEdgesOfThoseIn_7 : decode cX0_areEdgesOfThoseIn 7 = .ok (.aload_n 0, 1) := by decide +kernel
theorem dX0_areEdgesOfThoseIn_8 : decode cX0_areEdgesOfThoseIn 8 = .ok (.iload_n 1, 1) := by decide +kernel
theorem dX0_areEdgesOfThoseIn_9 : decode cX0_areEdgesOfThoseIn 9 = .ok (.invokevirtual 24, 3) := by decide +kernel
theorem dX0_areEdgesOfThoseIn_12 : decode cX0_areEdgesOfThoseIn 12 = .ok (.ifCond .ne 27, 3) := by decide +kernel
theorem dX0_areEdgesOfThoseIn_15 : decode cX0_areEdgesOfThoseIn 15 = .ok (.aload_n 0, 1) := by decide +kernel
theorem dX0_areEdgesOfThoseIn_16 : decode cX0_areEdgesOfThoseIn 16 = .ok (.getfield 18, 3) := by decide +kernel
theorem dX0_areEdgesOfThoseIn_19 : decode cX0_areEdgesOfThoseIn 19 = .ok (.iload_n 1, 1) := by decide +kernel
theorem dX0_areEdgesOfThoseIn_20 : decode cX0_areEdgesOfThoseIn 20 = .ok (.caload, 1) := by decide +kernel
theorem dX0_areEdgesOfThoseIn_21 : decode cX0_areEdgesOfThoseIn 21 = .ok (.bipush 45, 2) := by decide +kernel
theorem dX0_areEdgesOfThoseIn_23 : decode cX0_areEdgesOfThoseIn 23 = .ok (.if_icmp .ne 14, 3) := by decide +kernel
theorem dX0_areEdgesOfThoseIn_26 : decode cX0_areEdgesOfThoseIn 26 = .ok (.aload_n 0, 1) := by decide +kernel
theorem dX0_areEdgesOfThoseIn_27 : decode cX0_areEdgesOfThoseIn 27 = .ok (.getfield 21, 3) := by decide +kernel
theorem dX0_areEdgesOfThoseIn_30 : decode cX0_areEdgesOfThoseIn 30 = .ok (.iload_n 1, 1) := by decide +kernel
theorem dX0_areEdgesOfThoseIn_31 : decode cX0_areEdgesOfThoseIn 31 = .ok (.caload, 1) := by decide +kernel
theorem dX0_areEdgesOfThoseIn_32 : decode cX0_areEdgesOfThoseIn 32 = .ok (.bipush 45, 2) := by decide +kernel
theorem dX0_areEdgesOfThoseIn_34 : decode cX0_areEdgesOfThoseIn 34 = .ok (.if_icmp .eq 5, 3) := by decide +kernel
theorem dX0_areEdgesOfThoseIn_37 : decode cX0_areEdgesOfThoseIn 37 = .ok (.iconst 0, 1) := by decide +kernel
theorem dX0_areEdgesOfThoseIn_38 : decode cX0_areEdgesOfThoseIn 38 = .ok (.ireturn, 1) := by decide +kernel
theorem dX0_areEdgesOfThoseIn_39 : decode cX0_areEdgesOfThoseIn 39 = .ok (.iinc 1 1, 3) := by decide +kernel
theorem dX0_areEdgesOfThoseIn_42 : decode cX0_areEdgesOfThoseIn 42 = .ok (.goto (-40), 3) := by decide +kernel
theorem dX0_areEdgesOfThoseIn_45 : decode cX0_areEdgesOfThoseIn 45 = .ok (.iconst 1, 1) := by decide +kernel
theorem dX0_areEdgesOfThoseIn_46 : decode cX0_areEdgesOfThoseIn 46 = .ok (.ireturn, 1) := by decide +kernel
theorem dX1_init_0 : decode cX1_init 0 = .ok (.aload_n 0, 1) := by decide +kernel
theorem dX1_init_1 : decode cX1_init 1 = .ok (.invokespecial 1, 3) := by decide +kernel
theorem dX1_init_4 : decode cX1_init 4 = .ok (.aload_n 0, 1) := by decide +kernel
theorem dX1_init_5 : decode cX1_init 5 = .ok (.bipush 111, 2) := by decide +kernel
theorem dX1_init_7 : decode cX1_init 7 = .ok (.putfield 7, 3) := by decide +kernel
theorem dX1_init_10 : decode cX1_init 10 = .ok (.aload_n 0, 1) := by decide +kernel
theorem dX1_init_11 : decode cX1_init 11 = .ok (.aload_n 1, 1) := by decide +kernel
theorem dX1_init_12 : decode cX1_init 12 = .ok (.putfield 13, 3) := by decide +kernel
theorem dX1_init_15 : decode cX1_init 15 = .ok (.aload_n 0, 1) := by decide +kernel
theorem dX1_init_16 : decode cX1_init 16 = .ok (.aload_n 1, 1) := by decide +kernel
theorem dX1_init_17 : decode cX1_init 17 = .ok (.getfield 17, 3) := by decide +kernel
theorem dX1_init_20 : decode cX1_init 20 = .ok (.putfield 23, 3) := by decide +kernel
theorem dX1_init_23 : decode cX1_init 23 = .ok (.return_, 1) := by decide +kernel
theorem dX1_kind_0 : decode cX1_kind 0 = .ok (.aload_n 0, 1) := by decide +kernel
theorem dX1_kind_1 : decode cX1_kind 1 = .ok (.getfield 7, 3) := by decide +kernel
theorem dX1_kind_4 : decode cX1_kind 4 = .ok (.bipush 111, 2) := by decide +kernel
theorem dX1_kind_6 : decode cX1_kind 6 = .ok (.if_icmp .ne 22, 3) := by decide +kernel
theorem dX1_kind_9 : decode cX1_kind 9 = .ok (.aload_n 0, 1) := by decide +kernel
theorem dX1_kind_10 : decode cX1_kind 10 = .ok (.getfield 23, 3) := by decide +kernel
theorem dX1_kind_13 : decode cX1_kind 13 = .ok (.aload_n 0, 1) := by decide +kernel
theorem dX1_kind_14 : decode cX1_kind 14 = .ok (.getfield 13, 3) := by decide +kernel
theorem dX1_kind_17 : decode cX1_kind 17 = .ok (.getfield 17, 3) := by decide +kernel
theorem dX1_kind_20 : decode cX1_kind 20 = .ok (.if_icmp .eq 8, 3) := by decide +kernel
theorem dX1_kind_23 : decode cX1_kind 23 = .ok (.bipush 115, 2) := by decide +kernel
theorem dX1_kind_25 : decode cX1_kind 25 = .ok (.goto 7, 3) := by decide +kernel
theorem dX1_kind_28 : decode cX1_kind 28 = .ok (.aload_n 0, 1) := by decide +kernel
theorem dX1_kind_29 : decode cX1_kind 29 = .ok (.getfield 7, 3) := by decide +kernel
theorem dX1_kind_32 : decode cX1_kind 32 = .ok (.ireturn, 1) := by decide +kernel
theorem dX2_init_0 : decode cX2_init 0 = .ok (.aload_n 0, 1) := by decide +kernel
theorem dX2_init_1 : decode cX2_init 1 = .ok (.invokespecial 3, 3) := by decide +kernel
theorem dX2_init_4 : decode cX2_init 4 = .ok (.aload_n 0, 1) := by decide +kernel
theorem dX2_init_5 : decode cX2_init 5 = .ok (.bipush 36, 2) := by decide +kernel
theorem dX2_init_7 : decode cX2_init 7 = .ok (.newarray .boolean, 2) := by decide +kernel
theorem dX2_init_9 : decode cX2_init 9 = .ok (.putfield 9, 3) := by decide +kernel
theorem dX2_init_12 : decode cX2_init 12 = .ok (.aload_n 0, 1) := by decide +kernel
theorem dX2_init_13 : decode cX2_init 13 = .ok (.sipush 384, 3) := by decide +kernel
theorem dX2_init_16 : decode cX2_init 16 = .ok (.newarray .int, 2) := by decide +kernel
theorem dX2_init_18 : decode cX2_init 18 = .ok (.putfield 15, 3) := by decide +kernel
theorem dX2_init_21 : decode cX2_init 21 = .ok (.aload_n 0, 1) := by decide +kernel
theorem dX2_init_22 : decode cX2_init 22 = .ok (.sipush 384, 3) := by decide +kernel
theorem dX2_init_25 : decode cX2_init 25 = .ok (.newarray .int, 2) := by decide +kernel
theorem dX2_init_27 : decode cX2_init 27 = .ok (.putfield 19, 3) := by decide +kernel
theorem dX2_init_30 : decode cX2_init 30 = .ok (.return_, 1) := by decide +kernel
theorem dX2_layOut_0 : decode cX2_layOut 0 = .ok (.aload_n 0, 1) := by decide +kernel
theorem dX2_layOut_1 : decode cX2_layOut 1 = .ok (.aload_n 1, 1) := by decide +kernel
theorem dX2_layOut_2 : decode cX2_layOut 2 = .ok (.invokevirtual 22, 3) := by decide +kernel
theorem dX2_layOut_5 : decode cX2_layOut 5 = .ok (.bipush 6, 2) := by decide +kernel
theorem dX2_layOut_7 : decode cX2_layOut 7 = .ok (.invokestatic 28, 3) := by decide +kernel
theorem dX2_layOut_10 : decode cX2_layOut 10 = .ok (.putfield 34, 3) := by decide +kernel
theorem dX2_layOut_13 : decode cX2_layOut 13 = .ok (.iconst 0, 1) := by decide +kernel
theorem dX2_layOut_14 : decode cX2_layOut 14 = .ok (.istore_n 2, 1) := by decide +kernel
theorem dX2_layOut_15 : decode cX2_layOut 15 = .ok (.iload_n 2, 1) := by decide +kernel
theorem dX2_layOut_16 : decode cX2_layOut 16 = .ok (.aload_n 0, 1) := by decide +kernel
theorem dX2_layOut_17 : decode cX2_layOut 17 = .ok (.getfield 34, 3) := by decide +kernel
theorem dX2_layOut_20 : decode cX2_layOut 20 = .ok (.if_icmp .ge 64, 3) := by decide +kernel
theorem dX2_layOut_23 : decode cX2_layOut 23 = .ok (.iconst 0, 1) := by decide +kernel
theorem dX2_layOut_24 : decode cX2_layOut 24 = .ok (.istore_n 3, 1) := by decide +kernel
theorem dX2_layOut_25 : decode cX2_layOut 25 = .ok (.iload_n 3, 1) := by decide +kernel
theorem dX2_layOut_26 : decode cX2_layOut 26 = .ok (.aload_n 0, 1) := by decide +kernel
theorem dX2_layOut_27 : decode cX2_layOut 27 = .ok (.getfield 34, 3) := by decide +kernel
theorem dX2_layOut_30 : decode cX2_layOut 30 = .ok (.if_icmp .ge 48, 3) := by decide +kernel
theorem dX2_layOut_33 : decode cX2_layOut 33 = .ok (.aload_n 0, 1) := by decide +kernel
theorem dX2_layOut_34 : decode cX2_layOut 34 = .ok (.getfield 9, 3) := by decide +kernel
theorem dX2_layOut_37 : decode cX2_layOut 37 = .ok (.iload_n 2, 1) := by decide +kernel
theorem dX2_layOut_38 : decode cX2_layOut 38 = .ok (.iload_n 3, 1) := by decide +kernel
theorem dX2_layOut_39 : decode cX2_layOut 39 = .ok (.invokestatic 38, 3) := by decide +kernel
theorem dX2_layOut_42 : decode cX2_layOut 42 = .ok (.aload_n 1, 1) := by decide +kernel
theorem dX2_layOut_43 : decode cX2_layOut 43 = .ok (.iload_n 2, 1) := by decide +kernel
theorem dX2_layOut_44 : decode cX2_layOut 44 = .ok (.invokevirtual 41, 3) := by decide +kernel
theorem dX2_layOut_47 : decode cX2_layOut 47 = .ok (.checkcast 45, 3) := by decide +kernel
theorem dX2_layOut_50 : decode cX2_layOut 50 = .ok (.aload_n 1, 1) := by decide +kernel
theorem dX2_layOut_51 : decode cX2_layOut 51 = .ok (.iload_n 3, 1) := by decide +kernel
theorem dX2_layOut_52 : decode cX2_layOut 52 = .ok (.invokevirtual 41, 3) := by decide +kernel
theorem dX2_layOut_55 : decode cX2_layOut 55 = .ok (.checkcast 45, 3) := by decide +kernel
theorem dX2_layOut_58 : decode cX2_layOut 58 = .ok (.invokestatic 47, 3) := by decide +kernel
theorem dX2_layOut_61 : decode cX2_layOut 61 = .ok (.bipush 45, 2) := by decide +kernel
theorem dX2_layOut_63 : decode cX2_layOut 63 = .ok (.if_icmp .eq 7, 3) := by decide +kernel
theorem dX2_layOut_66 : decode cX2_layOut 66 = .ok (.iconst 1, 1) := by decide +kernel
theorem dX2_layOut_67 : decode cX2_layOut 67 = .ok (.goto 4, 3) := by decide +kernel
theorem dX2_layOut_70 : decode cX2_layOut 70 = .ok (.iconst 0, 1) := by decide +kernel
theorem dX2_layOut_71 : decode cX2_layOut 71 = .ok (.bastore, 1) := by decide +kernel
theorem dX2_layOut_72 : decode cX2_layOut 72 = .ok (.iinc 3 1, 3) := by decide +kernel
theorem dX2_layOut_75 : decode cX2_layOut 75 = .ok (.goto (-50), 3) := by decide +kernel
theorem dX2_layOut_78 : decode cX2_layOut 78 = .ok (.iinc 2 1, 3) := by decide +kernel
theorem dX2_layOut_81 : decode cX2_layOut 81 = .ok (.goto (-66), 3) := by decide +kernel
theorem dX2_layOut_84 : decode cX2_layOut 84 = .ok (.iconst 1, 1) := by decide +kernel
theorem dX2_layOut_85 : decode cX2_layOut 85 = .ok (.istore_n 2, 1) := by decide +kernel
theorem dX2_layOut_86 : decode cX2_layOut 86 = .ok (.iload_n 2, 1) := by decide +kernel
theorem dX2_layOut_87 : decode cX2_layOut 87 = .ok (.iconst 1, 1) := by decide +kernel
theorem dX2_layOut_88 : decode cX2_layOut 88 = .ok (.aload_n 0, 1) := by decide +kernel
theorem dX2_layOut_89 : decode cX2_layOut 89 = .ok (.getfield 34, 3) := by decide +kernel
theorem dX2_layOut_92 : decode cX2_layOut 92 = .ok (.ishl, 1) := by decide +kernel
theorem dX2_layOut_93 : decode cX2_layOut 93 = .ok (.if_icmp .ge 57, 3) := by decide +kernel
theorem dX2_layOut_96 : decode cX2_layOut 96 = .ok (.iconst 0, 1) := by decide +kernel
theorem dX2_layOut_97 : decode cX2_layOut 97 = .ok (.istore_n 3, 1) := by decide +kernel
theorem dX2_layOut_98 : decode cX2_layOut 98 = .ok (.iload_n 3, 1) := by decide +kernel
theorem dX2_layOut_99 : decode cX2_layOut 99 = .ok (.aload_n 0, 1) := by decide +kernel
theorem dX2_layOut_100 : decode cX2_layOut 100 = .ok (.getfield 34, 3) := by decide +kernel
theorem dX2_layOut_103 : decode cX2_layOut 103 = .ok (.if_icmp .ge 41, 3) := by decide +kernel
theorem dX2_layOut_106 : decode cX2_layOut 106 = .ok (.aload_n 0, 1) := by decide +kernel
theorem dX2_layOut_107 : decode cX2_layOut 107 = .ok (.getfield 15, 3) := by decide +kernel
theorem dX2_layOut_110 : decode cX2_layOut 110 = .ok (.iload_n 2, 1) := by decide +kernel
theorem dX2_layOut_111 : decode cX2_layOut 111 = .ok (.iload_n 3, 1) := by decide +kernel
theorem dX2_layOut_112 : decode cX2_layOut 112 = .ok (.invokestatic 38, 3) := by decide +kernel
theorem dX2_layOut_115 : decode cX2_layOut 115 = .ok (.aload_n 0, 1) := by decide +kernel
theorem dX2_layOut_116 : decode cX2_layOut 116 = .ok (.iload_n 3, 1) := by decide +kernel
theorem dX2_layOut_117 : decode cX2_layOut 117 = .ok (.iload_n 2, 1) := by decide +kernel
theorem dX2_layOut_118 : decode cX2_layOut 118 = .ok (.invokevirtual 51, 3) := by decide +kernel
theorem dX2_layOut_121 : decode cX2_layOut 121 = .ok (.iastore, 1) := by decide +kernel
theorem dX2_layOut_122 : decode cX2_layOut 122 = .ok (.aload_n 0, 1) := by decide +kernel
theorem dX2_layOut_123 : decode cX2_layOut 123 = .ok (.getfield 19, 3) := by decide +kernel
theorem dX2_layOut_126 : decode cX2_layOut 126 = .ok (.iload_n 2, 1) := by decide +kernel
theorem dX2_layOut_127 : decode cX2_layOut 127 = .ok (.iload_n 3, 1) := by decide +kernel
theorem dX2_layOut_128 : decode cX2_layOut 128 = .ok (.invokestatic 38, 3) := by decide +kernel
theorem dX2_layOut_131 : decode cX2_layOut 131 = .ok (.aload_n 0, 1) := by decide +kernel
theorem dX2_layOut_132 : decode cX2_layOut 132 = .ok (.iload_n 3, 1) := by decide +kernel
theorem dX2_layOut_133 : decode cX2_layOut 133 = .ok (.iload_n 2, 1) := by decide +kernel
theorem dX2_layOut_134 : decode cX2_layOut 134 = .ok (.invokevirtual 54, 3) := by decide +kernel
theorem dX2_layOut_137 : decode cX2_layOut 137 = .ok (.iastore, 1) := by decide +kernel
theorem dX2_layOut_138 : decode cX2_layOut 138 = .ok (.iinc 3 1, 3) := by decide +kernel
theorem dX2_layOut_141 : decode cX2_layOut 141 = .ok (.goto (-43), 3) := by decide +kernel
theorem dX2_layOut_144 : decode cX2_layOut 144 = .ok (.iinc 2 1, 3) := by decide +kernel
theorem dX2_layOut_147 : decode cX2_layOut 147 = .ok (.goto (-61), 3) := by decide +kernel
theorem dX2_layOut_150 : decode cX2_layOut 150 = .ok (.return_, 1) := by decide +kernel
theorem dX2_allGood_0 : decode cX2_allGood 0 = .ok (.iconst 1, 1) := by decide +kernel
theorem dX2_allGood_1 : decode cX2_allGood 1 = .ok (.aload_n 0, 1) := by decide +kernel
theorem dX2_allGood_2 : decode cX2_allGood 2 = .ok (.getfield 34, 3) := by decide +kernel
theorem dX2_allGood_5 : decode cX2_allGood 5 = .ok (.ishl, 1) := by decide +kernel
theorem dX2_allGood_6 : decode cX2_allGood 6 = .ok (.iconst 1, 1) := by decide +kernel
theorem dX2_allGood_7 : decode cX2_allGood 7 = .ok (.isub, 1) := by decide +kernel
theorem dX2_allGood_8 : decode cX2_allGood 8 = .ok (.istore_n 1, 1) := by decide +kernel
theorem dX2_allGood_9 : decode cX2_allGood 9 = .ok (.iconst 0, 1) := by decide +kernel
theorem dX2_allGood_10 : decode cX2_allGood 10 = .ok (.istore_n 2, 1) := by decide +kernel
theorem dX2_allGood_11 : decode cX2_allGood 11 = .ok (.iconst 0, 1) := by decide +kernel
theorem dX2_allGood_12 : decode cX2_allGood 12 = .ok (.istore_n 3, 1) := by decide +kernel
theorem dX2_allGood_13 : decode cX2_allGood 13 = .ok (.iload_n 3, 1) := by decide +kernel
theorem dX2_allGood_14 : decode cX2_allGood 14 = .ok (.aload_n 0, 1) := by decide +kernel
theorem dX2_allGood_15 : decode cX2_allGood 15 = .ok (.getfield 34, 3) := by decide +kernel
theorem dX2_allGood_18 : decode cX2_allGood 18 = .ok (.if_icmp .ge 22, 3) := by decide +kernel
theorem dX2_allGood_21 : decode cX2_allGood 21 = .ok (.iload_n 2, 1) := by decide +kernel
theorem dX2_allGood_22 : decode cX2_allGood 22 = .ok (.aload_n 0, 1) := by decide +kernel
theorem dX2_allGood_23 : decode cX2_allGood 23 = .ok (.getfield 15, 3) := by decide +kernel
theorem dX2_allGood_26 : decode cX2_allGood 26 = .ok (.iload_n 1, 1) := by decide +kernel
theorem dX2_allGood_27 : decode cX2_allGood 27 = .ok (.iload_n 3, 1) := by decide +kernel
theorem dX2_allGood_28 : decode cX2_allGood 28 = .ok (.invokestatic 38, 3) := by decide +kernel
theorem dX2_allGood_31 : decode cX2_allGood 31 = .ok (.iaload, 1) := by decide +kernel
theorem dX2_allGood_32 : decode cX2_allGood 32 = .ok (.iadd, 1) := by decide +kernel
theorem dX2_allGood_33 : decode cX2_allGood 33 = .ok (.istore_n 2, 1) := by decide +kernel
theorem dX2_allGood_34 : decode cX2_allGood 34 = .ok (.iinc 3 1, 3) := by decide +kernel
theorem dX2_allGood_37 : decode cX2_allGood 37 = .ok (.goto (-24), 3) := by decide +kernel
theorem dX2_allGood_40 : decode cX2_allGood 40 = .ok (.iload_n 2, 1) := by decide +kernel
theorem dX2_allGood_41 : decode cX2_allGood 41 = .ok (.ireturn, 1) := by decide +kernel
theorem dX2_leastWrong_0 : decode cX2_leastWrong 0 = .ok (.iconst 1, 1) := by decide +kernel
theorem dX2_leastWrong_1 : decode cX2_leastWrong 1 = .ok (.aload_n 0, 1) := by decide +kernel
theorem dX2_leastWrong_2 : decode cX2_leastWrong 2 = .ok (.getfield 34, 3) := by decide +kernel
theorem dX2_leastWrong_5 : decode cX2_leastWrong 5 = .ok (.ishl, 1) := by decide +kernel
theorem dX2_leastWrong_6 : decode cX2_leastWrong 6 = .ok (.iconst 1, 1) := by decide +kernel
theorem dX2_leastWrong_7 : decode cX2_leastWrong 7 = .ok (.isub, 1) := by decide +kernel
theorem dX2_leastWrong_8 : decode cX2_leastWrong 8 = .ok (.istore_n 1, 1) := by decide +kernel
theorem dX2_leastWrong_9 : decode cX2_leastWrong 9 = .ok (.sipush 1000, 3) := by decide +kernel
theorem dX2_leastWrong_12 : decode cX2_leastWrong 12 = .ok (.istore_n 2, 1) := by decide +kernel
theorem dX2_leastWrong_13 : decode cX2_leastWrong 13 = .ok (.iconst 0, 1) := by decide +kernel
theorem dX2_leastWrong_14 : decode cX2_leastWrong 14 = .ok (.istore_n 3, 1) := by decide +kernel
theorem dX2_leastWrong_15 : decode cX2_leastWrong 15 = .ok (.iload_n 3, 1) := by decide +kernel
theorem dX2_leastWrong_16 : decode cX2_leastWrong 16 = .ok (.aload_n 0, 1) := by decide +kernel
theorem dX2_leastWrong_17 : decode cX2_leastWrong 17 = .ok (.getfield 34, 3) := by decide +kernel
theorem dX2_leastWrong_20 : decode cX2_leastWrong 20 = .ok (.if_icmp .ge 24, 3) := by decide +kernel
theorem dX2_leastWrong_23 : decode cX2_leastWrong 23 = .ok (.iload_n 2, 1) := by decide +kernel
theorem dX2_leastWrong_24 : decode cX2_leastWrong 24 = .ok (.aload_n 0, 1) := by decide +kernel
theorem dX2_leastWrong_25 : decode cX2_leastWrong 25 = .ok (.getfield 19, 3) := by decide +kernel
theorem dX2_leastWrong_28 : decode cX2_leastWrong 28 = .ok (.iload_n 1, 1) := by decide +kernel
theorem dX2_leastWrong_29 : decode cX2_leastWrong 29 = .ok (.iload_n 3, 1) := by decide +kernel
theorem dX2_leastWrong_30 : decode cX2_leastWrong 30 = .ok (.invokestatic 38, 3) := by decide +kernel
theorem dX2_leastWrong_33 : decode cX2_leastWrong 33 = .ok (.iaload, 1) := by decide +kernel
theorem dX2_leastWrong_34 : decode cX2_leastWrong 34 = .ok (.invokestatic 28, 3) := by decide +kernel
theorem dX2_leastWrong_37 : decode cX2_leastWrong 37 = .ok (.istore_n 2, 1) := by decide +kernel
theorem dX2_leastWrong_38 : decode cX2_leastWrong 38 = .ok (.iinc 3 1, 3) := by decide +kernel
theorem dX2_leastWrong_41 : decode cX2_leastWrong 41 = .ok (.goto (-26), 3) := by decide +kernel
theorem dX2_leastWrong_44 : decode cX2_leastWrong 44 = .ok (.iload_n 2, 1) := by decide +kernel
theorem dX2_leastWrong_45 : decode cX2_leastWrong 45 = .ok (.ireturn, 1) := by decide +kernel
theorem dX2_goodEndingWith_0 : decode cX2_goodEndingWith 0 = .ok (.iload_n 2, 1) := by decide +kernel
theorem dX2_goodEndingWith_1 : decode cX2_goodEndingWith 1 = .ok (.iconst 1, 1) := by decide +kernel
theorem dX2_goodEndingWith_2 : decode cX2_goodEndingWith 2 = .ok (.iload_n 1, 1) := by decide +kernel
theorem dX2_goodEndingWith_3 : decode cX2_goodEndingWith 3 = .ok (.ishl, 1) := by decide +kernel
theorem dX2_goodEndingWith_4 : decode cX2_goodEndingWith 4 = .ok (.iconst (-1), 1) := by decide +kernel
theorem dX2_goodEndingWith_5 : decode cX2_goodEndingWith 5 = .ok (.ixor, 1) := by decide +kernel
theorem dX2_goodEndingWith_6 : decode cX2_goodEndingWith 6 = .ok (.iand, 1) := by decide +kernel
theorem dX2_goodEndingWith_7 : decode cX2_goodEndingWith 7 = .ok (.istore_n 3, 1) := by decide +kernel
theorem dX2_goodEndingWith_8 : decode cX2_goodEndingWith 8 = .ok (.iload_n 3, 1) := by decide +kernel
theorem dX2_goodEndingWith_9 : decode cX2_goodEndingWith 9 = .ok (.iload_n 2, 1) := by decide +kernel
theorem dX2_goodEndingWith_10 : decode cX2_goodEndingWith 10 = .ok (.if_icmp .ne 5, 3) := by decide +kernel
theorem dX2_goodEndingWith_13 : decode cX2_goodEndingWith 13 = .ok (.iconst 0, 1) := by decide +kernel
theorem dX2_goodEndingWith_14 : decode cX2_goodEndingWith 14 = .ok (.ireturn, 1) := by decide +kernel
theorem dX2_goodEndingWith_15 : decode cX2_goodEndingWith 15 = .ok (.iload_n 3, 1) := by decide +kernel
theorem dX2_goodEndingWith_16 : decode cX2_goodEndingWith 16 = .ok (.ifCond .ne 5, 3) := by decide +kernel
theorem dX2_goodEndingWith_19 : decode cX2_goodEndingWith 19 = .ok (.iconst 1, 1) := by decide +kernel
theorem dX2_goodEndingWith_20 : decode cX2_goodEndingWith 20 = .ok (.ireturn, 1) := by decide +kernel
theorem dX2_goodEndingWith_21 : decode cX2_goodEndingWith 21 = .ok (.iconst 0, 1) := by decide +kernel
theorem dX2_goodEndingWith_22 : decode cX2_goodEndingWith 22 = .ok (.istore 4, 2) := by decide +kernel
theorem dX2_goodEndingWith_24 : decode cX2_goodEndingWith 24 = .ok (.iconst 0, 1) := by decide +kernel
theorem dX2_goodEndingWith_25 : decode cX2_goodEndingWith 25 = .ok (.istore 5, 2) := by decide +kernel
theorem dX2_goodEndingWith_27 : decode cX2_goodEndingWith 27 = .ok (.iload 5, 2) := by decide +kernel
theorem dX2_goodEndingWith_29 : decode cX2_goodEndingWith 29 = .ok (.aload_n 0, 1) := by decide +kernel
theorem dX2_goodEndingWith_30 : decode cX2_goodEndingWith 30 = .ok (.getfield 34, 3) := by decide +kernel
theorem dX2_goodEndingWith_33 : decode cX2_goodEndingWith 33 = .ok (.if_icmp .ge 39, 3) := by decide +kernel
theorem dX2_goodEndingWith_36 : decode cX2_goodEndingWith 36 = .ok (.aload_n 0, 1) := by decide +kernel
theorem dX2_goodEndingWith_37 : decode cX2_goodEndingWith 37 = .ok (.getfield 9, 3) := by decide +kernel
theorem dX2_goodEndingWith_40 : decode cX2_goodEndingWith 40 = .ok (.iload 5, 2) := by decide +kernel
theorem dX2_goodEndingWith_42 : decode cX2_goodEndingWith 42 = .ok (.iload_n 1, 1) := by decide +kernel
theorem dX2_goodEndingWith_43 : decode cX2_goodEndingWith 43 = .ok (.invokestatic 38, 3) := by decide +kernel
theorem dX2_goodEndingWith_46 : decode cX2_goodEndingWith 46 = .ok (.baload, 1) := by decide +kernel
theorem dX2_goodEndingWith_47 : decode cX2_goodEndingWith 47 = .ok (.ifCond .ne 19, 3) := by decide +kernel
theorem dX2_goodEndingWith_50 : decode cX2_goodEndingWith 50 = .ok (.iload 4, 2) := by decide +kernel
theorem dX2_goodEndingWith_52 : decode cX2_goodEndingWith 52 = .ok (.aload_n 0, 1) := by decide +kernel
theorem dX2_goodEndingWith_53 : decode cX2_goodEndingWith 53 = .ok (.getfield 15, 3) := by decide +kernel
theorem dX2_goodEndingWith_56 : decode cX2_goodEndingWith 56 = .ok (.iload_n 3, 1) := by decide +kernel
theorem dX2_goodEndingWith_57 : decode cX2_goodEndingWith 57 = .ok (.iload 5, 2) := by decide +kernel
theorem dX2_goodEndingWith_59 : decode cX2_goodEndingWith 59 = .ok (.invokestatic 38, 3) := by decide +kernel
theorem dX2_goodEndingWith_62 : decode cX2_goodEndingWith 62 = .ok (.iaload, 1) := by decide +kernel
theorem dX2_goodEndingWith_63 : decode cX2_goodEndingWith 63 = .ok (.iadd, 1) := by decide +kernel
theorem dX2_goodEndingWith_64 : decode cX2_goodEndingWith 64 = .ok (.istore 4, 2) := by decide +kernel
theorem dX2_goodEndingWith_66 : decode cX2_goodEndingWith 66 = .ok (.iinc 5 1, 3) := by decide +kernel
theorem dX2_goodEndingWith_69 : decode cX2_goodEndingWith 69 = .ok (.goto (-42), 3) := by decide +kernel
theorem dX2_goodEndingWith_72 : decode cX2_goodEndingWith 72 = .ok (.iload 4, 2) := by decide +kernel
theorem dX2_goodEndingWith_74 : decode cX2_goodEndingWith 74 = .ok (.ireturn, 1) := by decide +kernel
theorem dX2_leastEndingWith_0 : decode cX2_leastEndingWith 0 = .ok (.iload_n 2, 1) := by decide +kernel
theorem dX2_leastEndingWith_1 : decode cX2_leastEndingWith 1 = .ok (.iconst 1, 1) := by decide +kernel
theorem dX2_leastEndingWith_2 : decode cX2_leastEndingWith 2 = .ok (.iload_n 1, 1) := by decide +kernel
theorem dX2_leastEndingWith_3 : decode cX2_leastEndingWith 3 = .ok (.ishl, 1) := by decide +kernel
theorem dX2_leastEndingWith_4 : decode cX2_leastEndingWith 4 = .ok (.iconst (-1), 1) := by decide +kernel
theorem dX2_leastEndingWith_5 : decode cX2_leastEndingWith 5 = .ok (.ixor, 1) := by decide +kernel
theorem dX2_leastEndingWith_6 : decode cX2_leastEndingWith 6 = .ok (.iand, 1) := by decide +kernel
theorem dX2_leastEndingWith_7 : decode cX2_leastEndingWith 7 = .ok (.istore_n 3, 1) := by decide +kernel
theorem dX2_leastEndingWith_8 : decode cX2_leastEndingWith 8 = .ok (.iload_n 3, 1) := by decide +kernel
theorem dX2_leastEndingWith_9 : decode cX2_leastEndingWith 9 = .ok (.iload_n 2, 1) := by decide +kernel
theorem dX2_leastEndingWith_10 : decode cX2_leastEndingWith 10 = .ok (.if_icmp .ne 7, 3) := by decide +kernel
theorem dX2_leastEndingWith_13 : decode cX2_leastEndingWith 13 = .ok (.sipush 1000, 3) := by decide +kernel
theorem dX2_leastEndingWith_16 : decode cX2_leastEndingWith 16 = .ok (.ireturn, 1) := by decide +kernel
theorem dX2_leastEndingWith_17 : decode cX2_leastEndingWith 17 = .ok (.iload_n 3, 1) := by decide +kernel
theorem dX2_leastEndingWith_18 : decode cX2_leastEndingWith 18 = .ok (.ifCond .ne 5, 3) := by decide +kernel
theorem dX2_leastEndingWith_21 : decode cX2_leastEndingWith 21 = .ok (.iconst 0, 1) := by decide +kernel
theorem dX2_leastEndingWith_22 : decode cX2_leastEndingWith 22 = .ok (.ireturn, 1) := by decide +kernel
theorem dX2_leastEndingWith_23 : decode cX2_leastEndingWith 23 = .ok (.sipush 1000, 3) := by decide +kernel
theorem dX2_leastEndingWith_26 : decode cX2_leastEndingWith 26 = .ok (.istore 4, 2) := by decide +kernel
theorem dX2_leastEndingWith_28 : decode cX2_leastEndingWith 28 = .ok (.iconst 0, 1) := by decide +kernel
theorem dX2_leastEndingWith_29 : decode cX2_leastEndingWith 29 = .ok (.istore 5, 2) := by decide +kernel
theorem dX2_leastEndingWith_31 : decode cX2_leastEndingWith 31 = .ok (.iload 5, 2) := by decide +kernel
theorem dX2_leastEndingWith_33 : decode cX2_leastEndingWith 33 = .ok (.aload_n 0, 1) := by decide +kernel
theorem dX2_leastEndingWith_34 : decode cX2_leastEndingWith 34 = .ok (.getfield 34, 3) := by decide +kernel
theorem dX2_leastEndingWith_37 : decode cX2_leastEndingWith 37 = .ok (.if_icmp .ge 51, 3) := by decide +kernel
theorem dX2_leastEndingWith_40 : decode cX2_leastEndingWith 40 = .ok (.aload_n 0, 1) := by decide +kernel
theorem dX2_leastEndingWith_41 : decode cX2_leastEndingWith 41 = .ok (.getfield 9, 3) := by decide +kernel
theorem dX2_leastEndingWith_44 : decode cX2_leastEndingWith 44 = .ok (.iload 5, 2) := by decide +kernel
theorem dX2_leastEndingWith_46 : decode cX2_leastEndingWith 46 = .ok (.iload_n 1, 1) := by decide +kernel
theorem dX2_leastEndingWith_47 : decode cX2_leastEndingWith 47 = .ok (.invokestatic 38, 3) := by decide +kernel
theorem dX2_leastEndingWith_50 : decode cX2_leastEndingWith 50 = .ok (.baload, 1) := by decide +kernel
theorem dX2_leastEndingWith_51 : decode cX2_leastEndingWith 51 = .ok (.ifCond .eq 7, 3) := by decide +kernel
theorem dX2_leastEndingWith_54 : decode cX2_leastEndingWith 54 = .ok (.iconst 1, 1) := by decide +kernel
theorem dX2_leastEndingWith_55 : decode cX2_leastEndingWith 55 = .ok (.goto 4, 3) := by decide +kernel
theorem dX2_leastEndingWith_58 : decode cX2_leastEndingWith 58 = .ok (.iconst 0, 1) := by decide +kernel
theorem dX2_leastEndingWith_59 : decode cX2_leastEndingWith 59 = .ok (.istore 6, 2) := by decide +kernel
theorem dX2_leastEndingWith_61 : decode cX2_leastEndingWith 61 = .ok (.iload 4, 2) := by decide +kernel
theorem dX2_leastEndingWith_63 : decode cX2_leastEndingWith 63 = .ok (.aload_n 0, 1) := by decide +kernel
theorem dX2_leastEndingWith_64 : decode cX2_leastEndingWith 64 = .ok (.getfield 19, 3) := by decide +kernel
theorem dX2_leastEndingWith_67 : decode cX2_leastEndingWith 67 = .ok (.iload_n 3, 1) := by decide +kernel
theorem dX2_leastEndingWith_68 : decode cX2_leastEndingWith 68 = .ok (.iload 5, 2) := by decide +kernel
theorem dX2_leastEndingWith_70 : decode cX2_leastEndingWith 70 = .ok (.invokestatic 38, 3) := by decide +kernel
theorem dX2_leastEndingWith_73 : decode cX2_leastEndingWith 73 = .ok (.iaload, 1) := by decide +kernel
theorem dX2_leastEndingWith_74 : decode cX2_leastEndingWith 74 = .ok (.iload 6, 2) := by decide +kernel
theorem dX2_leastEndingWith_76 : decode cX2_leastEndingWith 76 = .ok (.iadd, 1) := by decide +kernel
theorem dX2_leastEndingWith_77 : decode cX2_leastEndingWith 77 = .ok (.invokestatic 28, 3) := by decide +kernel
theorem dX2_leastEndingWith_80 : decode cX2_leastEndingWith 80 = .ok (.istore 4, 2) := by decide +kernel
theorem dX2_leastEndingWith_82 : decode cX2_leastEndingWith 82 = .ok (.iinc 5 1, 3) := by decide +kernel
theorem dX2_leastEndingWith_85 : decode cX2_leastEndingWith 85 = .ok (.goto (-54), 3) := by decide +kernel
theorem dX2_leastEndingWith_88 : decode cX2_leastEndingWith 88 = .ok (.iload 4, 2) := by decide +kernel
theorem dX2_leastEndingWith_90 : decode cX2_leastEndingWith 90 = .ok (.ireturn, 1) := by decide +kernel
theorem dX2_cell_0 : decode cX2_cell 0 = .ok (.iload_n 0, 1) := by decide +kernel
theorem dX2_cell_1 : decode cX2_cell 1 = .ok (.bipush 6, 2) := by decide +kernel
theorem dX2_cell_3 : decode cX2_cell 3 = .ok (.imul, 1) := by decide +kernel
theorem dX2_cell_4 : decode cX2_cell 4 = .ok (.iload_n 1, 1) := by decide +kernel
theorem dX2_cell_5 : decode cX2_cell 5 = .ok (.iadd, 1) := by decide +kernel
theorem dX2_cell_6 : decode cX2_cell 6 = .ok (.ireturn, 1) := by decide +kernel
theorem dX3_init_0 : decode cX3_init 0 = .ok (.aload_n 0, 1) := by decide +kernel
theorem dX3_init_1 : decode cX3_init 1 = .ok (.invokespecial 3, 3) := by decide +kernel
theorem dX3_init_4 : decode cX3_init 4 = .ok (.aload_n 0, 1) := by decide +kernel
theorem dX3_init_5 : decode cX3_init 5 = .ok (.bipush 45, 2) := by decide +kernel
theorem dX3_init_7 : decode cX3_init 7 = .ok (.putfield 9, 3) := by decide +kernel
theorem dX3_init_10 : decode cX3_init 10 = .ok (.return_, 1) := by decide +kernel
theorem dX3_grant_0 : decode cX3_grant 0 = .ok (.aload_n 0, 1) := by decide +kernel
theorem dX3_grant_1 : decode cX3_grant 1 = .ok (.iload_n 1, 1) := by decide +kernel
theorem dX3_grant_2 : decode cX3_grant 2 = .ok (.putfield 9, 3) := by decide +kernel
theorem dX3_grant_5 : decode cX3_grant 5 = .ok (.aload_n 0, 1) := by decide +kernel
theorem dX3_grant_6 : decode cX3_grant 6 = .ok (.aload_n 2, 1) := by decide +kernel
theorem dX3_grant_7 : decode cX3_grant 7 = .ok (.getfield 15, 3) := by decide +kernel
theorem dX3_grant_10 : decode cX3_grant 10 = .ok (.putfield 21, 3) := by decide +kernel
theorem dX3_grant_13 : decode cX3_grant 13 = .ok (.aload_n 0, 1) := by decide +kernel
theorem dX3_grant_14 : decode cX3_grant 14 = .ok (.aload_n 3, 1) := by decide +kernel
theorem dX3_grant_15 : decode cX3_grant 15 = .ok (.getfield 22, 3) := by decide +kernel
theorem dX3_grant_18 : decode cX3_grant 18 = .ok (.putfield 25, 3) := by decide +kernel
theorem dX3_grant_21 : decode cX3_grant 21 = .ok (.aload_n 0, 1) := by decide +kernel
theorem dX3_grant_22 : decode cX3_grant 22 = .ok (.aload_n 3, 1) := by decide +kernel
theorem dX3_grant_23 : decode cX3_grant 23 = .ok (.getfield 15, 3) := by decide +kernel
theorem dX3_grant_26 : decode cX3_grant 26 = .ok (.putfield 28, 3) := by decide +kernel
theorem dX3_grant_29 : decode cX3_grant 29 = .ok (.return_, 1) := by decide +kernel
theorem dX3_holds_0 : decode cX3_holds 0 = .ok (.aload_n 0, 1) := by decide +kernel
theorem dX3_holds_1 : decode cX3_holds 1 = .ok (.getfield 21, 3) := by decide +kernel
theorem dX3_holds_4 : decode cX3_holds 4 = .ok (.aload_n 1, 1) := by decide +kernel
theorem dX3_holds_5 : decode cX3_holds 5 = .ok (.getfield 15, 3) := by decide +kernel
theorem dX3_holds_8 : decode cX3_holds 8 = .ok (.if_icmp .ne 29, 3) := by decide +kernel
theorem dX3_holds_11 : decode cX3_holds 11 = .ok (.aload_n 0, 1) := by decide +kernel
theorem dX3_holds_12 : decode cX3_holds 12 = .ok (.getfield 25, 3) := by decide +kernel
theorem dX3_holds_15 : decode cX3_holds 15 = .ok (.aload_n 2, 1) := by decide +kernel
theorem dX3_holds_16 : decode cX3_holds 16 = .ok (.getfield 22, 3) := by decide +kernel
theorem dX3_holds_19 : decode cX3_holds 19 = .ok (.if_icmp .ne 18, 3) := by decide +kernel
theorem dX3_holds_22 : decode cX3_holds 22 = .ok (.aload_n 0, 1) := by decide +kernel
theorem dX3_holds_23 : decode cX3_holds 23 = .ok (.getfield 28, 3) := by decide +kernel
theorem dX3_holds_26 : decode cX3_holds 26 = .ok (.aload_n 2, 1) := by decide +kernel
theorem dX3_holds_27 : decode cX3_holds 27 = .ok (.getfield 15, 3) := by decide +kernel
theorem dX3_holds_30 : decode cX3_holds 30 = .ok (.if_icmp .ne 7, 3) := by decide +kernel
theorem dX3_holds_33 : decode cX3_holds 33 = .ok (.iconst 1, 1) := by decide +kernel
theorem dX3_holds_34 : decode cX3_holds 34 = .ok (.goto 4, 3) := by decide +kernel
theorem dX3_holds_37 : decode cX3_holds 37 = .ok (.iconst 0, 1) := by decide +kernel
theorem dX3_holds_38 : decode cX3_holds 38 = .ok (.ireturn, 1) := by decide +kernel
theorem dX4_init_0 : decode cX4_init 0 = .ok (.aload_n 0, 1) := by decide +kernel
theorem dX4_init_1 : decode cX4_init 1 = .ok (.invokespecial 3, 3) := by decide +kernel
theorem dX4_init_4 : decode cX4_init 4 = .ok (.aload_n 0, 1) := by decide +kernel
theorem dX4_init_5 : decode cX4_init 5 = .ok (.new 9, 3) := by decide +kernel
theorem dX4_init_8 : decode cX4_init 8 = .ok (.dup, 1) := by decide +kernel
theorem dX4_init_9 : decode cX4_init 9 = .ok (.invokespecial 11, 3) := by decide +kernel
theorem dX4_init_12 : decode cX4_init 12 = .ok (.putfield 12, 3) := by decide +kernel
theorem dX4_init_15 : decode cX4_init 15 = .ok (.aload_n 0, 1) := by decide +kernel
theorem dX4_init_16 : decode cX4_init 16 = .ok (.new 18, 3) := by decide +kernel
theorem dX4_init_19 : decode cX4_init 19 = .ok (.dup, 1) := by decide +kernel
theorem dX4_init_20 : decode cX4_init 20 = .ok (.invokespecial 20, 3) := by decide +kernel
theorem dX4_init_23 : decode cX4_init 23 = .ok (.putfield 21, 3) := by decide +kernel
theorem dX4_init_26 : decode cX4_init 26 = .ok (.aload_n 0, 1) := by decide +kernel
theorem dX4_init_27 : decode cX4_init 27 = .ok (.iconst (-1), 1) := by decide +kernel
theorem dX4_init_28 : decode cX4_init 28 = .ok (.putfield 25, 3) := by decide +kernel
theorem dX4_init_31 : decode cX4_init 31 = .ok (.aload_n 0, 1) := by decide +kernel
theorem dX4_init_32 : decode cX4_init 32 = .ok (.bipush 45, 2) := by decide +kernel
theorem dX4_init_34 : decode cX4_init 34 = .ok (.putfield 29, 3) := by decide +kernel
theorem dX4_init_37 : decode cX4_init 37 = .ok (.aload_n 0, 1) := by decide +kernel
theorem dX4_init_38 : decode cX4_init 38 = .ok (.iconst (-1), 1) := by decide +kernel
theorem dX4_init_39 : decode cX4_init 39 = .ok (.putfield 33, 3) := by decide +kernel
theorem dX4_init_42 : decode cX4_init 42 = .ok (.aload_n 0, 1) := by decide +kernel
theorem dX4_init_43 : decode cX4_init 43 = .ok (.iload_n 1, 1) := by decide +kernel
theorem dX4_init_44 : decode cX4_init 44 = .ok (.putfield 36, 3) := by decide +kernel
theorem dX4_init_47 : decode cX4_init 47 = .ok (.aload_n 0, 1) := by decide +kernel
theorem dX4_init_48 : decode cX4_init 48 = .ok (.iload_n 2, 1) := by decide +kernel
theorem dX4_init_49 : decode cX4_init 49 = .ok (.putfield 39, 3) := by decide +kernel
theorem dX4_init_52 : decode cX4_init 52 = .ok (.aload_n 0, 1) := by decide +kernel
theorem dX4_init_53 : decode cX4_init 53 = .ok (.iload_n 3, 1) := by decide +kernel
theorem dX4_init_54 : decode cX4_init 54 = .ok (.putfield 42, 3) := by decide +kernel
theorem dX4_init_57 : decode cX4_init 57 = .ok (.aload_n 0, 1) := by decide +kernel
theorem dX4_init_58 : decode cX4_init 58 = .ok (.iload 4, 2) := by decide +kernel
theorem dX4_init_60 : decode cX4_init 60 = .ok (.putfield 45, 3) := by decide +kernel
theorem dX4_init_63 : decode cX4_init 63 = .ok (.return_, 1) := by decide +kernel
theorem dX4_film_0 : decode cX4_film 0 = .ok (.aload_n 0, 1) := by decide +kernel
theorem dX4_film_1 : decode cX4_film 1 = .ok (.getfield 39, 3) := by decide +kernel
theorem dX4_film_4 : decode cX4_film 4 = .ok (.iload_n 1, 1) := by decide +kernel
theorem dX4_film_5 : decode cX4_film 5 = .ok (.if_icmp .ne 11, 3) := by decide +kernel
theorem dX4_film_8 : decode cX4_film 8 = .ok (.aload_n 0, 1) := by decide +kernel
theorem dX4_film_9 : decode cX4_film 9 = .ok (.getfield 42, 3) := by decide +kernel
theorem dX4_film_12 : decode cX4_film 12 = .ok (.iload_n 2, 1) := by decide +kernel
theorem dX4_film_13 : decode cX4_film 13 = .ok (.if_icmp .eq 23, 3) := by decide +kernel
theorem dX4_film_16 : decode cX4_film 16 = .ok (.aload_n 0, 1) := by decide +kernel
theorem dX4_film_17 : decode cX4_film 17 = .ok (.iload_n 1, 1) := by decide +kernel
theorem dX4_film_18 : decode cX4_film 18 = .ok (.putfield 39, 3) := by decide +kernel
theorem dX4_film_21 : decode cX4_film 21 = .ok (.aload_n 0, 1) := by decide +kernel
theorem dX4_film_22 : decode cX4_film 22 = .ok (.iload_n 2, 1) := by decide +kernel
theorem dX4_film_23 : decode cX4_film 23 = .ok (.putfield 42, 3) := by decide +kernel
theorem dX4_film_26 : decode cX4_film 26 = .ok (.aload_n 0, 1) := by decide +kernel
theorem dX4_film_27 : decode cX4_film 27 = .ok (.dup, 1) := by decide +kernel
theorem dX4_film_28 : decode cX4_film 28 = .ok (.getfield 48, 3) := by decide +kernel
theorem dX4_film_31 : decode cX4_film 31 = .ok (.iconst 1, 1) := by decide +kernel
theorem dX4_film_32 : decode cX4_film 32 = .ok (.iadd, 1) := by decide +kernel
theorem dX4_film_33 : decode cX4_film 33 = .ok (.putfield 48, 3) := by decide +kernel
theorem dX4_film_36 : decode cX4_film 36 = .ok (.return_, 1) := by decide +kernel
theorem dX4_changeLength_0 : decode cX4_changeLength 0 = .ok (.aload_n 0, 1) := by decide +kernel
theorem dX4_changeLength_1 : decode cX4_changeLength 1 = .ok (.getfield 45, 3) := by decide +kernel
theorem dX4_changeLength_4 : decode cX4_changeLength 4 = .ok (.istore_n 2, 1) := by decide +kernel
theorem dX4_changeLength_5 : decode cX4_changeLength 5 = .ok (.iload_n 2, 1) := by decide +kernel
theorem dX4_changeLength_6 : decode cX4_changeLength 6 = .ok (.iload_n 1, 1) := by decide +kernel
theorem dX4_changeLength_7 : decode cX4_changeLength 7 = .ok (.if_icmp .eq 18, 3) := by decide +kernel
theorem dX4_changeLength_10 : decode cX4_changeLength 10 = .ok (.aload_n 0, 1) := by decide +kernel
theorem dX4_changeLength_11 : decode cX4_changeLength 11 = .ok (.iload_n 1, 1) := by decide +kernel
theorem dX4_changeLength_12 : decode cX4_changeLength 12 = .ok (.putfield 45, 3) := by decide +kernel
theorem dX4_changeLength_15 : decode cX4_changeLength 15 = .ok (.aload_n 0, 1) := by decide +kernel
theorem dX4_changeLength_16 : decode cX4_changeLength 16 = .ok (.dup, 1) := by decide +kernel
theorem dX4_changeLength_17 : decode cX4_changeLength 17 = .ok (.getfield 48, 3) := by decide +kernel
theorem dX4_changeLength_20 : decode cX4_changeLength 20 = .ok (.iconst 1, 1) := by decide +kernel
theorem dX4_changeLength_21 : decode cX4_changeLength 21 = .ok (.iadd, 1) := by decide +kernel
theorem dX4_changeLength_22 : decode cX4_changeLength 22 = .ok (.putfield 48, 3) := by decide +kernel
theorem dX4_changeLength_25 : decode cX4_changeLength 25 = .ok (.iload_n 2, 1) := by decide +kernel
theorem dX4_changeLength_26 : decode cX4_changeLength 26 = .ok (.ireturn, 1) := by decide +kernel
theorem dX4_putIn_0 : decode cX4_putIn 0 = .ok (.aload_n 0, 1) := by decide +kernel
theorem dX4_putIn_1 : decode cX4_putIn 1 = .ok (.getfield 12, 3) := by decide +kernel
theorem dX4_putIn_4 : decode cX4_putIn 4 = .ok (.getfield 51, 3) := by decide +kernel
theorem dX4_putIn_7 : decode cX4_putIn 7 = .ok (.iload_n 1, 1) := by decide +kernel
theorem dX4_putIn_8 : decode cX4_putIn 8 = .ok (.caload, 1) := by decide +kernel
theorem dX4_putIn_9 : decode cX4_putIn 9 = .ok (.iload_n 2, 1) := by decide +kernel
theorem dX4_putIn_10 : decode cX4_putIn 10 = .ok (.if_icmp .ne 16, 3) := by decide +kernel
theorem dX4_putIn_13 : decode cX4_putIn 13 = .ok (.aload_n 0, 1) := by decide +kernel
theorem dX4_putIn_14 : decode cX4_putIn 14 = .ok (.getfield 12, 3) := by decide +kernel
theorem dX4_putIn_17 : decode cX4_putIn 17 = .ok (.getfield 55, 3) := by decide +kernel
theorem dX4_putIn_20 : decode cX4_putIn 20 = .ok (.iload_n 1, 1) := by decide +kernel
theorem dX4_putIn_21 : decode cX4_putIn 21 = .ok (.caload, 1) := by decide +kernel
theorem dX4_putIn_22 : decode cX4_putIn 22 = .ok (.iload_n 3, 1) := by decide +kernel
theorem dX4_putIn_23 : decode cX4_putIn 23 = .ok (.if_icmp .eq 33, 3) := by decide +kernel
theorem dX4_putIn_26 : decode cX4_putIn 26 = .ok (.aload_n 0, 1) := by decide +kernel
theorem dX4_putIn_27 : decode cX4_putIn 27 = .ok (.getfield 12, 3) := by decide +kernel
theorem dX4_putIn_30 : decode cX4_putIn 30 = .ok (.getfield 51, 3) := by decide +kernel
theorem dX4_putIn_33 : decode cX4_putIn 33 = .ok (.iload_n 1, 1) := by decide +kernel
theorem dX4_putIn_34 : decode cX4_putIn 34 = .ok (.iload_n 2, 1) := by decide +kernel
theorem dX4_putIn_35 : decode cX4_putIn 35 = .ok (.castore, 1) := by decide +kernel
theorem dX4_putIn_36 : decode cX4_putIn 36 = .ok (.aload_n 0, 1) := by decide +kernel
theorem dX4_putIn_37 : decode cX4_putIn 37 = .ok (.getfield 12, 3) := by decide +kernel
theorem dX4_putIn_40 : decode cX4_putIn 40 = .ok (.getfield 55, 3) := by decide +kernel
theorem dX4_putIn_43 : decode cX4_putIn 43 = .ok (.iload_n 1, 1) := by decide +kernel
theorem dX4_putIn_44 : decode cX4_putIn 44 = .ok (.iload_n 3, 1) := by decide +kernel
theorem dX4_putIn_45 : decode cX4_putIn 45 = .ok (.castore, 1) := by decide +kernel
theorem dX4_putIn_46 : decode cX4_putIn 46 = .ok (.aload_n 0, 1) := by decide +kernel
theorem dX4_putIn_47 : decode cX4_putIn 47 = .ok (.dup, 1) := by decide +kernel
theorem dX4_putIn_48 : decode cX4_putIn 48 = .ok (.getfield 48, 3) := by decide +kernel
theorem dX4_putIn_51 : decode cX4_putIn 51 = .ok (.iconst 1, 1) := by decide +kernel
theorem dX4_putIn_52 : decode cX4_putIn 52 = .ok (.iadd, 1) := by decide +kernel
theorem dX4_putIn_53 : decode cX4_putIn 53 = .ok (.putfield 48, 3) := by decide +kernel
theorem dX4_putIn_56 : decode cX4_putIn 56 = .ok (.return_, 1) := by decide +kernel
theorem dX4_takeOut_0 : decode cX4_takeOut 0 = .ok (.aload_n 0, 1) := by decide +kernel
theorem dX4_takeOut_1 : decode cX4_takeOut 1 = .ok (.getfield 12, 3) := by decide +kernel
theorem dX4_takeOut_4 : decode cX4_takeOut 4 = .ok (.iload_n 1, 1) := by decide +kernel
theorem dX4_takeOut_5 : decode cX4_takeOut 5 = .ok (.invokevirtual 58, 3) := by decide +kernel
theorem dX4_takeOut_8 : decode cX4_takeOut 8 = .ok (.ifCond .eq 57, 3) := by decide +kernel
theorem dX4_takeOut_11 : decode cX4_takeOut 11 = .ok (.aload_n 0, 1) := by decide +kernel
theorem dX4_takeOut_12 : decode cX4_takeOut 12 = .ok (.getfield 12, 3) := by decide +kernel
theorem dX4_takeOut_15 : decode cX4_takeOut 15 = .ok (.getfield 51, 3) := by decide +kernel
theorem dX4_takeOut_18 : decode cX4_takeOut 18 = .ok (.iload_n 1, 1) := by decide +kernel
theorem dX4_takeOut_19 : decode cX4_takeOut 19 = .ok (.bipush 45, 2) := by decide +kernel
theorem dX4_takeOut_21 : decode cX4_takeOut 21 = .ok (.castore, 1) := by decide +kernel
theorem dX4_takeOut_22 : decode cX4_takeOut 22 = .ok (.aload_n 0, 1) := by decide +kernel
theorem dX4_takeOut_23 : decode cX4_takeOut 23 = .ok (.getfield 12, 3) := by decide +kernel
theorem dX4_takeOut_26 : decode cX4_takeOut 26 = .ok (.getfield 55, 3) := by decide +kernel
theorem dX4_takeOut_29 : decode cX4_takeOut 29 = .ok (.iload_n 1, 1) := by decide +kernel
theorem dX4_takeOut_30 : decode cX4_takeOut 30 = .ok (.bipush 45, 2) := by decide +kernel
theorem dX4_takeOut_32 : decode cX4_takeOut 32 = .ok (.castore, 1) := by decide +kernel
theorem dX4_takeOut_33 : decode cX4_takeOut 33 = .ok (.aload_n 0, 1) := by decide +kernel
theorem dX4_takeOut_34 : decode cX4_takeOut 34 = .ok (.getfield 12, 3) := by decide +kernel
theorem dX4_takeOut_37 : decode cX4_takeOut 37 = .ok (.getfield 62, 3) := by decide +kernel
theorem dX4_takeOut_40 : decode cX4_takeOut 40 = .ok (.iload_n 1, 1) := by decide +kernel
theorem dX4_takeOut_41 : decode cX4_takeOut 41 = .ok (.bipush 45, 2) := by decide +kernel
theorem dX4_takeOut_43 : decode cX4_takeOut 43 = .ok (.castore, 1) := by decide +kernel
theorem dX4_takeOut_44 : decode cX4_takeOut 44 = .ok (.aload_n 0, 1) := by decide +kernel
theorem dX4_takeOut_45 : decode cX4_takeOut 45 = .ok (.getfield 12, 3) := by decide +kernel
theorem dX4_takeOut_48 : decode cX4_takeOut 48 = .ok (.getfield 65, 3) := by decide +kernel
theorem dX4_takeOut_51 : decode cX4_takeOut 51 = .ok (.iload_n 1, 1) := by decide +kernel
theorem dX4_takeOut_52 : decode cX4_takeOut 52 = .ok (.bipush 45, 2) := by decide +kernel
theorem dX4_takeOut_54 : decode cX4_takeOut 54 = .ok (.castore, 1) := by decide +kernel
theorem dX4_takeOut_55 : decode cX4_takeOut 55 = .ok (.aload_n 0, 1) := by decide +kernel
theorem dX4_takeOut_56 : decode cX4_takeOut 56 = .ok (.dup, 1) := by decide +kernel
theorem dX4_takeOut_57 : decode cX4_takeOut 57 = .ok (.getfield 48, 3) := by decide +kernel
theorem dX4_takeOut_60 : decode cX4_takeOut 60 = .ok (.iconst 1, 1) := by decide +kernel
theorem dX4_takeOut_61 : decode cX4_takeOut 61 = .ok (.iadd, 1) := by decide +kernel
theorem dX4_takeOut_62 : decode cX4_takeOut 62 = .ok (.putfield 48, 3) := by decide +kernel
theorem dX4_takeOut_65 : decode cX4_takeOut 65 = .ok (.return_, 1) := by decide +kernel
theorem dX4_changeEdge_0 : decode cX4_changeEdge 0 = .ok (.aload_n 1, 1) := by decide +kernel
theorem dX4_changeEdge_1 : decode cX4_changeEdge 1 = .ok (.iload_n 2, 1) := by decide +kernel
theorem dX4_changeEdge_2 : decode cX4_changeEdge 2 = .ok (.caload, 1) := by decide +kernel
theorem dX4_changeEdge_3 : decode cX4_changeEdge 3 = .ok (.istore 4, 2) := by decide +kernel
theorem dX4_changeEdge_5 : decode cX4_changeEdge 5 = .ok (.iload 4, 2) := by decide +kernel
theorem dX4_changeEdge_7 : decode cX4_changeEdge 7 = .ok (.iload_n 3, 1) := by decide +kernel
theorem dX4_changeEdge_8 : decode cX4_changeEdge 8 = .ok (.if_icmp .eq 17, 3) := by decide +kernel
theorem dX4_changeEdge_11 : decode cX4_changeEdge 11 = .ok (.aload_n 1, 1) := by decide +kernel
theorem dX4_changeEdge_12 : decode cX4_changeEdge 12 = .ok (.iload_n 2, 1) := by decide +kernel
theorem dX4_changeEdge_13 : decode cX4_changeEdge 13 = .ok (.iload_n 3, 1) := by decide +kernel
theorem dX4_changeEdge_14 : decode cX4_changeEdge 14 = .ok (.castore, 1) := by decide +kernel
theorem dX4_changeEdge_15 : decode cX4_changeEdge 15 = .ok (.aload_n 0, 1) := by decide +kernel
theorem dX4_changeEdge_16 : decode cX4_changeEdge 16 = .ok (.dup, 1) := by decide +kernel
theorem dX4_changeEdge_17 : decode cX4_changeEdge 17 = .ok (.getfield 48, 3) := by decide +kernel
theorem dX4_changeEdge_20 : decode cX4_changeEdge 20 = .ok (.iconst 1, 1) := by decide +kernel
theorem dX4_changeEdge_21 : decode cX4_changeEdge 21 = .ok (.iadd, 1) := by decide +kernel
theorem dX4_changeEdge_22 : decode cX4_changeEdge 22 = .ok (.putfield 48, 3) := by decide +kernel
theorem dX4_changeEdge_25 : decode cX4_changeEdge 25 = .ok (.iload 4, 2) := by decide +kernel
theorem dX4_changeEdge_27 : decode cX4_changeEdge 27 = .ok (.ireturn, 1) := by decide +kernel
theorem dX4_excusedFor_0 : decode cX4_excusedFor 0 = .ok (.aload_n 0, 1) := by decide +kernel
theorem dX4_excusedFor_1 : decode cX4_excusedFor 1 = .ok (.getfield 21, 3) := by decide +kernel
theorem dX4_excusedFor_4 : decode cX4_excusedFor 4 = .ok (.aload_n 0, 1) := by decide +kernel
theorem dX4_excusedFor_5 : decode cX4_excusedFor 5 = .ok (.aload_n 1, 1) := by decide +kernel
theorem dX4_excusedFor_6 : decode cX4_excusedFor 6 = .ok (.invokevirtual 68, 3) := by decide +kernel
theorem dX4_excusedFor_9 : decode cX4_excusedFor 9 = .ok (.ifCond .eq 13, 3) := by decide +kernel
theorem dX4_excusedFor_12 : decode cX4_excusedFor 12 = .ok (.aload_n 0, 1) := by decide +kernel
theorem dX4_excusedFor_13 : decode cX4_excusedFor 13 = .ok (.getfield 21, 3) := by decide +kernel
theorem dX4_excusedFor_16 : decode cX4_excusedFor 16 = .ok (.getfield 72, 3) := by decide +kernel
theorem dX4_excusedFor_19 : decode cX4_excusedFor 19 = .ok (.goto 5, 3) := by decide +kernel
theorem dX4_excusedFor_22 : decode cX4_excusedFor 22 = .ok (.bipush 45, 2) := by decide +kernel
theorem dX4_excusedFor_24 : decode cX4_excusedFor 24 = .ok (.ireturn, 1) := by decide +kernel
theorem dX4_setupBit_0 : decode cX4_setupBit 0 = .ok (.aload_n 0, 1) := by decide +kernel
theorem dX4_setupBit_1 : decode cX4_setupBit 1 = .ok (.getfield 39, 3) := by decide +kernel
theorem dX4_setupBit_4 : decode cX4_setupBit 4 = .ok (.bipush 115, 2) := by decide +kernel
theorem dX4_setupBit_6 : decode cX4_setupBit 6 = .ok (.if_icmp .ne 7, 3) := by decide +kernel
theorem dX4_setupBit_9 : decode cX4_setupBit 9 = .ok (.iconst 0, 1) := by decide +kernel
theorem dX4_setupBit_10 : decode cX4_setupBit 10 = .ok (.goto 17, 3) := by decide +kernel
theorem dX4_setupBit_13 : decode cX4_setupBit 13 = .ok (.aload_n 0, 1) := by decide +kernel
theorem dX4_setupBit_14 : decode cX4_setupBit 14 = .ok (.getfield 39, 3) := by decide +kernel
theorem dX4_setupBit_17 : decode cX4_setupBit 17 = .ok (.bipush 110, 2) := by decide +kernel
theorem dX4_setupBit_19 : decode cX4_setupBit 19 = .ok (.if_icmp .ne 7, 3) := by decide +kernel
theorem dX4_setupBit_22 : decode cX4_setupBit 22 = .ok (.iconst 1, 1) := by decide +kernel
theorem dX4_setupBit_23 : decode cX4_setupBit 23 = .ok (.goto 4, 3) := by decide +kernel
theorem dX4_setupBit_26 : decode cX4_setupBit 26 = .ok (.iconst 2, 1) := by decide +kernel
theorem dX4_setupBit_27 : decode cX4_setupBit 27 = .ok (.istore_n 1, 1) := by decide +kernel
theorem dX4_setupBit_28 : decode cX4_setupBit 28 = .ok (.iconst 1, 1) := by decide +kernel
theorem dX4_setupBit_29 : decode cX4_setupBit 29 = .ok (.iload_n 1, 1) := by decide +kernel
theorem dX4_setupBit_30 : decode cX4_setupBit 30 = .ok (.iconst 5, 1) := by decide +kernel
theorem dX4_setupBit_31 : decode cX4_setupBit 31 = .ok (.imul, 1) := by decide +kernel
theorem dX4_setupBit_32 : decode cX4_setupBit 32 = .ok (.aload_n 0, 1) := by decide +kernel
theorem dX4_setupBit_33 : decode cX4_setupBit 33 = .ok (.getfield 42, 3) := by decide +kernel
theorem dX4_setupBit_36 : decode cX4_setupBit 36 = .ok (.iadd, 1) := by decide +kernel
theorem dX4_setupBit_37 : decode cX4_setupBit 37 = .ok (.ishl, 1) := by decide +kernel
theorem dX4_setupBit_38 : decode cX4_setupBit 38 = .ok (.ireturn, 1) := by decide +kernel
theorem dX5_init_0 : decode cX5_init 0 = .ok (.aload_n 0, 1) := by decide +kernel
theorem dX5_init_1 : decode cX5_init 1 = .ok (.invokespecial 1, 3) := by decide +kernel
theorem dX5_init_4 : decode cX5_init 4 = .ok (.aload_n 0, 1) := by decide +kernel
theorem dX5_init_5 : decode cX5_init 5 = .ok (.new 7, 3) := by decide +kernel
theorem dX5_init_8 : decode cX5_init 8 = .ok (.dup, 1) := by decide +kernel
theorem dX5_init_9 : decode cX5_init 9 = .ok (.invokespecial 9, 3) := by decide +kernel
theorem dX5_init_12 : decode cX5_init 12 = .ok (.putfield 10, 3) := by decide +kernel
theorem dX5_init_15 : decode cX5_init 15 = .ok (.aload_n 0, 1) := by decide +kernel
theorem dX5_init_16 : decode cX5_init 16 = .ok (.new 7, 3) := by decide +kernel
theorem dX5_init_19 : decode cX5_init 19 = .ok (.dup, 1) := by decide +kernel
theorem dX5_init_20 : decode cX5_init 20 = .ok (.invokespecial 9, 3) := by decide +kernel
theorem dX5_init_23 : decode cX5_init 23 = .ok (.putfield 16, 3) := by decide +kernel
theorem dX5_init_26 : decode cX5_init 26 = .ok (.aload_n 0, 1) := by decide +kernel
theorem dX5_init_27 : decode cX5_init 27 = .ok (.new 7, 3) := by decide +kernel
theorem dX5_init_30 : decode cX5_init 30 = .ok (.dup, 1) := by decide +kernel
theorem dX5_init_31 : decode cX5_init 31 = .ok (.invokespecial 9, 3) := by decide +kernel
theorem dX5_init_34 : decode cX5_init 34 = .ok (.putfield 19, 3) := by decide +kernel
theorem dX5_init_37 : decode cX5_init 37 = .ok (.aload_n 0, 1) := by decide +kernel
theorem dX5_init_38 : decode cX5_init 38 = .ok (.new 22, 3) := by decide +kernel
theorem dX5_init_41 : decode cX5_init 41 = .ok (.dup, 1) := by decide +kernel
theorem dX5_init_42 : decode cX5_init 42 = .ok (.invokespecial 24, 3) := by decide +kernel
theorem dX5_init_45 : decode cX5_init 45 = .ok (.putfield 25, 3) := by decide +kernel
theorem dX5_init_48 : decode cX5_init 48 = .ok (.return_, 1) := by decide +kernel
theorem dX5_shot_0 : decode cX5_shot 0 = .ok (.iload_n 1, 1) := by decide +kernel
theorem dX5_shot_1 : decode cX5_shot 1 = .ok (.iload_n 2, 1) := by decide +kernel
theorem dX5_shot_2 : decode cX5_shot 2 = .ok (.invokestatic 29, 3) := by decide +kernel
theorem dX5_shot_5 : decode cX5_shot 5 = .ok (.iload_n 3, 1) := by decide +kernel
theorem dX5_shot_6 : decode cX5_shot 6 = .ok (.invokestatic 33, 3) := by decide +kernel
theorem dX5_shot_9 : decode cX5_shot 9 = .ok (.iload 4, 2) := by decide +kernel
theorem dX5_shot_11 : decode cX5_shot 11 = .ok (.ifCond .lt 15, 3) := by decide +kernel
theorem dX5_shot_14 : decode cX5_shot 14 = .ok (.iload 4, 2) := by decide +kernel
theorem dX5_shot_16 : decode cX5_shot 16 = .ok (.aload_n 0, 1) := by decide +kernel
theorem dX5_shot_17 : decode cX5_shot 17 = .ok (.getfield 16, 3) := by decide +kernel
theorem dX5_shot_20 : decode cX5_shot 20 = .ok (.invokevirtual 37, 3) := by decide +kernel
theorem dX5_shot_23 : decode cX5_shot 23 = .ok (.if_icmp .le 13, 3) := by decide +kernel
theorem dX5_shot_26 : decode cX5_shot 26 = .ok (.new 41, 3) := by decide +kernel
theorem dX5_shot_29 : decode cX5_shot 29 = .ok (.dup, 1) := by decide +kernel
theorem dX5_shot_30 : decode cX5_shot 30 = .ok (.ldc 43, 2) := by decide +kernel
theorem dX5_shot_32 : decode cX5_shot 32 = .ok (.invokespecial 45, 3) := by decide +kernel
theorem dX5_shot_35 : decode cX5_shot 35 = .ok (.athrow, 1) := by decide +kernel
theorem dX5_shot_36 : decode cX5_shot 36 = .ok (.aload_n 0, 1) := by decide +kernel
theorem dX5_shot_37 : decode cX5_shot 37 = .ok (.getfield 48, 3) := by decide +kernel
theorem dX5_shot_40 : decode cX5_shot 40 = .ok (.ifCond .eq 12, 3) := by decide +kernel
theorem dX5_shot_43 : decode cX5_shot 43 = .ok (.aload_n 0, 1) := by decide +kernel
theorem dX5_shot_44 : decode cX5_shot 44 = .ok (.iload 4, 2) := by decide +kernel
theorem dX5_shot_46 : decode cX5_shot 46 = .ok (.invokevirtual 52, 3) := by decide +kernel
theorem dX5_shot_49 : decode cX5_shot 49 = .ok (.goto 4, 3) := by decide +kernel
theorem dX5_shot_52 : decode cX5_shot 52 = .ok (.iconst (-1), 1) := by decide +kernel
theorem dX5_shot_53 : decode cX5_shot 53 = .ok (.istore 5, 2) := by decide +kernel
theorem dX5_shot_55 : decode cX5_shot 55 = .ok (.aload_n 0, 1) := by decide +kernel
theorem dX5_shot_56 : decode cX5_shot 56 = .ok (.getfield 48, 3) := by decide +kernel
theorem dX5_shot_59 : decode cX5_shot 59 = .ok (.ifCond .eq 12, 3) := by decide +kernel
theorem dX5_shot_62 : decode cX5_shot 62 = .ok (.aload_n 0, 1) := by decide +kernel
theorem dX5_shot_63 : decode cX5_shot 63 = .ok (.iload 5, 2) := by decide +kernel
theorem dX5_shot_65 : decode cX5_shot 65 = .ok (.invokevirtual 56, 3) := by decide +kernel
theorem dX5_shot_68 : decode cX5_shot 68 = .ok (.goto 5, 3) := by decide +kernel
theorem dX5_shot_71 : decode cX5_shot 71 = .ok (.bipush 45, 2) := by decide +kernel
theorem dX5_shot_73 : decode cX5_shot 73 = .ok (.istore 6, 2) := by decide +kernel
theorem dX5_shot_75 : decode cX5_shot 75 = .ok (.aload_n 0, 1) := by decide +kernel
theorem dX5_shot_76 : decode cX5_shot 76 = .ok (.getfield 48, 3) := by decide +kernel
theorem dX5_shot_79 : decode cX5_shot 79 = .ok (.ifCond .eq 20, 3) := by decide +kernel
theorem dX5_shot_82 : decode cX5_shot 82 = .ok (.iload 6, 2) := by decide +kernel
theorem dX5_shot_84 : decode cX5_shot 84 = .ok (.bipush 45, 2) := by decide +kernel
theorem dX5_shot_86 : decode cX5_shot 86 = .ok (.if_icmp .ne 13, 3) := by decide +kernel
theorem dX5_shot_89 : decode cX5_shot 89 = .ok (.new 60, 3) := by decide +kernel
theorem dX5_shot_92 : decode cX5_shot 92 = .ok (.dup, 1) := by decide +kernel
theorem dX5_shot_93 : decode cX5_shot 93 = .ok (.ldc 62, 2) := by decide +kernel
theorem dX5_shot_95 : decode cX5_shot 95 = .ok (.invokespecial 64, 3) := by decide +kernel
theorem dX5_shot_98 : decode cX5_shot 98 = .ok (.athrow, 1) := by decide +kernel
theorem dX5_shot_99 : decode cX5_shot 99 = .ok (.aload_n 0, 1) := by decide +kernel
theorem dX5_shot_100 : decode cX5_shot 100 = .ok (.getfield 10, 3) := by decide +kernel
theorem dX5_shot_103 : decode cX5_shot 103 = .ok (.invokevirtual 37, 3) := by decide +kernel
theorem dX5_shot_106 : decode cX5_shot 106 = .ok (.bipush 24, 2) := by decide +kernel
theorem dX5_shot_108 : decode cX5_shot 108 = .ok (.if_icmp .lt 13, 3) := by decide +kernel
theorem dX5_shot_111 : decode cX5_shot 111 = .ok (.new 65, 3) := by decide +kernel
theorem dX5_shot_114 : decode cX5_shot 114 = .ok (.dup, 1) := by decide +kernel
theorem dX5_shot_115 : decode cX5_shot 115 = .ok (.ldc 67, 2) := by decide +kernel
theorem dX5_shot_117 : decode cX5_shot 117 = .ok (.invokespecial 69, 3) := by decide +kernel
theorem dX5_shot_120 : decode cX5_shot 120 = .ok (.athrow, 1) := by decide +kernel
theorem dX5_shot_121 : decode cX5_shot 121 = .ok (.new 70, 3) := by decide +kernel
theorem dX5_shot_124 : decode cX5_shot 124 = .ok (.dup, 1) := by decide +kernel
theorem dX5_shot_125 : decode cX5_shot 125 = .ok (.aload_n 0, 1) := by decide +kernel
theorem dX5_shot_126 : decode cX5_shot 126 = .ok (.getfield 10, 3) := by decide +kernel
theorem dX5_shot_129 : decode cX5_shot 129 = .ok (.invokevirtual 37, 3) := by decide +kernel
theorem dX5_shot_132 : decode cX5_shot 132 = .ok (.iload_n 1, 1) := by decide +kernel
theorem dX5_shot_133 : decode cX5_shot 133 = .ok (.iload_n 2, 1) := by decide +kernel
theorem dX5_shot_134 : decode cX5_shot 134 = .ok (.iload_n 3, 1) := by decide +kernel
theorem dX5_shot_135 : decode cX5_shot 135 = .ok (.invokespecial 72, 3) := by decide +kernel
theorem dX5_shot_138 : decode cX5_shot 138 = .ok (.astore 7, 2) := by decide +kernel
theorem dX5_shot_140 : decode cX5_shot 140 = .ok (.aload 7, 2) := by decide +kernel
theorem dX5_shot_142 : decode cX5_shot 142 = .ok (.iload 5, 2) := by decide +kernel
theorem dX5_shot_144 : decode cX5_shot 144 = .ok (.putfield 75, 3) := by decide +kernel
theorem dX5_shot_147 : decode cX5_shot 147 = .ok (.aload 7, 2) := by decide +kernel
theorem dX5_shot_149 : decode cX5_shot 149 = .ok (.iload 6, 2) := by decide +kernel
theorem dX5_shot_151 : decode cX5_shot 151 = .ok (.putfield 79, 3) := by decide +kernel
theorem dX5_shot_154 : decode cX5_shot 154 = .ok (.aload_n 0, 1) := by decide +kernel
theorem dX5_shot_155 : decode cX5_shot 155 = .ok (.getfield 10, 3) := by decide +kernel
theorem dX5_shot_158 : decode cX5_shot 158 = .ok (.aload 7, 2) := by decide +kernel
theorem dX5_shot_160 : decode cX5_shot 160 = .ok (.invokevirtual 83, 3) := by decide +kernel
theorem dX5_shot_163 : decode cX5_shot 163 = .ok (.pop, 1) := by decide +kernel
theorem dX5_shot_164 : decode cX5_shot 164 = .ok (.aload_n 0, 1) := by decide +kernel
theorem dX5_shot_165 : decode cX5_shot 165 = .ok (.getfield 16, 3) := by decide +kernel
theorem dX5_shot_168 : decode cX5_shot 168 = .ok (.iload 4, 2) := by decide +kernel
theorem dX5_shot_170 : decode cX5_shot 170 = .ok (.aload 7, 2) := by decide +kernel
theorem dX5_shot_172 : decode cX5_shot 172 = .ok (.invokevirtual 87, 3) := by decide +kernel
theorem dX5_shot_175 : decode cX5_shot 175 = .ok (.aload 7, 2) := by decide +kernel
theorem dX5_shot_177 : decode cX5_shot 177 = .ok (.getfield 90, 3) := by decide +kernel
theorem dX5_shot_180 : decode cX5_shot 180 = .ok (.ireturn, 1) := by decide +kernel
theorem dX5_drop_0 : decode cX5_drop 0 = .ok (.aload_n 0, 1) := by decide +kernel
theorem dX5_drop_1 : decode cX5_drop 1 = .ok (.iload_n 1, 1) := by decide +kernel
theorem dX5_drop_2 : decode cX5_drop 2 = .ok (.invokevirtual 93, 3) := by decide +kernel
theorem dX5_drop_5 : decode cX5_drop 5 = .ok (.astore_n 2, 1) := by decide +kernel
theorem dX5_drop_6 : decode cX5_drop 6 = .ok (.aload_n 0, 1) := by decide +kernel
theorem dX5_drop_7 : decode cX5_drop 7 = .ok (.aload_n 2, 1) := by decide +kernel
theorem dX5_drop_8 : decode cX5_drop 8 = .ok (.invokevirtual 97, 3) := by decide +kernel
theorem dX5_drop_11 : decode cX5_drop 11 = .ok (.istore_n 3, 1) := by decide +kernel
theorem dX5_drop_12 : decode cX5_drop 12 = .ok (.aload_n 0, 1) := by decide +kernel
theorem dX5_drop_13 : decode cX5_drop 13 = .ok (.getfield 16, 3) := by decide +kernel
theorem dX5_drop_16 : decode cX5_drop 16 = .ok (.iload_n 3, 1) := by decide +kernel
theorem dX5_drop_17 : decode cX5_drop 17 = .ok (.invokevirtual 101, 3) := by decide +kernel
theorem dX5_drop_20 : decode cX5_drop 20 = .ok (.pop, 1) := by decide +kernel
theorem dX5_drop_21 : decode cX5_drop 21 = .ok (.aload_n 2, 1) := by decide +kernel
theorem dX5_drop_22 : decode cX5_drop 22 = .ok (.dup, 1) := by decide +kernel
theorem dX5_drop_23 : decode cX5_drop 23 = .ok (.getfield 105, 3) := by decide +kernel
theorem dX5_drop_26 : decode cX5_drop 26 = .ok (.iconst 1, 1) := by decide +kernel
theorem dX5_drop_27 : decode cX5_drop 27 = .ok (.iadd, 1) := by decide +kernel
theorem dX5_drop_28 : decode cX5_drop 28 = .ok (.putfield 105, 3) := by decide +kernel
theorem dX5_drop_31 : decode cX5_drop 31 = .ok (.aload_n 2, 1) := by decide +kernel
theorem dX5_drop_32 : decode cX5_drop 32 = .ok (.iconst (-1), 1) := by decide +kernel
theorem dX5_drop_33 : decode cX5_drop 33 = .ok (.putfield 108, 3) := by decide +kernel
theorem dX5_drop_36 : decode cX5_drop 36 = .ok (.iload_n 3, 1) := by decide +kernel
theorem dX5_drop_37 : decode cX5_drop 37 = .ok (.ireturn, 1) := by decide +kernel
theorem dX5_move_0 : decode cX5_move 0 = .ok (.aload_n 0, 1) := by decide +kernel
theorem dX5_move_1 : decode cX5_move 1 = .ok (.iload_n 1, 1) := by decide +kernel
theorem dX5_move_2 : decode cX5_move 2 = .ok (.invokevirtual 93, 3) := by decide +kernel
theorem dX5_move_5 : decode cX5_move 5 = .ok (.astore_n 3, 1) := by decide +kernel
theorem dX5_move_6 : decode cX5_move 6 = .ok (.iload_n 2, 1) := by decide +kernel
theorem dX5_move_7 : decode cX5_move 7 = .ok (.ifCond .lt 14, 3) := by decide +kernel
theorem dX5_move_10 : decode cX5_move 10 = .ok (.iload_n 2, 1) := by decide +kernel
theorem dX5_move_11 : decode cX5_move 11 = .ok (.aload_n 0, 1) := by decide +kernel
theorem dX5_move_12 : decode cX5_move 12 = .ok (.getfield 16, 3) := by decide +kernel
theorem dX5_move_15 : decode cX5_move 15 = .ok (.invokevirtual 37, 3) := by decide +kernel
theorem dX5_move_18 : decode cX5_move 18 = .ok (.if_icmp .lt 13, 3) := by decide +kernel
theorem dX5_move_21 : decode cX5_move 21 = .ok (.new 41, 3) := by decide +kernel
theorem dX5_move_24 : decode cX5_move 24 = .ok (.dup, 1) := by decide +kernel
theorem dX5_move_25 : decode cX5_move 25 = .ok (.ldc 43, 2) := by decide +kernel
theorem dX5_move_27 : decode cX5_move 27 = .ok (.invokespecial 45, 3) := by decide +kernel
theorem dX5_move_30 : decode cX5_move 30 = .ok (.athrow, 1) := by decide +kernel
theorem dX5_move_31 : decode cX5_move 31 = .ok (.aload_n 0, 1) := by decide +kernel
theorem dX5_move_32 : decode cX5_move 32 = .ok (.aload_n 3, 1) := by decide +kernel
theorem dX5_move_33 : decode cX5_move 33 = .ok (.invokevirtual 97, 3) := by decide +kernel
theorem dX5_move_36 : decode cX5_move 36 = .ok (.istore 4, 2) := by decide +kernel
theorem dX5_move_38 : decode cX5_move 38 = .ok (.aload_n 0, 1) := by decide +kernel
theorem dX5_move_39 : decode cX5_move 39 = .ok (.getfield 16, 3) := by decide +kernel
theorem dX5_move_42 : decode cX5_move 42 = .ok (.iload 4, 2) := by decide +kernel
theorem dX5_move_44 : decode cX5_move 44 = .ok (.invokevirtual 101, 3) := by decide +kernel
theorem dX5_move_47 : decode cX5_move 47 = .ok (.pop, 1) := by decide +kernel
theorem dX5_move_48 : decode cX5_move 48 = .ok (.aload_n 0, 1) := by decide +kernel
theorem dX5_move_49 : decode cX5_move 49 = .ok (.getfield 16, 3) := by decide +kernel
theorem dX5_move_52 : decode cX5_move 52 = .ok (.iload_n 2, 1) := by decide +kernel
theorem dX5_move_53 : decode cX5_move 53 = .ok (.aload_n 3, 1) := by decide +kernel
theorem dX5_move_54 : decode cX5_move 54 = .ok (.invokevirtual 87, 3) := by decide +kernel
theorem dX5_move_57 : decode cX5_move 57 = .ok (.iload 4, 2) := by decide +kernel
theorem dX5_move_59 : decode cX5_move 59 = .ok (.ireturn, 1) := by decide +kernel
theorem dX5_shots_0 : decode cX5_shots 0 = .ok (.aload_n 0, 1) := by decide +kernel
theorem dX5_shots_1 : decode cX5_shots 1 = .ok (.getfield 16, 3) := by decide +kernel
theorem dX5_shots_4 : decode cX5_shots 4 = .ok (.invokevirtual 37, 3) := by decide +kernel
theorem dX5_shots_7 : decode cX5_shots 7 = .ok (.ireturn, 1) := by decide +kernel
theorem dX5_at_0 : decode cX5_at 0 = .ok (.iload_n 1, 1) := by decide +kernel
theorem dX5_at_1 : decode cX5_at 1 = .ok (.ifCond .lt 14, 3) := by decide +kernel
theorem dX5_at_4 : decode cX5_at 4 = .ok (.iload_n 1, 1) := by decide +kernel
theorem dX5_at_5 : decode cX5_at 5 = .ok (.aload_n 0, 1) := by decide +kernel
theorem dX5_at_6 : decode cX5_at 6 = .ok (.getfield 16, 3) := by decide +kernel
theorem dX5_at_9 : decode cX5_at 9 = .ok (.invokevirtual 37, 3) := by decide +kernel
theorem dX5_at_12 : decode cX5_at 12 = .ok (.if_icmp .lt 13, 3) := by decide +kernel
theorem dX5_at_15 : decode cX5_at 15 = .ok (.new 111, 3) := by decide +kernel
theorem dX5_at_18 : decode cX5_at 18 = .ok (.dup, 1) := by decide +kernel
theorem dX5_at_19 : decode cX5_at 19 = .ok (.ldc 113, 2) := by decide +kernel
theorem dX5_at_21 : decode cX5_at 21 = .ok (.invokespecial 115, 3) := by decide +kernel
theorem dX5_at_24 : decode cX5_at 24 = .ok (.athrow, 1) := by decide +kernel
theorem dX5_at_25 : decode cX5_at 25 = .ok (.aload_n 0, 1) := by decide +kernel
theorem dX5_at_26 : decode cX5_at 26 = .ok (.getfield 16, 3) := by decide +kernel
theorem dX5_at_29 : decode cX5_at 29 = .ok (.iload_n 1, 1) := by decide +kernel
theorem dX5_at_30 : decode cX5_at 30 = .ok (.invokevirtual 116, 3) := by decide +kernel
theorem dX5_at_33 : decode cX5_at 33 = .ok (.checkcast 70, 3) := by decide +kernel
theorem dX5_at_36 : decode cX5_at 36 = .ok (.getfield 90, 3) := by decide +kernel
theorem dX5_at_39 : decode cX5_at 39 = .ok (.ireturn, 1) := by decide +kernel
theorem dX5_place_0 : decode cX5_place 0 = .ok (.aload_n 0, 1) := by decide +kernel
theorem dX5_place_1 : decode cX5_place 1 = .ok (.aload_n 0, 1) := by decide +kernel
theorem dX5_place_2 : decode cX5_place 2 = .ok (.iload_n 1, 1) := by decide +kernel
theorem dX5_place_3 : decode cX5_place 3 = .ok (.invokevirtual 93, 3) := by decide +kernel
theorem dX5_place_6 : decode cX5_place 6 = .ok (.invokevirtual 119, 3) := by decide +kernel
theorem dX5_place_9 : decode cX5_place 9 = .ok (.ireturn, 1) := by decide +kernel
theorem dX5_camera_0 : decode cX5_camera 0 = .ok (.aload_n 0, 1) := by decide +kernel
theorem dX5_camera_1 : decode cX5_camera 1 = .ok (.iload_n 1, 1) := by decide +kernel
theorem dX5_camera_2 : decode cX5_camera 2 = .ok (.invokevirtual 93, 3) := by decide +kernel
theorem dX5_camera_5 : decode cX5_camera 5 = .ok (.astore 4, 2) := by decide +kernel
theorem dX5_camera_7 : decode cX5_camera 7 = .ok (.iload_n 2, 1) := by decide +kernel
theorem dX5_camera_8 : decode cX5_camera 8 = .ok (.iload_n 3, 1) := by decide +kernel
theorem dX5_camera_9 : decode cX5_camera 9 = .ok (.invokestatic 29, 3) := by decide +kernel
theorem dX5_camera_12 : decode cX5_camera 12 = .ok (.aload_n 0, 1) := by decide +kernel
theorem dX5_camera_13 : decode cX5_camera 13 = .ok (.aload 4, 2) := by decide +kernel
theorem dX5_camera_15 : decode cX5_camera 15 = .ok (.invokevirtual 122, 3) := by decide +kernel
theorem dX5_camera_18 : decode cX5_camera 18 = .ok (.aload 4, 2) := by decide +kernel
theorem dX5_camera_20 : decode cX5_camera 20 = .ok (.iload_n 2, 1) := by decide +kernel
theorem dX5_camera_21 : decode cX5_camera 21 = .ok (.iload_n 3, 1) := by decide +kernel
theorem dX5_camera_22 : decode cX5_camera 22 = .ok (.invokevirtual 126, 3) := by decide +kernel
theorem dX5_camera_25 : decode cX5_camera 25 = .ok (.aload 4, 2) := by decide +kernel
theorem dX5_camera_27 : decode cX5_camera 27 = .ok (.getfield 105, 3) := by decide +kernel
theorem dX5_camera_30 : decode cX5_camera 30 = .ok (.ireturn, 1) := by decide +kernel
theorem dX5_length_0 : decode cX5_length 0 = .ok (.aload_n 0, 1) := by decide +kernel
theorem dX5_length_1 : decode cX5_length 1 = .ok (.iload_n 1, 1) := by decide +kernel
theorem dX5_length_2 : decode cX5_length 2 = .ok (.invokevirtual 93, 3) := by decide +kernel
theorem dX5_length_5 : decode cX5_length 5 = .ok (.astore_n 3, 1) := by decide +kernel
theorem dX5_length_6 : decode cX5_length 6 = .ok (.iload_n 2, 1) := by decide +kernel
theorem dX5_length_7 : decode cX5_length 7 = .ok (.invokestatic 33, 3) := by decide +kernel
theorem dX5_length_10 : decode cX5_length 10 = .ok (.aload_n 0, 1) := by decide +kernel
theorem dX5_length_11 : decode cX5_length 11 = .ok (.aload_n 3, 1) := by decide +kernel
theorem dX5_length_12 : decode cX5_length 12 = .ok (.invokevirtual 122, 3) := by decide +kernel
theorem dX5_length_15 : decode cX5_length 15 = .ok (.aload_n 3, 1) := by decide +kernel
theorem dX5_length_16 : decode cX5_length 16 = .ok (.iload_n 2, 1) := by decide +kernel
theorem dX5_length_17 : decode cX5_length 17 = .ok (.invokevirtual 129, 3) := by decide +kernel
theorem dX5_length_20 : decode cX5_length 20 = .ok (.ireturn, 1) := by decide +kernel
theorem dX5_stand_0 : decode cX5_stand 0 = .ok (.aload_n 0, 1) := by decide +kernel
theorem dX5_stand_1 : decode cX5_stand 1 = .ok (.iload_n 1, 1) := by decide +kernel
theorem dX5_stand_2 : decode cX5_stand 2 = .ok (.invokevirtual 93, 3) := by decide +kernel
theorem dX5_stand_5 : decode cX5_stand 5 = .ok (.astore 5, 2) := by decide +kernel
theorem dX5_stand_7 : decode cX5_stand 7 = .ok (.iload_n 2, 1) := by decide +kernel
theorem dX5_stand_8 : decode cX5_stand 8 = .ok (.invokestatic 132, 3) := by decide +kernel
theorem dX5_stand_11 : decode cX5_stand 11 = .ok (.iload_n 3, 1) := by decide +kernel
theorem dX5_stand_12 : decode cX5_stand 12 = .ok (.bipush 45, 2) := by decide +kernel
theorem dX5_stand_14 : decode cX5_stand 14 = .ok (.if_icmp .eq 28, 3) := by decide +kernel
theorem dX5_stand_17 : decode cX5_stand 17 = .ok (.iload_n 3, 1) := by decide +kernel
theorem dX5_stand_18 : decode cX5_stand 18 = .ok (.invokestatic 135, 3) := by decide +kernel
theorem dX5_stand_21 : decode cX5_stand 21 = .ok (.ifCond .eq 11, 3) := by decide +kernel
theorem dX5_stand_24 : decode cX5_stand 24 = .ok (.iload 4, 2) := by decide +kernel
theorem dX5_stand_26 : decode cX5_stand 26 = .ok (.invokestatic 135, 3) := by decide +kernel
theorem dX5_stand_29 : decode cX5_stand 29 = .ok (.ifCond .ne 13, 3) := by decide +kernel
theorem dX5_stand_32 : decode cX5_stand 32 = .ok (.new 41, 3) := by decide +kernel
theorem dX5_stand_35 : decode cX5_stand 35 = .ok (.dup, 1) := by decide +kernel
theorem dX5_stand_36 : decode cX5_stand 36 = .ok (.ldc 139, 2) := by decide +kernel
theorem dX5_stand_38 : decode cX5_stand 38 = .ok (.invokespecial 45, 3) := by decide +kernel
theorem dX5_stand_41 : decode cX5_stand 41 = .ok (.athrow, 1) := by decide +kernel
theorem dX5_stand_42 : decode cX5_stand 42 = .ok (.aload_n 0, 1) := by decide +kernel
theorem dX5_stand_43 : decode cX5_stand 43 = .ok (.aload 5, 2) := by decide +kernel
theorem dX5_stand_45 : decode cX5_stand 45 = .ok (.invokevirtual 122, 3) := by decide +kernel
theorem dX5_stand_48 : decode cX5_stand 48 = .ok (.iload_n 3, 1) := by decide +kernel
theorem dX5_stand_49 : decode cX5_stand 49 = .ok (.bipush 45, 2) := by decide +kernel
theorem dX5_stand_51 : decode cX5_stand 51 = .ok (.if_icmp .ne 12, 3) := by decide +kernel
theorem dX5_stand_54 : decode cX5_stand 54 = .ok (.aload 5, 2) := by decide +kernel
theorem dX5_stand_56 : decode cX5_stand 56 = .ok (.iload_n 2, 1) := by decide +kernel
theorem dX5_stand_57 : decode cX5_stand 57 = .ok (.invokevirtual 141, 3) := by decide +kernel
theorem dX5_stand_60 : decode cX5_stand 60 = .ok (.goto 12, 3) := by decide +kernel
theorem dX5_stand_63 : decode cX5_stand 63 = .ok (.aload 5, 2) := by decide +kernel
theorem dX5_stand_65 : decode cX5_stand 65 = .ok (.iload_n 2, 1) := by decide +kernel
theorem dX5_stand_66 : decode cX5_stand 66 = .ok (.iload_n 3, 1) := by decide +kernel
theorem dX5_stand_67 : decode cX5_stand 67 = .ok (.iload 4, 2) := by decide +kernel
theorem dX5_stand_69 : decode cX5_stand 69 = .ok (.invokevirtual 144, 3) := by decide +kernel
theorem dX5_stand_72 : decode cX5_stand 72 = .ok (.aload 5, 2) := by decide +kernel
theorem dX5_stand_74 : decode cX5_stand 74 = .ok (.getfield 148, 3) := by decide +kernel
theorem dX5_stand_77 : decode cX5_stand 77 = .ok (.invokevirtual 152, 3) := by decide +kernel
theorem dX5_stand_80 : decode cX5_stand 80 = .ok (.invokestatic 157, 3) := by decide +kernel
theorem dX5_stand_83 : decode cX5_stand 83 = .ok (.ireturn, 1) := by decide +kernel
theorem dX5_enters_0 : decode cX5_enters 0 = .ok (.aload_n 0, 1) := by decide +kernel
theorem dX5_enters_1 : decode cX5_enters 1 = .ok (.iload_n 1, 1) := by decide +kernel
theorem dX5_enters_2 : decode cX5_enters 2 = .ok (.iload_n 2, 1) := by decide +kernel
theorem dX5_enters_3 : decode cX5_enters 3 = .ok (.iload_n 3, 1) := by decide +kernel
theorem dX5_enters_4 : decode cX5_enters 4 = .ok (.invokevirtual 162, 3) := by decide +kernel
theorem dX5_enters_7 : decode cX5_enters 7 = .ok (.astore 4, 2) := by decide +kernel
theorem dX5_enters_9 : decode cX5_enters 9 = .ok (.aload 4, 2) := by decide +kernel
theorem dX5_enters_11 : decode cX5_enters 11 = .ok (.aload 4, 2) := by decide +kernel
theorem dX5_enters_13 : decode cX5_enters 13 = .ok (.getfield 148, 3) := by decide +kernel
theorem dX5_enters_16 : decode cX5_enters 16 = .ok (.getfield 166, 3) := by decide +kernel
theorem dX5_enters_19 : decode cX5_enters 19 = .ok (.iload_n 2, 1) := by decide +kernel
theorem dX5_enters_20 : decode cX5_enters 20 = .ok (.iload_n 3, 1) := by decide +kernel
theorem dX5_enters_21 : decode cX5_enters 21 = .ok (.invokevirtual 170, 3) := by decide +kernel
theorem dX5_enters_24 : decode cX5_enters 24 = .ok (.ireturn, 1) := by decide +kernel
theorem dX5_leaves_0 : decode cX5_leaves 0 = .ok (.aload_n 0, 1) := by decide +kernel
theorem dX5_leaves_1 : decode cX5_leaves 1 = .ok (.iload_n 1, 1) := by decide +kernel
theorem dX5_leaves_2 : decode cX5_leaves 2 = .ok (.iload_n 2, 1) := by decide +kernel
theorem dX5_leaves_3 : decode cX5_leaves 3 = .ok (.iload_n 3, 1) := by decide +kernel
theorem dX5_leaves_4 : decode cX5_leaves 4 = .ok (.invokevirtual 162, 3) := by decide +kernel
theorem dX5_leaves_7 : decode cX5_leaves 7 = .ok (.astore 4, 2) := by decide +kernel
theorem dX5_leaves_9 : decode cX5_leaves 9 = .ok (.aload 4, 2) := by decide +kernel
theorem dX5_leaves_11 : decode cX5_leaves 11 = .ok (.aload 4, 2) := by decide +kernel
theorem dX5_leaves_13 : decode cX5_leaves 13 = .ok (.getfield 148, 3) := by decide +kernel
theorem dX5_leaves_16 : decode cX5_leaves 16 = .ok (.getfield 174, 3) := by decide +kernel
theorem dX5_leaves_19 : decode cX5_leaves 19 = .ok (.iload_n 2, 1) := by decide +kernel
theorem dX5_leaves_20 : decode cX5_leaves 20 = .ok (.iload_n 3, 1) := by decide +kernel
theorem dX5_leaves_21 : decode cX5_leaves 21 = .ok (.invokevirtual 170, 3) := by decide +kernel
theorem dX5_leaves_24 : decode cX5_leaves 24 = .ok (.ireturn, 1) := by decide +kernel
theorem dX5_version_0 : decode cX5_version 0 = .ok (.aload_n 0, 1) := by decide +kernel
theorem dX5_version_1 : decode cX5_version 1 = .ok (.iload_n 1, 1) := by decide +kernel
theorem dX5_version_2 : decode cX5_version 2 = .ok (.invokevirtual 93, 3) := by decide +kernel
theorem dX5_version_5 : decode cX5_version 5 = .ok (.getfield 105, 3) := by decide +kernel
theorem dX5_version_8 : decode cX5_version 8 = .ok (.ireturn, 1) := by decide +kernel
theorem dX5_time_0 : decode cX5_time 0 = .ok (.aload_n 0, 1) := by decide +kernel
theorem dX5_time_1 : decode cX5_time 1 = .ok (.aload_n 0, 1) := by decide +kernel
theorem dX5_time_2 : decode cX5_time 2 = .ok (.aload_n 0, 1) := by decide +kernel
theorem dX5_time_3 : decode cX5_time 3 = .ok (.iload_n 1, 1) := by decide +kernel
theorem dX5_time_4 : decode cX5_time 4 = .ok (.invokevirtual 93, 3) := by decide +kernel
theorem dX5_time_7 : decode cX5_time 7 = .ok (.invokevirtual 119, 3) := by decide +kernel
theorem dX5_time_10 : decode cX5_time 10 = .ok (.invokevirtual 177, 3) := by decide +kernel
theorem dX5_time_13 : decode cX5_time 13 = .ok (.ireturn, 1) := by decide +kernel
theorem dX5_seen_0 : decode cX5_seen 0 = .ok (.aload_n 0, 1) := by decide +kernel
theorem dX5_seen_1 : decode cX5_seen 1 = .ok (.iload_n 1, 1) := by decide +kernel
theorem dX5_seen_2 : decode cX5_seen 2 = .ok (.invokevirtual 180, 3) := by decide +kernel
theorem dX5_seen_5 : decode cX5_seen 5 = .ok (.istore_n 2, 1) := by decide +kernel
theorem dX5_seen_6 : decode cX5_seen 6 = .ok (.iload_n 2, 1) := by decide +kernel
theorem dX5_seen_7 : decode cX5_seen 7 = .ok (.iconst (-1), 1) := by decide +kernel
theorem dX5_seen_8 : decode cX5_seen 8 = .ok (.if_icmp .ne 13, 3) := by decide +kernel
theorem dX5_seen_11 : decode cX5_seen 11 = .ok (.new 111, 3) := by decide +kernel
theorem dX5_seen_14 : decode cX5_seen 14 = .ok (.dup, 1) := by decide +kernel
theorem dX5_seen_15 : decode cX5_seen 15 = .ok (.ldc 183, 2) := by decide +kernel
theorem dX5_seen_17 : decode cX5_seen 17 = .ok (.invokespecial 115, 3) := by decide +kernel
theorem dX5_seen_20 : decode cX5_seen 20 = .ok (.athrow, 1) := by decide +kernel
theorem dX5_seen_21 : decode cX5_seen 21 = .ok (.iload_n 2, 1) := by decide +kernel
theorem dX5_seen_22 : decode cX5_seen 22 = .ok (.ireturn, 1) := by decide +kernel
theorem dX5_ended_0 : decode cX5_ended 0 = .ok (.iload_n 1, 1) := by decide +kernel
theorem dX5_ended_1 : decode cX5_ended 1 = .ok (.ifCond .lt 10, 3) := by decide +kernel
theorem dX5_ended_4 : decode cX5_ended 4 = .ok (.iload_n 1, 1) := by decide +kernel
theorem dX5_ended_5 : decode cX5_ended 5 = .ok (.sipush 9999, 3) := by decide +kernel
theorem dX5_ended_8 : decode cX5_ended 8 = .ok (.if_icmp .le 13, 3) := by decide +kernel
theorem dX5_ended_11 : decode cX5_ended 11 = .ok (.new 41, 3) := by decide +kernel
theorem dX5_ended_14 : decode cX5_ended 14 = .ok (.dup, 1) := by decide +kernel
theorem dX5_ended_15 : decode cX5_ended 15 = .ok (.ldc 185, 2) := by decide +kernel
theorem dX5_ended_17 : decode cX5_ended 17 = .ok (.invokespecial 45, 3) := by decide +kernel
theorem dX5_ended_20 : decode cX5_ended 20 = .ok (.athrow, 1) := by decide +kernel
theorem dX5_ended_21 : decode cX5_ended 21 = .ok (.iconst 0, 1) := by decide +kernel
theorem dX5_ended_22 : decode cX5_ended 22 = .ok (.istore_n 2, 1) := by decide +kernel
theorem dX5_ended_23 : decode cX5_ended 23 = .ok (.iconst 0, 1) := by decide +kernel
theorem dX5_ended_24 : decode cX5_ended 24 = .ok (.istore_n 3, 1) := by decide +kernel
theorem dX5_ended_25 : decode cX5_ended 25 = .ok (.iconst 0, 1) := by decide +kernel
theorem dX5_ended_26 : decode cX5_ended 26 = .ok (.istore 4, 2) := by decide +kernel
theorem dX5_ended_28 : decode cX5_ended 28 = .ok (.iload 4, 2) := by decide +kernel
theorem dX5_ended_30 : decode cX5_ended 30 = .ok (.aload_n 0, 1) := by decide +kernel
theorem dX5_ended_31 : decode cX5_ended 31 = .ok (.getfield 16, 3) := by decide +kernel
theorem dX5_ended_34 : decode cX5_ended 34 = .ok (.invokevirtual 37, 3) := by decide +kernel
theorem dX5_ended_37 : decode cX5_ended 37 = .ok (.if_icmp .ge 35, 3) := by decide +kernel
theorem dX5_ended_40 : decode cX5_ended 40 = .ok (.iload_n 3, 1) := by decide +kernel
theorem dX5_ended_41 : decode cX5_ended 41 = .ok (.aload_n 0, 1) := by decide +kernel
theorem dX5_ended_42 : decode cX5_ended 42 = .ok (.getfield 16, 3) := by decide +kernel
theorem dX5_ended_45 : decode cX5_ended 45 = .ok (.iload 4, 2) := by decide +kernel
theorem dX5_ended_47 : decode cX5_ended 47 = .ok (.invokevirtual 116, 3) := by decide +kernel
theorem dX5_ended_50 : decode cX5_ended 50 = .ok (.checkcast 70, 3) := by decide +kernel
theorem dX5_ended_53 : decode cX5_ended 53 = .ok (.getfield 187, 3) := by decide +kernel
theorem dX5_ended_56 : decode cX5_ended 56 = .ok (.iadd, 1) := by decide +kernel
theorem dX5_ended_57 : decode cX5_ended 57 = .ok (.istore_n 3, 1) := by decide +kernel
theorem dX5_ended_58 : decode cX5_ended 58 = .ok (.iload_n 3, 1) := by decide +kernel
theorem dX5_ended_59 : decode cX5_ended 59 = .ok (.iload_n 1, 1) := by decide +kernel
theorem dX5_ended_60 : decode cX5_ended 60 = .ok (.if_icmp .gt 6, 3) := by decide +kernel
theorem dX5_ended_63 : decode cX5_ended 63 = .ok (.iinc 2 1, 3) := by decide +kernel
theorem dX5_ended_66 : decode cX5_ended 66 = .ok (.iinc 4 1, 3) := by decide +kernel
theorem dX5_ended_69 : decode cX5_ended 69 = .ok (.goto (-41), 3) := by decide +kernel
theorem dX5_ended_72 : decode cX5_ended 72 = .ok (.iload_n 2, 1) := by decide +kernel
theorem dX5_ended_73 : decode cX5_ended 73 = .ok (.ireturn, 1) := by decide +kernel
theorem dX5_lock_0 : decode cX5_lock 0 = .ok (.aload_n 0, 1) := by decide +kernel
theorem dX5_lock_1 : decode cX5_lock 1 = .ok (.getfield 48, 3) := by decide +kernel
theorem dX5_lock_4 : decode cX5_lock 4 = .ok (.istore_n 1, 1) := by decide +kernel
theorem dX5_lock_5 : decode cX5_lock 5 = .ok (.aload_n 0, 1) := by decide +kernel
theorem dX5_lock_6 : decode cX5_lock 6 = .ok (.getfield 48, 3) := by decide +kernel
theorem dX5_lock_9 : decode cX5_lock 9 = .ok (.ifCond .ne 44, 3) := by decide +kernel
theorem dX5_lock_12 : decode cX5_lock 12 = .ok (.iconst 0, 1) := by decide +kernel
theorem dX5_lock_13 : decode cX5_lock 13 = .ok (.istore_n 2, 1) := by decide +kernel
theorem dX5_lock_14 : decode cX5_lock 14 = .ok (.iload_n 2, 1) := by decide +kernel
theorem dX5_lock_15 : decode cX5_lock 15 = .ok (.aload_n 0, 1) := by decide +kernel
theorem dX5_lock_16 : decode cX5_lock 16 = .ok (.getfield 16, 3) := by decide +kernel
theorem dX5_lock_19 : decode cX5_lock 19 = .ok (.invokevirtual 37, 3) := by decide +kernel
theorem dX5_lock_22 : decode cX5_lock 22 = .ok (.if_icmp .ge 26, 3) := by decide +kernel
theorem dX5_lock_25 : decode cX5_lock 25 = .ok (.aload_n 0, 1) := by decide +kernel
theorem dX5_lock_26 : decode cX5_lock 26 = .ok (.getfield 16, 3) := by decide +kernel
theorem dX5_lock_29 : decode cX5_lock 29 = .ok (.iload_n 2, 1) := by decide +kernel
theorem dX5_lock_30 : decode cX5_lock 30 = .ok (.invokevirtual 116, 3) := by decide +kernel
theorem dX5_lock_33 : decode cX5_lock 33 = .ok (.checkcast 70, 3) := by decide +kernel
theorem dX5_lock_36 : decode cX5_lock 36 = .ok (.iload_n 2, 1) := by decide +kernel
theorem dX5_lock_37 : decode cX5_lock 37 = .ok (.iconst 1, 1) := by decide +kernel
theorem dX5_lock_38 : decode cX5_lock 38 = .ok (.iadd, 1) := by decide +kernel
theorem dX5_lock_39 : decode cX5_lock 39 = .ok (.putfield 75, 3) := by decide +kernel
theorem dX5_lock_42 : decode cX5_lock 42 = .ok (.iinc 2 1, 3) := by decide +kernel
theorem dX5_lock_45 : decode cX5_lock 45 = .ok (.goto (-31), 3) := by decide +kernel
theorem dX5_lock_48 : decode cX5_lock 48 = .ok (.aload_n 0, 1) := by decide +kernel
theorem dX5_lock_49 : decode cX5_lock 49 = .ok (.iconst 1, 1) := by decide +kernel
theorem dX5_lock_50 : decode cX5_lock 50 = .ok (.putfield 48, 3) := by decide +kernel
theorem dX5_lock_53 : decode cX5_lock 53 = .ok (.iload_n 1, 1) := by decide +kernel
theorem dX5_lock_54 : decode cX5_lock 54 = .ok (.ireturn, 1) := by decide +kernel
theorem dX5_number_0 : decode cX5_number 0 = .ok (.aload_n 0, 1) := by decide +kernel
theorem dX5_number_1 : decode cX5_number 1 = .ok (.aload_n 0, 1) := by decide +kernel
theorem dX5_number_2 : decode cX5_number 2 = .ok (.iload_n 1, 1) := by decide +kernel
theorem dX5_number_3 : decode cX5_number 3 = .ok (.invokevirtual 93, 3) := by decide +kernel
theorem dX5_number_6 : decode cX5_number 6 = .ok (.invokevirtual 190, 3) := by decide +kernel
theorem dX5_number_9 : decode cX5_number 9 = .ok (.ireturn, 1) := by decide +kernel
theorem dX5_letter_0 : decode cX5_letter 0 = .ok (.aload_n 0, 1) := by decide +kernel
theorem dX5_letter_1 : decode cX5_letter 1 = .ok (.iload_n 1, 1) := by decide +kernel
theorem dX5_letter_2 : decode cX5_letter 2 = .ok (.invokevirtual 93, 3) := by decide +kernel
theorem dX5_letter_5 : decode cX5_letter 5 = .ok (.astore_n 2, 1) := by decide +kernel
theorem dX5_letter_6 : decode cX5_letter 6 = .ok (.aload_n 0, 1) := by decide +kernel
theorem dX5_letter_7 : decode cX5_letter 7 = .ok (.aload_n 2, 1) := by decide +kernel
theorem dX5_letter_8 : decode cX5_letter 8 = .ok (.invokevirtual 190, 3) := by decide +kernel
theorem dX5_letter_11 : decode cX5_letter 11 = .ok (.pop, 1) := by decide +kernel
theorem dX5_letter_12 : decode cX5_letter 12 = .ok (.aload_n 2, 1) := by decide +kernel
theorem dX5_letter_13 : decode cX5_letter 13 = .ok (.getfield 79, 3) := by decide +kernel
theorem dX5_letter_16 : decode cX5_letter 16 = .ok (.ireturn, 1) := by decide +kernel
theorem dX5_named_0 : decode cX5_named 0 = .ok (.iconst 0, 1) := by decide +kernel
theorem dX5_named_1 : decode cX5_named 1 = .ok (.istore_n 3, 1) := by decide +kernel
theorem dX5_named_2 : decode cX5_named 2 = .ok (.iload_n 3, 1) := by decide +kernel
theorem dX5_named_3 : decode cX5_named 3 = .ok (.aload_n 0, 1) := by decide +kernel
theorem dX5_named_4 : decode cX5_named 4 = .ok (.getfield 16, 3) := by decide +kernel
theorem dX5_named_7 : decode cX5_named 7 = .ok (.invokevirtual 37, 3) := by decide +kernel
theorem dX5_named_10 : decode cX5_named 10 = .ok (.if_icmp .ge 47, 3) := by decide +kernel
theorem dX5_named_13 : decode cX5_named 13 = .ok (.aload_n 0, 1) := by decide +kernel
theorem dX5_named_14 : decode cX5_named 14 = .ok (.getfield 16, 3) := by decide +kernel
theorem dX5_named_17 : decode cX5_named 17 = .ok (.iload_n 3, 1) := by decide +kernel
theorem dX5_named_18 : decode cX5_named 18 = .ok (.invokevirtual 116, 3) := by decide +kernel
theorem dX5_named_21 : decode cX5_named 21 = .ok (.checkcast 70, 3) := by decide +kernel
theorem dX5_named_24 : decode cX5_named 24 = .ok (.astore 4, 2) := by decide +kernel
theorem dX5_named_26 : decode cX5_named 26 = .ok (.aload_n 0, 1) := by decide +kernel
theorem dX5_named_27 : decode cX5_named 27 = .ok (.aload 4, 2) := by decide +kernel
theorem dX5_named_29 : decode cX5_named 29 = .ok (.invokevirtual 193, 3) := by decide +kernel
theorem dX5_named_32 : decode cX5_named 32 = .ok (.iload_n 1, 1) := by decide +kernel
theorem dX5_named_33 : decode cX5_named 33 = .ok (.if_icmp .ne 18, 3) := by decide +kernel
theorem dX5_named_36 : decode cX5_named 36 = .ok (.aload 4, 2) := by decide +kernel
theorem dX5_named_38 : decode cX5_named 38 = .ok (.getfield 79, 3) := by decide +kernel
theorem dX5_named_41 : decode cX5_named 41 = .ok (.iload_n 2, 1) := by decide +kernel
theorem dX5_named_42 : decode cX5_named 42 = .ok (.if_icmp .ne 9, 3) := by decide +kernel
theorem dX5_named_45 : decode cX5_named 45 = .ok (.aload 4, 2) := by decide +kernel
theorem dX5_named_47 : decode cX5_named 47 = .ok (.getfield 90, 3) := by decide +kernel
theorem dX5_named_50 : decode cX5_named 50 = .ok (.ireturn, 1) := by decide +kernel
theorem dX5_named_51 : decode cX5_named 51 = .ok (.iinc 3 1, 3) := by decide +kernel
theorem dX5_named_54 : decode cX5_named 54 = .ok (.goto (-52), 3) := by decide +kernel
theorem dX5_named_57 : decode cX5_named 57 = .ok (.new 111, 3) := by decide +kernel
theorem dX5_named_60 : decode cX5_named 60 = .ok (.dup, 1) := by decide +kernel
theorem dX5_named_61 : decode cX5_named 61 = .ok (.ldc 196, 2) := by decide +kernel
theorem dX5_named_63 : decode cX5_named 63 = .ok (.invokespecial 115, 3) := by decide +kernel
theorem dX5_named_66 : decode cX5_named 66 = .ok (.athrow, 1) := by decide +kernel
theorem dX5_wrong_0 : decode cX5_wrong 0 = .ok (.aload_n 0, 1) := by decide +kernel
theorem dX5_wrong_1 : decode cX5_wrong 1 = .ok (.iload_n 1, 1) := by decide +kernel
theorem dX5_wrong_2 : decode cX5_wrong 2 = .ok (.invokevirtual 198, 3) := by decide +kernel
theorem dX5_wrong_5 : decode cX5_wrong 5 = .ok (.aload_n 0, 1) := by decide +kernel
theorem dX5_wrong_6 : decode cX5_wrong 6 = .ok (.getfield 16, 3) := by decide +kernel
theorem dX5_wrong_9 : decode cX5_wrong 9 = .ok (.iload_n 1, 1) := by decide +kernel
theorem dX5_wrong_10 : decode cX5_wrong 10 = .ok (.iconst 1, 1) := by decide +kernel
theorem dX5_wrong_11 : decode cX5_wrong 11 = .ok (.isub, 1) := by decide +kernel
theorem dX5_wrong_12 : decode cX5_wrong 12 = .ok (.invokevirtual 116, 3) := by decide +kernel
theorem dX5_wrong_15 : decode cX5_wrong 15 = .ok (.checkcast 70, 3) := by decide +kernel
theorem dX5_wrong_18 : decode cX5_wrong 18 = .ok (.aload_n 0, 1) := by decide +kernel
theorem dX5_wrong_19 : decode cX5_wrong 19 = .ok (.getfield 16, 3) := by decide +kernel
theorem dX5_wrong_22 : decode cX5_wrong 22 = .ok (.iload_n 1, 1) := by decide +kernel
theorem dX5_wrong_23 : decode cX5_wrong 23 = .ok (.invokevirtual 116, 3) := by decide +kernel
theorem dX5_wrong_26 : decode cX5_wrong 26 = .ok (.checkcast 70, 3) := by decide +kernel
theorem dX5_wrong_29 : decode cX5_wrong 29 = .ok (.invokestatic 201, 3) := by decide +kernel
theorem dX5_wrong_32 : decode cX5_wrong 32 = .ok (.ireturn, 1) := by decide +kernel
theorem dX5_excuse_0 : decode cX5_excuse 0 = .ok (.iload_n 2, 1) := by decide +kernel
theorem dX5_excuse_1 : decode cX5_excuse 1 = .ok (.bipush 120, 2) := by decide +kernel
theorem dX5_excuse_3 : decode cX5_excuse 3 = .ok (.if_icmp .eq 37, 3) := by decide +kernel
theorem dX5_excuse_6 : decode cX5_excuse 6 = .ok (.iload_n 2, 1) := by decide +kernel
theorem dX5_excuse_7 : decode cX5_excuse 7 = .ok (.bipush 106, 2) := by decide +kernel
theorem dX5_excuse_9 : decode cX5_excuse 9 = .ok (.if_icmp .eq 31, 3) := by decide +kernel
theorem dX5_excuse_12 : decode cX5_excuse 12 = .ok (.iload_n 2, 1) := by decide +kernel
theorem dX5_excuse_13 : decode cX5_excuse 13 = .ok (.bipush 103, 2) := by decide +kernel
theorem dX5_excuse_15 : decode cX5_excuse 15 = .ok (.if_icmp .eq 25, 3) := by decide +kernel
theorem dX5_excuse_18 : decode cX5_excuse 18 = .ok (.iload_n 2, 1) := by decide +kernel
theorem dX5_excuse_19 : decode cX5_excuse 19 = .ok (.bipush 101, 2) := by decide +kernel
theorem dX5_excuse_21 : decode cX5_excuse 21 = .ok (.if_icmp .eq 19, 3) := by decide +kernel
theorem dX5_excuse_24 : decode cX5_excuse 24 = .ok (.iload_n 2, 1) := by decide +kernel
theorem dX5_excuse_25 : decode cX5_excuse 25 = .ok (.bipush 109, 2) := by decide +kernel
theorem dX5_excuse_27 : decode cX5_excuse 27 = .ok (.if_icmp .eq 13, 3) := by decide +kernel
theorem dX5_excuse_30 : decode cX5_excuse 30 = .ok (.new 41, 3) := by decide +kernel
theorem dX5_excuse_33 : decode cX5_excuse 33 = .ok (.dup, 1) := by decide +kernel
theorem dX5_excuse_34 : decode cX5_excuse 34 = .ok (.ldc 205, 2) := by decide +kernel
theorem dX5_excuse_36 : decode cX5_excuse 36 = .ok (.invokespecial 45, 3) := by decide +kernel
theorem dX5_excuse_39 : decode cX5_excuse 39 = .ok (.athrow, 1) := by decide +kernel
theorem dX5_excuse_40 : decode cX5_excuse 40 = .ok (.aload_n 0, 1) := by decide +kernel
theorem dX5_excuse_41 : decode cX5_excuse 41 = .ok (.iload_n 1, 1) := by decide +kernel
theorem dX5_excuse_42 : decode cX5_excuse 42 = .ok (.invokevirtual 198, 3) := by decide +kernel
theorem dX5_excuse_45 : decode cX5_excuse 45 = .ok (.aload_n 0, 1) := by decide +kernel
theorem dX5_excuse_46 : decode cX5_excuse 46 = .ok (.getfield 16, 3) := by decide +kernel
theorem dX5_excuse_49 : decode cX5_excuse 49 = .ok (.iload_n 1, 1) := by decide +kernel
theorem dX5_excuse_50 : decode cX5_excuse 50 = .ok (.iconst 1, 1) := by decide +kernel
theorem dX5_excuse_51 : decode cX5_excuse 51 = .ok (.isub, 1) := by decide +kernel
theorem dX5_excuse_52 : decode cX5_excuse 52 = .ok (.invokevirtual 116, 3) := by decide +kernel
theorem dX5_excuse_55 : decode cX5_excuse 55 = .ok (.checkcast 70, 3) := by decide +kernel
theorem dX5_excuse_58 : decode cX5_excuse 58 = .ok (.astore_n 3, 1) := by decide +kernel
theorem dX5_excuse_59 : decode cX5_excuse 59 = .ok (.aload_n 0, 1) := by decide +kernel
theorem dX5_excuse_60 : decode cX5_excuse 60 = .ok (.getfield 16, 3) := by decide +kernel
theorem dX5_excuse_63 : decode cX5_excuse 63 = .ok (.iload_n 1, 1) := by decide +kernel
theorem dX5_excuse_64 : decode cX5_excuse 64 = .ok (.invokevirtual 116, 3) := by decide +kernel
theorem dX5_excuse_67 : decode cX5_excuse 67 = .ok (.checkcast 70, 3) := by decide +kernel
theorem dX5_excuse_70 : decode cX5_excuse 70 = .ok (.astore 4, 2) := by decide +kernel
theorem dX5_excuse_72 : decode cX5_excuse 72 = .ok (.aload 4, 2) := by decide +kernel
theorem dX5_excuse_74 : decode cX5_excuse 74 = .ok (.aload_n 3, 1) := by decide +kernel
theorem dX5_excuse_75 : decode cX5_excuse 75 = .ok (.invokevirtual 207, 3) := by decide +kernel
theorem dX5_excuse_78 : decode cX5_excuse 78 = .ok (.istore 5, 2) := by decide +kernel
theorem dX5_excuse_80 : decode cX5_excuse 80 = .ok (.aload 4, 2) := by decide +kernel
theorem dX5_excuse_82 : decode cX5_excuse 82 = .ok (.getfield 211, 3) := by decide +kernel
theorem dX5_excuse_85 : decode cX5_excuse 85 = .ok (.iload_n 2, 1) := by decide +kernel
theorem dX5_excuse_86 : decode cX5_excuse 86 = .ok (.aload 4, 2) := by decide +kernel
theorem dX5_excuse_88 : decode cX5_excuse 88 = .ok (.aload_n 3, 1) := by decide +kernel
theorem dX5_excuse_89 : decode cX5_excuse 89 = .ok (.invokevirtual 215, 3) := by decide +kernel
theorem dX5_excuse_92 : decode cX5_excuse 92 = .ok (.iload 5, 2) := by decide +kernel
theorem dX5_excuse_94 : decode cX5_excuse 94 = .ok (.ireturn, 1) := by decide +kernel
theorem dX5_isBroken_0 : decode cX5_isBroken 0 = .ok (.aload_n 0, 1) := by decide +kernel
theorem dX5_isBroken_1 : decode cX5_isBroken 1 = .ok (.iload_n 1, 1) := by decide +kernel
theorem dX5_isBroken_2 : decode cX5_isBroken 2 = .ok (.invokevirtual 198, 3) := by decide +kernel
theorem dX5_isBroken_5 : decode cX5_isBroken 5 = .ok (.aload_n 0, 1) := by decide +kernel
theorem dX5_isBroken_6 : decode cX5_isBroken 6 = .ok (.getfield 16, 3) := by decide +kernel
theorem dX5_isBroken_9 : decode cX5_isBroken 9 = .ok (.iload_n 1, 1) := by decide +kernel
theorem dX5_isBroken_10 : decode cX5_isBroken 10 = .ok (.iconst 1, 1) := by decide +kernel
theorem dX5_isBroken_11 : decode cX5_isBroken 11 = .ok (.isub, 1) := by decide +kernel
theorem dX5_isBroken_12 : decode cX5_isBroken 12 = .ok (.invokevirtual 116, 3) := by decide +kernel
theorem dX5_isBroken_15 : decode cX5_isBroken 15 = .ok (.checkcast 70, 3) := by decide +kernel
theorem dX5_isBroken_18 : decode cX5_isBroken 18 = .ok (.aload_n 0, 1) := by decide +kernel
theorem dX5_isBroken_19 : decode cX5_isBroken 19 = .ok (.getfield 16, 3) := by decide +kernel
theorem dX5_isBroken_22 : decode cX5_isBroken 22 = .ok (.iload_n 1, 1) := by decide +kernel
theorem dX5_isBroken_23 : decode cX5_isBroken 23 = .ok (.invokevirtual 116, 3) := by decide +kernel
theorem dX5_isBroken_26 : decode cX5_isBroken 26 = .ok (.checkcast 70, 3) := by decide +kernel
theorem dX5_isBroken_29 : decode cX5_isBroken 29 = .ok (.invokestatic 221, 3) := by decide +kernel
theorem dX5_isBroken_32 : decode cX5_isBroken 32 = .ok (.ireturn, 1) := by decide +kernel
theorem dX5_broken_0 : decode cX5_broken 0 = .ok (.aload_n 0, 1) := by decide +kernel
theorem dX5_broken_1 : decode cX5_broken 1 = .ok (.invokevirtual 225, 3) := by decide +kernel
theorem dX5_broken_4 : decode cX5_broken 4 = .ok (.ireturn, 1) := by decide +kernel
theorem dX5_hand_0 : decode cX5_hand 0 = .ok (.aload_n 0, 1) := by decide +kernel
theorem dX5_hand_1 : decode cX5_hand 1 = .ok (.iload_n 1, 1) := by decide +kernel
theorem dX5_hand_2 : decode cX5_hand 2 = .ok (.invokevirtual 93, 3) := by decide +kernel
theorem dX5_hand_5 : decode cX5_hand 5 = .ok (.astore_n 3, 1) := by decide +kernel
theorem dX5_hand_6 : decode cX5_hand 6 = .ok (.iload_n 2, 1) := by decide +kernel
theorem dX5_hand_7 : decode cX5_hand 7 = .ok (.ifCond .lt 8, 3) := by decide +kernel
theorem dX5_hand_10 : decode cX5_hand 10 = .ok (.iload_n 2, 1) := by decide +kernel
theorem dX5_hand_11 : decode cX5_hand 11 = .ok (.iconst 4, 1) := by decide +kernel
theorem dX5_hand_12 : decode cX5_hand 12 = .ok (.if_icmp .lt 13, 3) := by decide +kernel
theorem dX5_hand_15 : decode cX5_hand 15 = .ok (.new 41, 3) := by decide +kernel
theorem dX5_hand_18 : decode cX5_hand 18 = .ok (.dup, 1) := by decide +kernel
theorem dX5_hand_19 : decode cX5_hand 19 = .ok (.ldc 228, 2) := by decide +kernel
theorem dX5_hand_21 : decode cX5_hand 21 = .ok (.invokespecial 45, 3) := by decide +kernel
theorem dX5_hand_24 : decode cX5_hand 24 = .ok (.athrow, 1) := by decide +kernel
theorem dX5_hand_25 : decode cX5_hand 25 = .ok (.aload_n 0, 1) := by decide +kernel
theorem dX5_hand_26 : decode cX5_hand 26 = .ok (.aload_n 3, 1) := by decide +kernel
theorem dX5_hand_27 : decode cX5_hand 27 = .ok (.invokevirtual 122, 3) := by decide +kernel
theorem dX5_hand_30 : decode cX5_hand 30 = .ok (.aload_n 3, 1) := by decide +kernel
theorem dX5_hand_31 : decode cX5_hand 31 = .ok (.getfield 108, 3) := by decide +kernel
theorem dX5_hand_34 : decode cX5_hand 34 = .ok (.iconst (-1), 1) := by decide +kernel
theorem dX5_hand_35 : decode cX5_hand 35 = .ok (.if_icmp .eq 13, 3) := by decide +kernel
theorem dX5_hand_38 : decode cX5_hand 38 = .ok (.new 60, 3) := by decide +kernel
theorem dX5_hand_41 : decode cX5_hand 41 = .ok (.dup, 1) := by decide +kernel
theorem dX5_hand_42 : decode cX5_hand 42 = .ok (.ldc 230, 2) := by decide +kernel
theorem dX5_hand_44 : decode cX5_hand 44 = .ok (.invokespecial 64, 3) := by decide +kernel
theorem dX5_hand_47 : decode cX5_hand 47 = .ok (.athrow, 1) := by decide +kernel
theorem dX5_hand_48 : decode cX5_hand 48 = .ok (.aload_n 3, 1) := by decide +kernel
theorem dX5_hand_49 : decode cX5_hand 49 = .ok (.iload_n 2, 1) := by decide +kernel
theorem dX5_hand_50 : decode cX5_hand 50 = .ok (.putfield 108, 3) := by decide +kernel
theorem dX5_hand_53 : decode cX5_hand 53 = .ok (.aload_n 3, 1) := by decide +kernel
theorem dX5_hand_54 : decode cX5_hand 54 = .ok (.aload_n 3, 1) := by decide +kernel
theorem dX5_hand_55 : decode cX5_hand 55 = .ok (.getfield 105, 3) := by decide +kernel
theorem dX5_hand_58 : decode cX5_hand 58 = .ok (.putfield 232, 3) := by decide +kernel
theorem dX5_hand_61 : decode cX5_hand 61 = .ok (.aload_n 0, 1) := by decide +kernel
theorem dX5_hand_62 : decode cX5_hand 62 = .ok (.iload_n 2, 1) := by decide +kernel
theorem dX5_hand_63 : decode cX5_hand 63 = .ok (.invokevirtual 235, 3) := by decide +kernel
theorem dX5_hand_66 : decode cX5_hand 66 = .ok (.ireturn, 1) := by decide +kernel
theorem dX5_bring_0 : decode cX5_bring 0 = .ok (.aload_n 0, 1) := by decide +kernel
theorem dX5_bring_1 : decode cX5_bring 1 = .ok (.iload_n 1, 1) := by decide +kernel
theorem dX5_bring_2 : decode cX5_bring 2 = .ok (.invokevirtual 93, 3) := by decide +kernel
theorem dX5_bring_5 : decode cX5_bring 5 = .ok (.astore_n 3, 1) := by decide +kernel
theorem dX5_bring_6 : decode cX5_bring 6 = .ok (.iload_n 2, 1) := by decide +kernel
theorem dX5_bring_7 : decode cX5_bring 7 = .ok (.invokestatic 33, 3) := by decide +kernel
theorem dX5_bring_10 : decode cX5_bring 10 = .ok (.aload_n 3, 1) := by decide +kernel
theorem dX5_bring_11 : decode cX5_bring 11 = .ok (.getfield 108, 3) := by decide +kernel
theorem dX5_bring_14 : decode cX5_bring 14 = .ok (.iconst (-1), 1) := by decide +kernel
theorem dX5_bring_15 : decode cX5_bring 15 = .ok (.if_icmp .ne 13, 3) := by decide +kernel
theorem dX5_bring_18 : decode cX5_bring 18 = .ok (.new 60, 3) := by decide +kernel
theorem dX5_bring_21 : decode cX5_bring 21 = .ok (.dup, 1) := by decide +kernel
theorem dX5_bring_22 : decode cX5_bring 22 = .ok (.ldc 238, 2) := by decide +kernel
theorem dX5_bring_24 : decode cX5_bring 24 = .ok (.invokespecial 64, 3) := by decide +kernel
theorem dX5_bring_27 : decode cX5_bring 27 = .ok (.athrow, 1) := by decide +kernel
theorem dX5_bring_28 : decode cX5_bring 28 = .ok (.aload_n 3, 1) := by decide +kernel
theorem dX5_bring_29 : decode cX5_bring 29 = .ok (.iconst (-1), 1) := by decide +kernel
theorem dX5_bring_30 : decode cX5_bring 30 = .ok (.putfield 108, 3) := by decide +kernel
theorem dX5_bring_33 : decode cX5_bring 33 = .ok (.aload_n 3, 1) := by decide +kernel
theorem dX5_bring_34 : decode cX5_bring 34 = .ok (.getfield 105, 3) := by decide +kernel
theorem dX5_bring_37 : decode cX5_bring 37 = .ok (.aload_n 3, 1) := by decide +kernel
theorem dX5_bring_38 : decode cX5_bring 38 = .ok (.getfield 232, 3) := by decide +kernel
theorem dX5_bring_41 : decode cX5_bring 41 = .ok (.if_icmp .eq 15, 3) := by decide +kernel
theorem dX5_bring_44 : decode cX5_bring 44 = .ok (.aload_n 0, 1) := by decide +kernel
theorem dX5_bring_45 : decode cX5_bring 45 = .ok (.dup, 1) := by decide +kernel
theorem dX5_bring_46 : decode cX5_bring 46 = .ok (.getfield 240, 3) := by decide +kernel
theorem dX5_bring_49 : decode cX5_bring 49 = .ok (.iconst 1, 1) := by decide +kernel
theorem dX5_bring_50 : decode cX5_bring 50 = .ok (.iadd, 1) := by decide +kernel
theorem dX5_bring_51 : decode cX5_bring 51 = .ok (.putfield 240, 3) := by decide +kernel
theorem dX5_bring_54 : decode cX5_bring 54 = .ok (.iconst 0, 1) := by decide +kernel
theorem dX5_bring_55 : decode cX5_bring 55 = .ok (.ireturn, 1) := by decide +kernel
theorem dX5_bring_56 : decode cX5_bring 56 = .ok (.aload_n 3, 1) := by decide +kernel
theorem dX5_bring_57 : decode cX5_bring 57 = .ok (.iload_n 2, 1) := by decide +kernel
theorem dX5_bring_58 : decode cX5_bring 58 = .ok (.invokevirtual 129, 3) := by decide +kernel
theorem dX5_bring_61 : decode cX5_bring 61 = .ok (.pop, 1) := by decide +kernel
theorem dX5_bring_62 : decode cX5_bring 62 = .ok (.iconst 1, 1) := by decide +kernel
theorem dX5_bring_63 : decode cX5_bring 63 = .ok (.ireturn, 1) := by decide +kernel
theorem dX5_with_0 : decode cX5_with 0 = .ok (.aload_n 0, 1) := by decide +kernel
theorem dX5_with_1 : decode cX5_with 1 = .ok (.iload_n 1, 1) := by decide +kernel
theorem dX5_with_2 : decode cX5_with 2 = .ok (.invokevirtual 93, 3) := by decide +kernel
theorem dX5_with_5 : decode cX5_with 5 = .ok (.astore_n 2, 1) := by decide +kernel
theorem dX5_with_6 : decode cX5_with 6 = .ok (.aload_n 2, 1) := by decide +kernel
theorem dX5_with_7 : decode cX5_with 7 = .ok (.getfield 108, 3) := by decide +kernel
theorem dX5_with_10 : decode cX5_with 10 = .ok (.iconst (-1), 1) := by decide +kernel
theorem dX5_with_11 : decode cX5_with 11 = .ok (.if_icmp .ne 13, 3) := by decide +kernel
theorem dX5_with_14 : decode cX5_with 14 = .ok (.new 111, 3) := by decide +kernel
theorem dX5_with_17 : decode cX5_with 17 = .ok (.dup, 1) := by decide +kernel
theorem dX5_with_18 : decode cX5_with 18 = .ok (.ldc 238, 2) := by decide +kernel
theorem dX5_with_20 : decode cX5_with 20 = .ok (.invokespecial 115, 3) := by decide +kernel
theorem dX5_with_23 : decode cX5_with 23 = .ok (.athrow, 1) := by decide +kernel
theorem dX5_with_24 : decode cX5_with 24 = .ok (.aload_n 2, 1) := by decide +kernel
theorem dX5_with_25 : decode cX5_with 25 = .ok (.getfield 108, 3) := by decide +kernel
theorem dX5_with_28 : decode cX5_with 28 = .ok (.ireturn, 1) := by decide +kernel
theorem dX5_conflicts_0 : decode cX5_conflicts 0 = .ok (.aload_n 0, 1) := by decide +kernel
theorem dX5_conflicts_1 : decode cX5_conflicts 1 = .ok (.getfield 240, 3) := by decide +kernel
theorem dX5_conflicts_4 : decode cX5_conflicts 4 = .ok (.ireturn, 1) := by decide +kernel
theorem dX5_note_0 : decode cX5_note 0 = .ok (.aload_n 0, 1) := by decide +kernel
theorem dX5_note_1 : decode cX5_note 1 = .ok (.iload_n 1, 1) := by decide +kernel
theorem dX5_note_2 : decode cX5_note 2 = .ok (.invokevirtual 93, 3) := by decide +kernel
theorem dX5_note_5 : decode cX5_note 5 = .ok (.astore_n 2, 1) := by decide +kernel
theorem dX5_note_6 : decode cX5_note 6 = .ok (.aload_n 0, 1) := by decide +kernel
theorem dX5_note_7 : decode cX5_note 7 = .ok (.aload_n 2, 1) := by decide +kernel
theorem dX5_note_8 : decode cX5_note 8 = .ok (.invokevirtual 122, 3) := by decide +kernel
theorem dX5_note_11 : decode cX5_note 11 = .ok (.aload_n 0, 1) := by decide +kernel
theorem dX5_note_12 : decode cX5_note 12 = .ok (.getfield 19, 3) := by decide +kernel
theorem dX5_note_15 : decode cX5_note 15 = .ok (.invokevirtual 37, 3) := by decide +kernel
theorem dX5_note_18 : decode cX5_note 18 = .ok (.bipush 40, 2) := by decide +kernel
theorem dX5_note_20 : decode cX5_note 20 = .ok (.if_icmp .lt 13, 3) := by decide +kernel
theorem dX5_note_23 : decode cX5_note 23 = .ok (.new 65, 3) := by decide +kernel
theorem dX5_note_26 : decode cX5_note 26 = .ok (.dup, 1) := by decide +kernel
theorem dX5_note_27 : decode cX5_note 27 = .ok (.ldc 243, 2) := by decide +kernel
theorem dX5_note_29 : decode cX5_note 29 = .ok (.invokespecial 69, 3) := by decide +kernel
theorem dX5_note_32 : decode cX5_note 32 = .ok (.athrow, 1) := by decide +kernel
theorem dX5_note_33 : decode cX5_note 33 = .ok (.aload_n 0, 1) := by decide +kernel
theorem dX5_note_34 : decode cX5_note 34 = .ok (.getfield 19, 3) := by decide +kernel
theorem dX5_note_37 : decode cX5_note 37 = .ok (.new 245, 3) := by decide +kernel
theorem dX5_note_40 : decode cX5_note 40 = .ok (.dup, 1) := by decide +kernel
theorem dX5_note_41 : decode cX5_note 41 = .ok (.aload_n 2, 1) := by decide +kernel
theorem dX5_note_42 : decode cX5_note 42 = .ok (.invokespecial 247, 3) := by decide +kernel
theorem dX5_note_45 : decode cX5_note 45 = .ok (.invokevirtual 83, 3) := by decide +kernel
theorem dX5_note_48 : decode cX5_note 48 = .ok (.pop, 1) := by decide +kernel
theorem dX5_note_49 : decode cX5_note 49 = .ok (.aload_n 0, 1) := by decide +kernel
theorem dX5_note_50 : decode cX5_note 50 = .ok (.getfield 19, 3) := by decide +kernel
theorem dX5_note_53 : decode cX5_note 53 = .ok (.invokevirtual 37, 3) := by decide +kernel
theorem dX5_note_56 : decode cX5_note 56 = .ok (.iconst 1, 1) := by decide +kernel
theorem dX5_note_57 : decode cX5_note 57 = .ok (.isub, 1) := by decide +kernel
theorem dX5_note_58 : decode cX5_note 58 = .ok (.ireturn, 1) := by decide +kernel
theorem dX5_noteIs_0 : decode cX5_noteIs 0 = .ok (.aload_n 0, 1) := by decide +kernel
theorem dX5_noteIs_1 : decode cX5_noteIs 1 = .ok (.iload_n 1, 1) := by decide +kernel
theorem dX5_noteIs_2 : decode cX5_noteIs 2 = .ok (.invokevirtual 249, 3) := by decide +kernel
theorem dX5_noteIs_5 : decode cX5_noteIs 5 = .ok (.invokevirtual 253, 3) := by decide +kernel
theorem dX5_noteIs_8 : decode cX5_noteIs 8 = .ok (.ireturn, 1) := by decide +kernel
theorem dX5_close_0 : decode cX5_close 0 = .ok (.aload_n 0, 1) := by decide +kernel
theorem dX5_close_1 : decode cX5_close 1 = .ok (.iload_n 1, 1) := by decide +kernel
theorem dX5_close_2 : decode cX5_close 2 = .ok (.invokevirtual 249, 3) := by decide +kernel
theorem dX5_close_5 : decode cX5_close 5 = .ok (.astore_n 3, 1) := by decide +kernel
theorem dX5_close_6 : decode cX5_close 6 = .ok (.aload_n 3, 1) := by decide +kernel
theorem dX5_close_7 : decode cX5_close 7 = .ok (.invokevirtual 253, 3) := by decide +kernel
theorem dX5_close_10 : decode cX5_close 10 = .ok (.bipush 111, 2) := by decide +kernel
theorem dX5_close_12 : decode cX5_close 12 = .ok (.if_icmp .eq 14, 3) := by decide +kernel
theorem dX5_close_15 : decode cX5_close 15 = .ok (.new 60, 3) := by decide +kernel
theorem dX5_close_18 : decode cX5_close 18 = .ok (.dup, 1) := by decide +kernel
theorem dX5_close_19 : decode cX5_close 19 = .ok (.ldc_w 257, 3) := by decide +kernel
theorem dX5_close_22 : decode cX5_close 22 = .ok (.invokespecial 64, 3) := by decide +kernel
theorem dX5_close_25 : decode cX5_close 25 = .ok (.athrow, 1) := by decide +kernel
theorem dX5_close_26 : decode cX5_close 26 = .ok (.aload_n 3, 1) := by decide +kernel
theorem dX5_close_27 : decode cX5_close 27 = .ok (.iload_n 2, 1) := by decide +kernel
theorem dX5_close_28 : decode cX5_close 28 = .ok (.ifCond .eq 8, 3) := by decide +kernel
theorem dX5_close_31 : decode cX5_close 31 = .ok (.bipush 100, 2) := by decide +kernel
theorem dX5_close_33 : decode cX5_close 33 = .ok (.goto 5, 3) := by decide +kernel
theorem dX5_close_36 : decode cX5_close 36 = .ok (.bipush 114, 2) := by decide +kernel
theorem dX5_close_38 : decode cX5_close 38 = .ok (.putfield 259, 3) := by decide +kernel
theorem dX5_close_41 : decode cX5_close 41 = .ok (.iconst 1, 1) := by decide +kernel
theorem dX5_close_42 : decode cX5_close 42 = .ok (.ireturn, 1) := by decide +kernel
theorem dX5_renew_0 : decode cX5_renew 0 = .ok (.aload_n 0, 1) := by decide +kernel
theorem dX5_renew_1 : decode cX5_renew 1 = .ok (.iload_n 1, 1) := by decide +kernel
theorem dX5_renew_2 : decode cX5_renew 2 = .ok (.invokevirtual 249, 3) := by decide +kernel
theorem dX5_renew_5 : decode cX5_renew 5 = .ok (.astore_n 2, 1) := by decide +kernel
theorem dX5_renew_6 : decode cX5_renew 6 = .ok (.aload_n 2, 1) := by decide +kernel
theorem dX5_renew_7 : decode cX5_renew 7 = .ok (.invokevirtual 253, 3) := by decide +kernel
theorem dX5_renew_10 : decode cX5_renew 10 = .ok (.bipush 115, 2) := by decide +kernel
theorem dX5_renew_12 : decode cX5_renew 12 = .ok (.if_icmp .eq 14, 3) := by decide +kernel
theorem dX5_renew_15 : decode cX5_renew 15 = .ok (.new 60, 3) := by decide +kernel
theorem dX5_renew_18 : decode cX5_renew 18 = .ok (.dup, 1) := by decide +kernel
theorem dX5_renew_19 : decode cX5_renew 19 = .ok (.ldc_w 262, 3) := by decide +kernel
theorem dX5_renew_22 : decode cX5_renew 22 = .ok (.invokespecial 64, 3) := by decide +kernel
theorem dX5_renew_25 : decode cX5_renew 25 = .ok (.athrow, 1) := by decide +kernel
theorem dX5_renew_26 : decode cX5_renew 26 = .ok (.aload_n 0, 1) := by decide +kernel
theorem dX5_renew_27 : decode cX5_renew 27 = .ok (.aload_n 2, 1) := by decide +kernel
theorem dX5_renew_28 : decode cX5_renew 28 = .ok (.getfield 264, 3) := by decide +kernel
theorem dX5_renew_31 : decode cX5_renew 31 = .ok (.invokevirtual 122, 3) := by decide +kernel
theorem dX5_renew_34 : decode cX5_renew 34 = .ok (.aload_n 2, 1) := by decide +kernel
theorem dX5_renew_35 : decode cX5_renew 35 = .ok (.aload_n 2, 1) := by decide +kernel
theorem dX5_renew_36 : decode cX5_renew 36 = .ok (.getfield 264, 3) := by decide +kernel
theorem dX5_renew_39 : decode cX5_renew 39 = .ok (.getfield 105, 3) := by decide +kernel
theorem dX5_renew_42 : decode cX5_renew 42 = .ok (.putfield 268, 3) := by decide +kernel
theorem dX5_renew_45 : decode cX5_renew 45 = .ok (.aload_n 2, 1) := by decide +kernel
theorem dX5_renew_46 : decode cX5_renew 46 = .ok (.getfield 268, 3) := by decide +kernel
theorem dX5_renew_49 : decode cX5_renew 49 = .ok (.ireturn, 1) := by decide +kernel
theorem dX5_notes_0 : decode cX5_notes 0 = .ok (.iload_n 1, 1) := by decide +kernel
theorem dX5_notes_1 : decode cX5_notes 1 = .ok (.bipush 111, 2) := by decide +kernel
theorem dX5_notes_3 : decode cX5_notes 3 = .ok (.if_icmp .eq 31, 3) := by decide +kernel
theorem dX5_notes_6 : decode cX5_notes 6 = .ok (.iload_n 1, 1) := by decide +kernel
theorem dX5_notes_7 : decode cX5_notes 7 = .ok (.bipush 100, 2) := by decide +kernel
theorem dX5_notes_9 : decode cX5_notes 9 = .ok (.if_icmp .eq 25, 3) := by decide +kernel
theorem dX5_notes_12 : decode cX5_notes 12 = .ok (.iload_n 1, 1) := by decide +kernel
theorem dX5_notes_13 : decode cX5_notes 13 = .ok (.bipush 114, 2) := by decide +kernel
theorem dX5_notes_15 : decode cX5_notes 15 = .ok (.if_icmp .eq 19, 3) := by decide +kernel
theorem dX5_notes_18 : decode cX5_notes 18 = .ok (.iload_n 1, 1) := by decide +kernel
theorem dX5_notes_19 : decode cX5_notes 19 = .ok (.bipush 115, 2) := by decide +kernel
theorem dX5_notes_21 : decode cX5_notes 21 = .ok (.if_icmp .eq 13, 3) := by decide +kernel
theorem dX5_notes_24 : decode cX5_notes 24 = .ok (.new 41, 3) := by decide +kernel
theorem dX5_notes_27 : decode cX5_notes 27 = .ok (.dup, 1) := by decide +kernel
theorem dX5_notes_28 : decode cX5_notes 28 = .ok (.ldc 205, 2) := by decide +kernel
theorem dX5_notes_30 : decode cX5_notes 30 = .ok (.invokespecial 45, 3) := by decide +kernel
theorem dX5_notes_33 : decode cX5_notes 33 = .ok (.athrow, 1) := by decide +kernel
theorem dX5_notes_34 : decode cX5_notes 34 = .ok (.aload_n 0, 1) := by decide +kernel
theorem dX5_notes_35 : decode cX5_notes 35 = .ok (.iload_n 1, 1) := by decide +kernel
theorem dX5_notes_36 : decode cX5_notes 36 = .ok (.invokevirtual 269, 3) := by decide +kernel
theorem dX5_notes_39 : decode cX5_notes 39 = .ok (.ireturn, 1) := by decide +kernel
theorem dX5_dear_0 : decode cX5_dear 0 = .ok (.aload_n 0, 1) := by decide +kernel
theorem dX5_dear_1 : decode cX5_dear 1 = .ok (.iload_n 1, 1) := by decide +kernel
theorem dX5_dear_2 : decode cX5_dear 2 = .ok (.invokevirtual 93, 3) := by decide +kernel
theorem dX5_dear_5 : decode cX5_dear 5 = .ok (.astore_n 3, 1) := by decide +kernel
theorem dX5_dear_6 : decode cX5_dear 6 = .ok (.aload_n 3, 1) := by decide +kernel
theorem dX5_dear_7 : decode cX5_dear 7 = .ok (.getfield 273, 3) := by decide +kernel
theorem dX5_dear_10 : decode cX5_dear 10 = .ok (.istore 4, 2) := by decide +kernel
theorem dX5_dear_12 : decode cX5_dear 12 = .ok (.aload_n 3, 1) := by decide +kernel
theorem dX5_dear_13 : decode cX5_dear 13 = .ok (.iload_n 2, 1) := by decide +kernel
theorem dX5_dear_14 : decode cX5_dear 14 = .ok (.putfield 273, 3) := by decide +kernel
theorem dX5_dear_17 : decode cX5_dear 17 = .ok (.iload 4, 2) := by decide +kernel
theorem dX5_dear_19 : decode cX5_dear 19 = .ok (.ireturn, 1) := by decide +kernel
theorem dX5_setups_0 : decode cX5_setups 0 = .ok (.aload_n 0, 1) := by decide +kernel
theorem dX5_setups_1 : decode cX5_setups 1 = .ok (.iconst 0, 1) := by decide +kernel
theorem dX5_setups_2 : decode cX5_setups 2 = .ok (.invokevirtual 276, 3) := by decide +kernel
theorem dX5_setups_5 : decode cX5_setups 5 = .ok (.ireturn, 1) := by decide +kernel
theorem dX5_first_0 : decode cX5_first 0 = .ok (.aload_n 0, 1) := by decide +kernel
theorem dX5_first_1 : decode cX5_first 1 = .ok (.iconst 1, 1) := by decide +kernel
theorem dX5_first_2 : decode cX5_first 2 = .ok (.invokevirtual 276, 3) := by decide +kernel
theorem dX5_first_5 : decode cX5_first 5 = .ok (.ireturn, 1) := by decide +kernel
theorem dX5_days_0 : decode cX5_days 0 = .ok (.aload_n 0, 1) := by decide +kernel
theorem dX5_days_1 : decode cX5_days 1 = .ok (.iconst 0, 1) := by decide +kernel
theorem dX5_days_2 : decode cX5_days 2 = .ok (.invokevirtual 276, 3) := by decide +kernel
theorem dX5_days_5 : decode cX5_days 5 = .ok (.iconst 4, 1) := by decide +kernel
theorem dX5_days_6 : decode cX5_days 6 = .ok (.iadd, 1) := by decide +kernel
theorem dX5_days_7 : decode cX5_days 7 = .ok (.iconst 1, 1) := by decide +kernel
theorem dX5_days_8 : decode cX5_days 8 = .ok (.isub, 1) := by decide +kernel
theorem dX5_days_9 : decode cX5_days 9 = .ok (.iconst 4, 1) := by decide +kernel
theorem dX5_days_10 : decode cX5_days 10 = .ok (.idiv, 1) := by decide +kernel
theorem dX5_days_11 : decode cX5_days 11 = .ok (.istore_n 1, 1) := by decide +kernel
theorem dX5_days_12 : decode cX5_days 12 = .ok (.aload_n 0, 1) := by decide +kernel
theorem dX5_days_13 : decode cX5_days 13 = .ok (.getfield 16, 3) := by decide +kernel
theorem dX5_days_16 : decode cX5_days 16 = .ok (.invokevirtual 37, 3) := by decide +kernel
theorem dX5_days_19 : decode cX5_days 19 = .ok (.bipush 20, 2) := by decide +kernel
theorem dX5_days_21 : decode cX5_days 21 = .ok (.iadd, 1) := by decide +kernel
theorem dX5_days_22 : decode cX5_days 22 = .ok (.iconst 1, 1) := by decide +kernel
theorem dX5_days_23 : decode cX5_days 23 = .ok (.isub, 1) := by decide +kernel
theorem dX5_days_24 : decode cX5_days 24 = .ok (.bipush 20, 2) := by decide +kernel
theorem dX5_days_26 : decode cX5_days 26 = .ok (.idiv, 1) := by decide +kernel
theorem dX5_days_27 : decode cX5_days 27 = .ok (.istore_n 2, 1) := by decide +kernel
theorem dX5_days_28 : decode cX5_days 28 = .ok (.iload_n 1, 1) := by decide +kernel
theorem dX5_days_29 : decode cX5_days 29 = .ok (.iload_n 2, 1) := by decide +kernel
theorem dX5_days_30 : decode cX5_days 30 = .ok (.invokestatic 280, 3) := by decide +kernel
theorem dX5_days_33 : decode cX5_days 33 = .ok (.ireturn, 1) := by decide +kernel
theorem dX5_orders_0 : decode cX5_orders 0 = .ok (.aload_n 0, 1) := by decide +kernel
theorem dX5_orders_1 : decode cX5_orders 1 = .ok (.invokevirtual 286, 3) := by decide +kernel
theorem dX5_orders_4 : decode cX5_orders 4 = .ok (.aload_n 0, 1) := by decide +kernel
theorem dX5_orders_5 : decode cX5_orders 5 = .ok (.getfield 25, 3) := by decide +kernel
theorem dX5_orders_8 : decode cX5_orders 8 = .ok (.aload_n 0, 1) := by decide +kernel
theorem dX5_orders_9 : decode cX5_orders 9 = .ok (.getfield 16, 3) := by decide +kernel
theorem dX5_orders_12 : decode cX5_orders 12 = .ok (.invokevirtual 289, 3) := by decide +kernel
theorem dX5_orders_15 : decode cX5_orders 15 = .ok (.aload_n 0, 1) := by decide +kernel
theorem dX5_orders_16 : decode cX5_orders 16 = .ok (.getfield 25, 3) := by decide +kernel
theorem dX5_orders_19 : decode cX5_orders 19 = .ok (.invokevirtual 293, 3) := by decide +kernel
theorem dX5_orders_22 : decode cX5_orders 22 = .ok (.ireturn, 1) := by decide +kernel
theorem dX5_best_0 : decode cX5_best 0 = .ok (.aload_n 0, 1) := by decide +kernel
theorem dX5_best_1 : decode cX5_best 1 = .ok (.invokevirtual 286, 3) := by decide +kernel
theorem dX5_best_4 : decode cX5_best 4 = .ok (.aload_n 0, 1) := by decide +kernel
theorem dX5_best_5 : decode cX5_best 5 = .ok (.getfield 25, 3) := by decide +kernel
theorem dX5_best_8 : decode cX5_best 8 = .ok (.aload_n 0, 1) := by decide +kernel
theorem dX5_best_9 : decode cX5_best 9 = .ok (.getfield 16, 3) := by decide +kernel
theorem dX5_best_12 : decode cX5_best 12 = .ok (.invokevirtual 289, 3) := by decide +kernel
theorem dX5_best_15 : decode cX5_best 15 = .ok (.aload_n 0, 1) := by decide +kernel
theorem dX5_best_16 : decode cX5_best 16 = .ok (.getfield 25, 3) := by decide +kernel
theorem dX5_best_19 : decode cX5_best 19 = .ok (.invokevirtual 296, 3) := by decide +kernel
theorem dX5_best_22 : decode cX5_best 22 = .ok (.ireturn, 1) := by decide +kernel
theorem dX5_checksum_0 : decode cX5_checksum 0 = .ok (.ldc2_w 299, 3) := by decide +kernel
theorem dX5_checksum_3 : decode cX5_checksum 3 = .ok (.lstore_n 1, 1) := by decide +kernel
theorem dX5_checksum_4 : decode cX5_checksum 4 = .ok (.iconst 0, 1) := by decide +kernel
theorem dX5_checksum_5 : decode cX5_checksum 5 = .ok (.istore_n 3, 1) := by decide +kernel
theorem dX5_checksum_6 : decode cX5_checksum 6 = .ok (.iload_n 3, 1) := by decide +kernel
theorem dX5_checksum_7 : decode cX5_checksum 7 = .ok (.aload_n 0, 1) := by decide +kernel
theorem dX5_checksum_8 : decode cX5_checksum 8 = .ok (.getfield 16, 3) := by decide +kernel
theorem dX5_checksum_11 : decode cX5_checksum 11 = .ok (.invokevirtual 37, 3) := by decide +kernel
theorem dX5_checksum_14 : decode cX5_checksum 14 = .ok (.if_icmp .ge 61, 3) := by decide +kernel
theorem dX5_checksum_17 : decode cX5_checksum 17 = .ok (.aload_n 0, 1) := by decide +kernel
theorem dX5_checksum_18 : decode cX5_checksum 18 = .ok (.getfield 16, 3) := by decide +kernel
theorem dX5_checksum_21 : decode cX5_checksum 21 = .ok (.iload_n 3, 1) := by decide +kernel
theorem dX5_checksum_22 : decode cX5_checksum 22 = .ok (.invokevirtual 116, 3) := by decide +kernel
theorem dX5_checksum_25 : decode cX5_checksum 25 = .ok (.checkcast 70, 3) := by decide +kernel
theorem dX5_checksum_28 : decode cX5_checksum 28 = .ok (.astore 4, 2) := by decide +kernel
theorem dX5_checksum_30 : decode cX5_checksum 30 = .ok (.ldc2_w 301, 3) := by decide +kernel
theorem dX5_checksum_33 : decode cX5_checksum 33 = .ok (.lload_n 1, 1) := by decide +kernel
theorem dX5_checksum_34 : decode cX5_checksum 34 = .ok (.lmul, 1) := by decide +kernel
theorem dX5_checksum_35 : decode cX5_checksum 35 = .ok (.aload 4, 2) := by decide +kernel
theorem dX5_checksum_37 : decode cX5_checksum 37 = .ok (.getfield 90, 3) := by decide +kernel
theorem dX5_checksum_40 : decode cX5_checksum 40 = .ok (.i2l, 1) := by decide +kernel
theorem dX5_checksum_41 : decode cX5_checksum 41 = .ok (.ladd, 1) := by decide +kernel
theorem dX5_checksum_42 : decode cX5_checksum 42 = .ok (.lstore_n 1, 1) := by decide +kernel
theorem dX5_checksum_43 : decode cX5_checksum 43 = .ok (.ldc2_w 301, 3) := by decide +kernel
theorem dX5_checksum_46 : decode cX5_checksum 46 = .ok (.lload_n 1, 1) := by decide +kernel
theorem dX5_checksum_47 : decode cX5_checksum 47 = .ok (.lmul, 1) := by decide +kernel
theorem dX5_checksum_48 : decode cX5_checksum 48 = .ok (.aload 4, 2) := by decide +kernel
theorem dX5_checksum_50 : decode cX5_checksum 50 = .ok (.getfield 187, 3) := by decide +kernel
theorem dX5_checksum_53 : decode cX5_checksum 53 = .ok (.i2l, 1) := by decide +kernel
theorem dX5_checksum_54 : decode cX5_checksum 54 = .ok (.ladd, 1) := by decide +kernel
theorem dX5_checksum_55 : decode cX5_checksum 55 = .ok (.lstore_n 1, 1) := by decide +kernel
theorem dX5_checksum_56 : decode cX5_checksum 56 = .ok (.ldc2_w 301, 3) := by decide +kernel
theorem dX5_checksum_59 : decode cX5_checksum 59 = .ok (.lload_n 1, 1) := by decide +kernel
theorem dX5_checksum_60 : decode cX5_checksum 60 = .ok (.lmul, 1) := by decide +kernel
theorem dX5_checksum_61 : decode cX5_checksum 61 = .ok (.aload 4, 2) := by decide +kernel
theorem dX5_checksum_63 : decode cX5_checksum 63 = .ok (.getfield 105, 3) := by decide +kernel
theorem dX5_checksum_66 : decode cX5_checksum 66 = .ok (.i2l, 1) := by decide +kernel
theorem dX5_checksum_67 : decode cX5_checksum 67 = .ok (.ladd, 1) := by decide +kernel
theorem dX5_checksum_68 : decode cX5_checksum 68 = .ok (.lstore_n 1, 1) := by decide +kernel
theorem dX5_checksum_69 : decode cX5_checksum 69 = .ok (.iinc 3 1, 3) := by decide +kernel
theorem dX5_checksum_72 : decode cX5_checksum 72 = .ok (.goto (-66), 3) := by decide +kernel
theorem dX5_checksum_75 : decode cX5_checksum 75 = .ok (.iconst 0, 1) := by decide +kernel
theorem dX5_checksum_76 : decode cX5_checksum 76 = .ok (.istore_n 3, 1) := by decide +kernel
theorem dX5_checksum_77 : decode cX5_checksum 77 = .ok (.iload_n 3, 1) := by decide +kernel
theorem dX5_checksum_78 : decode cX5_checksum 78 = .ok (.aload_n 0, 1) := by decide +kernel
theorem dX5_checksum_79 : decode cX5_checksum 79 = .ok (.getfield 19, 3) := by decide +kernel
theorem dX5_checksum_82 : decode cX5_checksum 82 = .ok (.invokevirtual 37, 3) := by decide +kernel
theorem dX5_checksum_85 : decode cX5_checksum 85 = .ok (.if_icmp .ge 31, 3) := by decide +kernel
theorem dX5_checksum_88 : decode cX5_checksum 88 = .ok (.ldc2_w 301, 3) := by decide +kernel
theorem dX5_checksum_91 : decode cX5_checksum 91 = .ok (.lload_n 1, 1) := by decide +kernel
theorem dX5_checksum_92 : decode cX5_checksum 92 = .ok (.lmul, 1) := by decide +kernel
theorem dX5_checksum_93 : decode cX5_checksum 93 = .ok (.aload_n 0, 1) := by decide +kernel
theorem dX5_checksum_94 : decode cX5_checksum 94 = .ok (.getfield 19, 3) := by decide +kernel
theorem dX5_checksum_97 : decode cX5_checksum 97 = .ok (.iload_n 3, 1) := by decide +kernel
theorem dX5_checksum_98 : decode cX5_checksum 98 = .ok (.invokevirtual 116, 3) := by decide +kernel
theorem dX5_checksum_101 : decode cX5_checksum 101 = .ok (.checkcast 245, 3) := by decide +kernel
theorem dX5_checksum_104 : decode cX5_checksum 104 = .ok (.invokevirtual 253, 3) := by decide +kernel
theorem dX5_checksum_107 : decode cX5_checksum 107 = .ok (.i2l, 1) := by decide +kernel
theorem dX5_checksum_108 : decode cX5_checksum 108 = .ok (.ladd, 1) := by decide +kernel
theorem dX5_checksum_109 : decode cX5_checksum 109 = .ok (.lstore_n 1, 1) := by decide +kernel
theorem dX5_checksum_110 : decode cX5_checksum 110 = .ok (.iinc 3 1, 3) := by decide +kernel
theorem dX5_checksum_113 : decode cX5_checksum 113 = .ok (.goto (-36), 3) := by decide +kernel
theorem dX5_checksum_116 : decode cX5_checksum 116 = .ok (.lload_n 1, 1) := by decide +kernel
theorem dX5_checksum_117 : decode cX5_checksum 117 = .ok (.lreturn, 1) := by decide +kernel
theorem dX5_brokenShare_0 : decode cX5_brokenShare 0 = .ok (.aload_n 0, 1) := by decide +kernel
theorem dX5_brokenShare_1 : decode cX5_brokenShare 1 = .ok (.getfield 16, 3) := by decide +kernel
theorem dX5_brokenShare_4 : decode cX5_brokenShare 4 = .ok (.invokevirtual 37, 3) := by decide +kernel
theorem dX5_brokenShare_7 : decode cX5_brokenShare 7 = .ok (.iconst 1, 1) := by decide +kernel
theorem dX5_brokenShare_8 : decode cX5_brokenShare 8 = .ok (.isub, 1) := by decide +kernel
theorem dX5_brokenShare_9 : decode cX5_brokenShare 9 = .ok (.istore_n 1, 1) := by decide +kernel
theorem dX5_brokenShare_10 : decode cX5_brokenShare 10 = .ok (.iload_n 1, 1) := by decide +kernel
theorem dX5_brokenShare_11 : decode cX5_brokenShare 11 = .ok (.iconst 1, 1) := by decide +kernel
theorem dX5_brokenShare_12 : decode cX5_brokenShare 12 = .ok (.if_icmp .ge 14, 3) := by decide +kernel
theorem dX5_brokenShare_15 : decode cX5_brokenShare 15 = .ok (.new 111, 3) := by decide +kernel
theorem dX5_brokenShare_18 : decode cX5_brokenShare 18 = .ok (.dup, 1) := by decide +kernel
theorem dX5_brokenShare_19 : decode cX5_brokenShare 19 = .ok (.ldc_w 303, 3) := by decide +kernel
theorem dX5_brokenShare_22 : decode cX5_brokenShare 22 = .ok (.invokespecial 115, 3) := by decide +kernel
theorem dX5_brokenShare_25 : decode cX5_brokenShare 25 = .ok (.athrow, 1) := by decide +kernel
theorem dX5_brokenShare_26 : decode cX5_brokenShare 26 = .ok (.aload_n 0, 1) := by decide +kernel
theorem dX5_brokenShare_27 : decode cX5_brokenShare 27 = .ok (.invokevirtual 225, 3) := by decide +kernel
theorem dX5_brokenShare_30 : decode cX5_brokenShare 30 = .ok (.i2f, 1) := by decide +kernel
theorem dX5_brokenShare_31 : decode cX5_brokenShare 31 = .ok (.iload_n 1, 1) := by decide +kernel
theorem dX5_brokenShare_32 : decode cX5_brokenShare 32 = .ok (.i2f, 1) := by decide +kernel
theorem dX5_brokenShare_33 : decode cX5_brokenShare 33 = .ok (.fdiv, 1) := by decide +kernel
theorem dX5_brokenShare_34 : decode cX5_brokenShare 34 = .ok (.freturn, 1) := by decide +kernel
theorem dX5_meanLength_0 : decode cX5_meanLength 0 = .ok (.aload_n 0, 1) := by decide +kernel
theorem dX5_meanLength_1 : decode cX5_meanLength 1 = .ok (.getfield 16, 3) := by decide +kernel
theorem dX5_meanLength_4 : decode cX5_meanLength 4 = .ok (.invokevirtual 37, 3) := by decide +kernel
theorem dX5_meanLength_7 : decode cX5_meanLength 7 = .ok (.istore_n 1, 1) := by decide +kernel
theorem dX5_meanLength_8 : decode cX5_meanLength 8 = .ok (.iload_n 1, 1) := by decide +kernel
theorem dX5_meanLength_9 : decode cX5_meanLength 9 = .ok (.iconst 1, 1) := by decide +kernel
theorem dX5_meanLength_10 : decode cX5_meanLength 10 = .ok (.if_icmp .ge 14, 3) := by decide +kernel
theorem dX5_meanLength_13 : decode cX5_meanLength 13 = .ok (.new 111, 3) := by decide +kernel
theorem dX5_meanLength_16 : decode cX5_meanLength 16 = .ok (.dup, 1) := by decide +kernel
theorem dX5_meanLength_17 : decode cX5_meanLength 17 = .ok (.ldc_w 305, 3) := by decide +kernel
theorem dX5_meanLength_20 : decode cX5_meanLength 20 = .ok (.invokespecial 115, 3) := by decide +kernel
theorem dX5_meanLength_23 : decode cX5_meanLength 23 = .ok (.athrow, 1) := by decide +kernel
theorem dX5_meanLength_24 : decode cX5_meanLength 24 = .ok (.aload_n 0, 1) := by decide +kernel
theorem dX5_meanLength_25 : decode cX5_meanLength 25 = .ok (.iload_n 1, 1) := by decide +kernel
theorem dX5_meanLength_26 : decode cX5_meanLength 26 = .ok (.invokevirtual 177, 3) := by decide +kernel
theorem dX5_meanLength_29 : decode cX5_meanLength 29 = .ok (.i2d, 1) := by decide +kernel
theorem dX5_meanLength_30 : decode cX5_meanLength 30 = .ok (.iload_n 1, 1) := by decide +kernel
theorem dX5_meanLength_31 : decode cX5_meanLength 31 = .ok (.i2d, 1) := by decide +kernel
theorem dX5_meanLength_32 : decode cX5_meanLength 32 = .ok (.ddiv, 1) := by decide +kernel
theorem dX5_meanLength_33 : decode cX5_meanLength 33 = .ok (.dreturn, 1) := by decide +kernel
theorem dX5_isSound_0 : decode cX5_isSound 0 = .ok (.aload_n 0, 1) := by decide +kernel
theorem dX5_isSound_1 : decode cX5_isSound 1 = .ok (.invokevirtual 307, 3) := by decide +kernel
theorem dX5_isSound_4 : decode cX5_isSound 4 = .ok (.ifCond .eq 28, 3) := by decide +kernel
theorem dX5_isSound_7 : decode cX5_isSound 7 = .ok (.aload_n 0, 1) := by decide +kernel
theorem dX5_isSound_8 : decode cX5_isSound 8 = .ok (.invokevirtual 311, 3) := by decide +kernel
theorem dX5_isSound_11 : decode cX5_isSound 11 = .ok (.ifCond .eq 21, 3) := by decide +kernel
theorem dX5_isSound_14 : decode cX5_isSound 14 = .ok (.aload_n 0, 1) := by decide +kernel
theorem dX5_isSound_15 : decode cX5_isSound 15 = .ok (.invokevirtual 314, 3) := by decide +kernel
theorem dX5_isSound_18 : decode cX5_isSound 18 = .ok (.ifCond .eq 14, 3) := by decide +kernel
theorem dX5_isSound_21 : decode cX5_isSound 21 = .ok (.aload_n 0, 1) := by decide +kernel
theorem dX5_isSound_22 : decode cX5_isSound 22 = .ok (.invokevirtual 317, 3) := by decide +kernel
theorem dX5_isSound_25 : decode cX5_isSound 25 = .ok (.ifCond .eq 7, 3) := by decide +kernel
theorem dX5_isSound_28 : decode cX5_isSound 28 = .ok (.iconst 1, 1) := by decide +kernel
theorem dX5_isSound_29 : decode cX5_isSound 29 = .ok (.goto 4, 3) := by decide +kernel
theorem dX5_isSound_32 : decode cX5_isSound 32 = .ok (.iconst 0, 1) := by decide +kernel
theorem dX5_isSound_33 : decode cX5_isSound 33 = .ok (.ireturn, 1) := by decide +kernel
theorem dX5_madeShot_0 : decode cX5_madeShot 0 = .ok (.iload_n 1, 1) := by decide +kernel
theorem dX5_madeShot_1 : decode cX5_madeShot 1 = .ok (.ifCond .lt 14, 3) := by decide +kernel
theorem dX5_madeShot_4 : decode cX5_madeShot 4 = .ok (.iload_n 1, 1) := by decide +kernel
theorem dX5_madeShot_5 : decode cX5_madeShot 5 = .ok (.aload_n 0, 1) := by decide +kernel
theorem dX5_madeShot_6 : decode cX5_madeShot 6 = .ok (.getfield 10, 3) := by decide +kernel
theorem dX5_madeShot_9 : decode cX5_madeShot 9 = .ok (.invokevirtual 37, 3) := by decide +kernel
theorem dX5_madeShot_12 : decode cX5_madeShot 12 = .ok (.if_icmp .lt 14, 3) := by decide +kernel
theorem dX5_madeShot_15 : decode cX5_madeShot 15 = .ok (.new 320, 3) := by decide +kernel
theorem dX5_madeShot_18 : decode cX5_madeShot 18 = .ok (.dup, 1) := by decide +kernel
theorem dX5_madeShot_19 : decode cX5_madeShot 19 = .ok (.ldc_w 322, 3) := by decide +kernel
theorem dX5_madeShot_22 : decode cX5_madeShot 22 = .ok (.invokespecial 324, 3) := by decide +kernel
theorem dX5_madeShot_25 : decode cX5_madeShot 25 = .ok (.athrow, 1) := by decide +kernel
theorem dX5_madeShot_26 : decode cX5_madeShot 26 = .ok (.aload_n 0, 1) := by decide +kernel
theorem dX5_madeShot_27 : decode cX5_madeShot 27 = .ok (.getfield 10, 3) := by decide +kernel
theorem dX5_madeShot_30 : decode cX5_madeShot 30 = .ok (.iload_n 1, 1) := by decide +kernel
theorem dX5_madeShot_31 : decode cX5_madeShot 31 = .ok (.invokevirtual 116, 3) := by decide +kernel
theorem dX5_madeShot_34 : decode cX5_madeShot 34 = .ok (.checkcast 70, 3) := by decide +kernel
theorem dX5_madeShot_37 : decode cX5_madeShot 37 = .ok (.areturn, 1) := by decide +kernel
theorem dX5_madeNote_0 : decode cX5_madeNote 0 = .ok (.iload_n 1, 1) := by decide +kernel
theorem dX5_madeNote_1 : decode cX5_madeNote 1 = .ok (.ifCond .lt 14, 3) := by decide +kernel
theorem dX5_madeNote_4 : decode cX5_madeNote 4 = .ok (.iload_n 1, 1) := by decide +kernel
theorem dX5_madeNote_5 : decode cX5_madeNote 5 = .ok (.aload_n 0, 1) := by decide +kernel
theorem dX5_madeNote_6 : decode cX5_madeNote 6 = .ok (.getfield 19, 3) := by decide +kernel
theorem dX5_madeNote_9 : decode cX5_madeNote 9 = .ok (.invokevirtual 37, 3) := by decide +kernel
theorem dX5_madeNote_12 : decode cX5_madeNote 12 = .ok (.if_icmp .lt 14, 3) := by decide +kernel
theorem dX5_madeNote_15 : decode cX5_madeNote 15 = .ok (.new 320, 3) := by decide +kernel
theorem dX5_madeNote_18 : decode cX5_madeNote 18 = .ok (.dup, 1) := by decide +kernel
theorem dX5_madeNote_19 : decode cX5_madeNote 19 = .ok (.ldc_w 325, 3) := by decide +kernel
theorem dX5_madeNote_22 : decode cX5_madeNote 22 = .ok (.invokespecial 324, 3) := by decide +kernel
theorem dX5_madeNote_25 : decode cX5_madeNote 25 = .ok (.athrow, 1) := by decide +kernel
theorem dX5_madeNote_26 : decode cX5_madeNote 26 = .ok (.aload_n 0, 1) := by decide +kernel
theorem dX5_madeNote_27 : decode cX5_madeNote 27 = .ok (.getfield 19, 3) := by decide +kernel
theorem dX5_madeNote_30 : decode cX5_madeNote 30 = .ok (.iload_n 1, 1) := by decide +kernel
theorem dX5_madeNote_31 : decode cX5_madeNote 31 = .ok (.invokevirtual 116, 3) := by decide +kernel
theorem dX5_madeNote_34 : decode cX5_madeNote 34 = .ok (.checkcast 245, 3) := by decide +kernel
theorem dX5_madeNote_37 : decode cX5_madeNote 37 = .ok (.areturn, 1) := by decide +kernel
theorem dX5_placeInReel_0 : decode cX5_placeInReel 0 = .ok (.aload_n 0, 1) := by decide +kernel
theorem dX5_placeInReel_1 : decode cX5_placeInReel 1 = .ok (.aload_n 1, 1) := by decide +kernel
theorem dX5_placeInReel_2 : decode cX5_placeInReel 2 = .ok (.invokevirtual 327, 3) := by decide +kernel
theorem dX5_placeInReel_5 : decode cX5_placeInReel 5 = .ok (.istore_n 2, 1) := by decide +kernel
theorem dX5_placeInReel_6 : decode cX5_placeInReel 6 = .ok (.iload_n 2, 1) := by decide +kernel
theorem dX5_placeInReel_7 : decode cX5_placeInReel 7 = .ok (.iconst (-1), 1) := by decide +kernel
theorem dX5_placeInReel_8 : decode cX5_placeInReel 8 = .ok (.if_icmp .ne 14, 3) := by decide +kernel
theorem dX5_placeInReel_11 : decode cX5_placeInReel 11 = .ok (.new 60, 3) := by decide +kernel
theorem dX5_placeInReel_14 : decode cX5_placeInReel 14 = .ok (.dup, 1) := by decide +kernel
theorem dX5_placeInReel_15 : decode cX5_placeInReel 15 = .ok (.ldc_w 330, 3) := by decide +kernel
theorem dX5_placeInReel_18 : decode cX5_placeInReel 18 = .ok (.invokespecial 64, 3) := by decide +kernel
theorem dX5_placeInReel_21 : decode cX5_placeInReel 21 = .ok (.athrow, 1) := by decide +kernel
theorem dX5_placeInReel_22 : decode cX5_placeInReel 22 = .ok (.iload_n 2, 1) := by decide +kernel
theorem dX5_placeInReel_23 : decode cX5_placeInReel 23 = .ok (.ireturn, 1) := by decide +kernel
theorem dX5_checkInReel_0 : decode cX5_checkInReel 0 = .ok (.aload_n 0, 1) := by decide +kernel
theorem dX5_checkInReel_1 : decode cX5_checkInReel 1 = .ok (.aload_n 1, 1) := by decide +kernel
theorem dX5_checkInReel_2 : decode cX5_checkInReel 2 = .ok (.invokevirtual 97, 3) := by decide +kernel
theorem dX5_checkInReel_5 : decode cX5_checkInReel 5 = .ok (.pop, 1) := by decide +kernel
theorem dX5_checkInReel_6 : decode cX5_checkInReel 6 = .ok (.return_, 1) := by decide +kernel
theorem dX5_foundPlace_0 : decode cX5_foundPlace 0 = .ok (.aload_n 0, 1) := by decide +kernel
theorem dX5_foundPlace_1 : decode cX5_foundPlace 1 = .ok (.aload_n 1, 1) := by decide +kernel
theorem dX5_foundPlace_2 : decode cX5_foundPlace 2 = .ok (.invokevirtual 327, 3) := by decide +kernel
theorem dX5_foundPlace_5 : decode cX5_foundPlace 5 = .ok (.istore_n 2, 1) := by decide +kernel
theorem dX5_foundPlace_6 : decode cX5_foundPlace 6 = .ok (.iload_n 2, 1) := by decide +kernel
theorem dX5_foundPlace_7 : decode cX5_foundPlace 7 = .ok (.iconst (-1), 1) := by decide +kernel
theorem dX5_foundPlace_8 : decode cX5_foundPlace 8 = .ok (.if_icmp .ne 14, 3) := by decide +kernel
theorem dX5_foundPlace_11 : decode cX5_foundPlace 11 = .ok (.new 111, 3) := by decide +kernel
theorem dX5_foundPlace_14 : decode cX5_foundPlace 14 = .ok (.dup, 1) := by decide +kernel
theorem dX5_foundPlace_15 : decode cX5_foundPlace 15 = .ok (.ldc_w 330, 3) := by decide +kernel
theorem dX5_foundPlace_18 : decode cX5_foundPlace 18 = .ok (.invokespecial 115, 3) := by decide +kernel
theorem dX5_foundPlace_21 : decode cX5_foundPlace 21 = .ok (.athrow, 1) := by decide +kernel
theorem dX5_foundPlace_22 : decode cX5_foundPlace 22 = .ok (.iload_n 2, 1) := by decide +kernel
theorem dX5_foundPlace_23 : decode cX5_foundPlace 23 = .ok (.ireturn, 1) := by decide +kernel
theorem dX5_foundNumber_0 : decode cX5_foundNumber 0 = .ok (.aload_n 0, 1) := by decide +kernel
theorem dX5_foundNumber_1 : decode cX5_foundNumber 1 = .ok (.aload_n 1, 1) := by decide +kernel
theorem dX5_foundNumber_2 : decode cX5_foundNumber 2 = .ok (.invokevirtual 193, 3) := by decide +kernel
theorem dX5_foundNumber_5 : decode cX5_foundNumber 5 = .ok (.istore_n 2, 1) := by decide +kernel
theorem dX5_foundNumber_6 : decode cX5_foundNumber 6 = .ok (.iload_n 2, 1) := by decide +kernel
theorem dX5_foundNumber_7 : decode cX5_foundNumber 7 = .ok (.iconst (-1), 1) := by decide +kernel
theorem dX5_foundNumber_8 : decode cX5_foundNumber 8 = .ok (.if_icmp .ne 14, 3) := by decide +kernel
theorem dX5_foundNumber_11 : decode cX5_foundNumber 11 = .ok (.new 111, 3) := by decide +kernel
theorem dX5_foundNumber_14 : decode cX5_foundNumber 14 = .ok (.dup, 1) := by decide +kernel
theorem dX5_foundNumber_15 : decode cX5_foundNumber 15 = .ok (.ldc_w 332, 3) := by decide +kernel
theorem dX5_foundNumber_18 : decode cX5_foundNumber 18 = .ok (.invokespecial 115, 3) := by decide +kernel
theorem dX5_foundNumber_21 : decode cX5_foundNumber 21 = .ok (.athrow, 1) := by decide +kernel
theorem dX5_foundNumber_22 : decode cX5_foundNumber 22 = .ok (.iload_n 2, 1) := by decide +kernel
theorem dX5_foundNumber_23 : decode cX5_foundNumber 23 = .ok (.ireturn, 1) := by decide +kernel
theorem dX5_checkCamera_0 : decode cX5_checkCamera 0 = .ok (.iload_n 0, 1) := by decide +kernel
theorem dX5_checkCamera_1 : decode cX5_checkCamera 1 = .ok (.bipush 115, 2) := by decide +kernel
theorem dX5_checkCamera_3 : decode cX5_checkCamera 3 = .ok (.if_icmp .eq 26, 3) := by decide +kernel
theorem dX5_checkCamera_6 : decode cX5_checkCamera 6 = .ok (.iload_n 0, 1) := by decide +kernel
theorem dX5_checkCamera_7 : decode cX5_checkCamera 7 = .ok (.bipush 110, 2) := by decide +kernel
theorem dX5_checkCamera_9 : decode cX5_checkCamera 9 = .ok (.if_icmp .eq 20, 3) := by decide +kernel
theorem dX5_checkCamera_12 : decode cX5_checkCamera 12 = .ok (.iload_n 0, 1) := by decide +kernel
theorem dX5_checkCamera_13 : decode cX5_checkCamera 13 = .ok (.bipush 48, 2) := by decide +kernel
theorem dX5_checkCamera_15 : decode cX5_checkCamera 15 = .ok (.if_icmp .eq 14, 3) := by decide +kernel
theorem dX5_checkCamera_18 : decode cX5_checkCamera 18 = .ok (.new 41, 3) := by decide +kernel
theorem dX5_checkCamera_21 : decode cX5_checkCamera 21 = .ok (.dup, 1) := by decide +kernel
theorem dX5_checkCamera_22 : decode cX5_checkCamera 22 = .ok (.ldc_w 334, 3) := by decide +kernel
theorem dX5_checkCamera_25 : decode cX5_checkCamera 25 = .ok (.invokespecial 45, 3) := by decide +kernel
theorem dX5_checkCamera_28 : decode cX5_checkCamera 28 = .ok (.athrow, 1) := by decide +kernel
theorem dX5_checkCamera_29 : decode cX5_checkCamera 29 = .ok (.iload_n 1, 1) := by decide +kernel
theorem dX5_checkCamera_30 : decode cX5_checkCamera 30 = .ok (.ifCond .lt 8, 3) := by decide +kernel
theorem dX5_checkCamera_33 : decode cX5_checkCamera 33 = .ok (.iload_n 1, 1) := by decide +kernel
theorem dX5_checkCamera_34 : decode cX5_checkCamera 34 = .ok (.iconst 5, 1) := by decide +kernel
theorem dX5_checkCamera_35 : decode cX5_checkCamera 35 = .ok (.if_icmp .lt 14, 3) := by decide +kernel
theorem dX5_checkCamera_38 : decode cX5_checkCamera 38 = .ok (.new 41, 3) := by decide +kernel
theorem dX5_checkCamera_41 : decode cX5_checkCamera 41 = .ok (.dup, 1) := by decide +kernel
theorem dX5_checkCamera_42 : decode cX5_checkCamera 42 = .ok (.ldc_w 336, 3) := by decide +kernel
theorem dX5_checkCamera_45 : decode cX5_checkCamera 45 = .ok (.invokespecial 45, 3) := by decide +kernel
theorem dX5_checkCamera_48 : decode cX5_checkCamera 48 = .ok (.athrow, 1) := by decide +kernel
theorem dX5_checkCamera_49 : decode cX5_checkCamera 49 = .ok (.return_, 1) := by decide +kernel
theorem dX5_checkLength_0 : decode cX5_checkLength 0 = .ok (.iload_n 0, 1) := by decide +kernel
theorem dX5_checkLength_1 : decode cX5_checkLength 1 = .ok (.iconst 1, 1) := by decide +kernel
theorem dX5_checkLength_2 : decode cX5_checkLength 2 = .ok (.if_icmp .lt 10, 3) := by decide +kernel
theorem dX5_checkLength_5 : decode cX5_checkLength 5 = .ok (.iload_n 0, 1) := by decide +kernel
theorem dX5_checkLength_6 : decode cX5_checkLength 6 = .ok (.sipush 240, 3) := by decide +kernel
theorem dX5_checkLength_9 : decode cX5_checkLength 9 = .ok (.if_icmp .le 13, 3) := by decide +kernel
theorem dX5_checkLength_12 : decode cX5_checkLength 12 = .ok (.new 41, 3) := by decide +kernel
theorem dX5_checkLength_15 : decode cX5_checkLength 15 = .ok (.dup, 1) := by decide +kernel
theorem dX5_checkLength_16 : decode cX5_checkLength 16 = .ok (.ldc 185, 2) := by decide +kernel
theorem dX5_checkLength_18 : decode cX5_checkLength 18 = .ok (.invokespecial 45, 3) := by decide +kernel
theorem dX5_checkLength_21 : decode cX5_checkLength 21 = .ok (.athrow, 1) := by decide +kernel
theorem dX5_checkLength_22 : decode cX5_checkLength 22 = .ok (.return_, 1) := by decide +kernel
theorem dX5_checkCharacter_0 : decode cX5_checkCharacter 0 = .ok (.iload_n 0, 1) := by decide +kernel
theorem dX5_checkCharacter_1 : decode cX5_checkCharacter 1 = .ok (.ifCond .lt 8, 3) := by decide +kernel
theorem dX5_checkCharacter_4 : decode cX5_checkCharacter 4 = .ok (.iload_n 0, 1) := by decide +kernel
theorem dX5_checkCharacter_5 : decode cX5_checkCharacter 5 = .ok (.iconst 4, 1) := by decide +kernel
theorem dX5_checkCharacter_6 : decode cX5_checkCharacter 6 = .ok (.if_icmp .lt 14, 3) := by decide +kernel
theorem dX5_checkCharacter_9 : decode cX5_checkCharacter 9 = .ok (.new 41, 3) := by decide +kernel
theorem dX5_checkCharacter_12 : decode cX5_checkCharacter 12 = .ok (.dup, 1) := by decide +kernel
theorem dX5_checkCharacter_13 : decode cX5_checkCharacter 13 = .ok (.ldc_w 338, 3) := by decide +kernel
theorem dX5_checkCharacter_16 : decode cX5_checkCharacter 16 = .ok (.invokespecial 45, 3) := by decide +kernel
theorem dX5_checkCharacter_19 : decode cX5_checkCharacter 19 = .ok (.athrow, 1) := by decide +kernel
theorem dX5_checkCharacter_20 : decode cX5_checkCharacter 20 = .ok (.return_, 1) := by decide +kernel
theorem dX5_isPosition_0 : decode cX5_isPosition 0 = .ok (.iload_n 0, 1) := by decide +kernel
theorem dX5_isPosition_1 : decode cX5_isPosition 1 = .ok (.bipush 108, 2) := by decide +kernel
theorem dX5_isPosition_3 : decode cX5_isPosition 3 = .ok (.if_icmp .eq 15, 3) := by decide +kernel
theorem dX5_isPosition_6 : decode cX5_isPosition 6 = .ok (.iload_n 0, 1) := by decide +kernel
theorem dX5_isPosition_7 : decode cX5_isPosition 7 = .ok (.bipush 99, 2) := by decide +kernel
theorem dX5_isPosition_9 : decode cX5_isPosition 9 = .ok (.if_icmp .eq 9, 3) := by decide +kernel
theorem dX5_isPosition_12 : decode cX5_isPosition 12 = .ok (.iload_n 0, 1) := by decide +kernel
theorem dX5_isPosition_13 : decode cX5_isPosition 13 = .ok (.bipush 114, 2) := by decide +kernel
theorem dX5_isPosition_15 : decode cX5_isPosition 15 = .ok (.if_icmp .ne 7, 3) := by decide +kernel
theorem dX5_isPosition_18 : decode cX5_isPosition 18 = .ok (.iconst 1, 1) := by decide +kernel
theorem dX5_isPosition_19 : decode cX5_isPosition 19 = .ok (.goto 4, 3) := by decide +kernel
theorem dX5_isPosition_22 : decode cX5_isPosition 22 = .ok (.iconst 0, 1) := by decide +kernel
theorem dX5_isPosition_23 : decode cX5_isPosition 23 = .ok (.ireturn, 1) := by decide +kernel
theorem dX5_shotForEdge_0 : decode cX5_shotForEdge 0 = .ok (.aload_n 0, 1) := by decide +kernel
theorem dX5_shotForEdge_1 : decode cX5_shotForEdge 1 = .ok (.iload_n 1, 1) := by decide +kernel
theorem dX5_shotForEdge_2 : decode cX5_shotForEdge 2 = .ok (.invokevirtual 93, 3) := by decide +kernel
theorem dX5_shotForEdge_5 : decode cX5_shotForEdge 5 = .ok (.astore 4, 2) := by decide +kernel
theorem dX5_shotForEdge_7 : decode cX5_shotForEdge 7 = .ok (.iload_n 2, 1) := by decide +kernel
theorem dX5_shotForEdge_8 : decode cX5_shotForEdge 8 = .ok (.invokestatic 132, 3) := by decide +kernel
theorem dX5_shotForEdge_11 : decode cX5_shotForEdge 11 = .ok (.iload_n 3, 1) := by decide +kernel
theorem dX5_shotForEdge_12 : decode cX5_shotForEdge 12 = .ok (.bipush 108, 2) := by decide +kernel
theorem dX5_shotForEdge_14 : decode cX5_shotForEdge 14 = .ok (.if_icmp .eq 26, 3) := by decide +kernel
theorem dX5_shotForEdge_17 : decode cX5_shotForEdge 17 = .ok (.iload_n 3, 1) := by decide +kernel
theorem dX5_shotForEdge_18 : decode cX5_shotForEdge 18 = .ok (.bipush 114, 2) := by decide +kernel
theorem dX5_shotForEdge_20 : decode cX5_shotForEdge 20 = .ok (.if_icmp .eq 20, 3) := by decide +kernel
theorem dX5_shotForEdge_23 : decode cX5_shotForEdge 23 = .ok (.iload_n 3, 1) := by decide +kernel
theorem dX5_shotForEdge_24 : decode cX5_shotForEdge 24 = .ok (.bipush 45, 2) := by decide +kernel
theorem dX5_shotForEdge_26 : decode cX5_shotForEdge 26 = .ok (.if_icmp .eq 14, 3) := by decide +kernel
theorem dX5_shotForEdge_29 : decode cX5_shotForEdge 29 = .ok (.new 41, 3) := by decide +kernel
theorem dX5_shotForEdge_32 : decode cX5_shotForEdge 32 = .ok (.dup, 1) := by decide +kernel
theorem dX5_shotForEdge_33 : decode cX5_shotForEdge 33 = .ok (.ldc_w 340, 3) := by decide +kernel
theorem dX5_shotForEdge_36 : decode cX5_shotForEdge 36 = .ok (.invokespecial 45, 3) := by decide +kernel
theorem dX5_shotForEdge_39 : decode cX5_shotForEdge 39 = .ok (.athrow, 1) := by decide +kernel
theorem dX5_shotForEdge_40 : decode cX5_shotForEdge 40 = .ok (.aload_n 0, 1) := by decide +kernel
theorem dX5_shotForEdge_41 : decode cX5_shotForEdge 41 = .ok (.aload 4, 2) := by decide +kernel
theorem dX5_shotForEdge_43 : decode cX5_shotForEdge 43 = .ok (.invokevirtual 122, 3) := by decide +kernel
theorem dX5_shotForEdge_46 : decode cX5_shotForEdge 46 = .ok (.aload 4, 2) := by decide +kernel
theorem dX5_shotForEdge_48 : decode cX5_shotForEdge 48 = .ok (.getfield 148, 3) := by decide +kernel
theorem dX5_shotForEdge_51 : decode cX5_shotForEdge 51 = .ok (.iload_n 2, 1) := by decide +kernel
theorem dX5_shotForEdge_52 : decode cX5_shotForEdge 52 = .ok (.invokevirtual 342, 3) := by decide +kernel
theorem dX5_shotForEdge_55 : decode cX5_shotForEdge 55 = .ok (.ifCond .ne 14, 3) := by decide +kernel
theorem dX5_shotForEdge_58 : decode cX5_shotForEdge 58 = .ok (.new 60, 3) := by decide +kernel
theorem dX5_shotForEdge_61 : decode cX5_shotForEdge 61 = .ok (.dup, 1) := by decide +kernel
theorem dX5_shotForEdge_62 : decode cX5_shotForEdge 62 = .ok (.ldc_w 346, 3) := by decide +kernel
theorem dX5_shotForEdge_65 : decode cX5_shotForEdge 65 = .ok (.invokespecial 64, 3) := by decide +kernel
theorem dX5_shotForEdge_68 : decode cX5_shotForEdge 68 = .ok (.athrow, 1) := by decide +kernel
theorem dX5_shotForEdge_69 : decode cX5_shotForEdge 69 = .ok (.aload 4, 2) := by decide +kernel
theorem dX5_shotForEdge_71 : decode cX5_shotForEdge 71 = .ok (.areturn, 1) := by decide +kernel
theorem dX5_checkCut_0 : decode cX5_checkCut 0 = .ok (.iload_n 1, 1) := by decide +kernel
theorem dX5_checkCut_1 : decode cX5_checkCut 1 = .ok (.iconst 1, 1) := by decide +kernel
theorem dX5_checkCut_2 : decode cX5_checkCut 2 = .ok (.if_icmp .lt 14, 3) := by decide +kernel
theorem dX5_checkCut_5 : decode cX5_checkCut 5 = .ok (.iload_n 1, 1) := by decide +kernel
theorem dX5_checkCut_6 : decode cX5_checkCut 6 = .ok (.aload_n 0, 1) := by decide +kernel
theorem dX5_checkCut_7 : decode cX5_checkCut 7 = .ok (.getfield 16, 3) := by decide +kernel
theorem dX5_checkCut_10 : decode cX5_checkCut 10 = .ok (.invokevirtual 37, 3) := by decide +kernel
theorem dX5_checkCut_13 : decode cX5_checkCut 13 = .ok (.if_icmp .lt 14, 3) := by decide +kernel
theorem dX5_checkCut_16 : decode cX5_checkCut 16 = .ok (.new 111, 3) := by decide +kernel
theorem dX5_checkCut_19 : decode cX5_checkCut 19 = .ok (.dup, 1) := by decide +kernel
theorem dX5_checkCut_20 : decode cX5_checkCut 20 = .ok (.ldc_w 348, 3) := by decide +kernel
theorem dX5_checkCut_23 : decode cX5_checkCut 23 = .ok (.invokespecial 115, 3) := by decide +kernel
theorem dX5_checkCut_26 : decode cX5_checkCut 26 = .ok (.athrow, 1) := by decide +kernel
theorem dX5_checkCut_27 : decode cX5_checkCut 27 = .ok (.return_, 1) := by decide +kernel
theorem dX5_checkShortReel_0 : decode cX5_checkShortReel 0 = .ok (.aload_n 0, 1) := by decide +kernel
theorem dX5_checkShortReel_1 : decode cX5_checkShortReel 1 = .ok (.getfield 16, 3) := by decide +kernel
theorem dX5_checkShortReel_4 : decode cX5_checkShortReel 4 = .ok (.invokevirtual 350, 3) := by decide +kernel
theorem dX5_checkShortReel_7 : decode cX5_checkShortReel 7 = .ok (.ifCond .ne 15, 3) := by decide +kernel
theorem dX5_checkShortReel_10 : decode cX5_checkShortReel 10 = .ok (.aload_n 0, 1) := by decide +kernel
theorem dX5_checkShortReel_11 : decode cX5_checkShortReel 11 = .ok (.getfield 16, 3) := by decide +kernel
theorem dX5_checkShortReel_14 : decode cX5_checkShortReel 14 = .ok (.invokevirtual 37, 3) := by decide +kernel
theorem dX5_checkShortReel_17 : decode cX5_checkShortReel 17 = .ok (.bipush 6, 2) := by decide +kernel
theorem dX5_checkShortReel_19 : decode cX5_checkShortReel 19 = .ok (.if_icmp .le 14, 3) := by decide +kernel
theorem dX5_checkShortReel_22 : decode cX5_checkShortReel 22 = .ok (.new 60, 3) := by decide +kernel
theorem dX5_checkShortReel_25 : decode cX5_checkShortReel 25 = .ok (.dup, 1) := by decide +kernel
theorem dX5_checkShortReel_26 : decode cX5_checkShortReel 26 = .ok (.ldc_w 353, 3) := by decide +kernel
theorem dX5_checkShortReel_29 : decode cX5_checkShortReel 29 = .ok (.invokespecial 64, 3) := by decide +kernel
theorem dX5_checkShortReel_32 : decode cX5_checkShortReel 32 = .ok (.athrow, 1) := by decide +kernel
theorem dX5_checkShortReel_33 : decode cX5_checkShortReel 33 = .ok (.return_, 1) := by decide +kernel
theorem dX5_placeOf_0 : decode cX5_placeOf 0 = .ok (.iconst 0, 1) := by decide +kernel
theorem dX5_placeOf_1 : decode cX5_placeOf 1 = .ok (.istore_n 2, 1) := by decide +kernel
theorem dX5_placeOf_2 : decode cX5_placeOf 2 = .ok (.iload_n 2, 1) := by decide +kernel
theorem dX5_placeOf_3 : decode cX5_placeOf 3 = .ok (.aload_n 0, 1) := by decide +kernel
theorem dX5_placeOf_4 : decode cX5_placeOf 4 = .ok (.getfield 16, 3) := by decide +kernel
theorem dX5_placeOf_7 : decode cX5_placeOf 7 = .ok (.invokevirtual 37, 3) := by decide +kernel
theorem dX5_placeOf_10 : decode cX5_placeOf 10 = .ok (.if_icmp .ge 32, 3) := by decide +kernel
theorem dX5_placeOf_13 : decode cX5_placeOf 13 = .ok (.aload_n 0, 1) := by decide +kernel
theorem dX5_placeOf_14 : decode cX5_placeOf 14 = .ok (.getfield 16, 3) := by decide +kernel
theorem dX5_placeOf_17 : decode cX5_placeOf 17 = .ok (.iload_n 2, 1) := by decide +kernel
theorem dX5_placeOf_18 : decode cX5_placeOf 18 = .ok (.invokevirtual 116, 3) := by decide +kernel
theorem dX5_placeOf_21 : decode cX5_placeOf 21 = .ok (.checkcast 70, 3) := by decide +kernel
theorem dX5_placeOf_24 : decode cX5_placeOf 24 = .ok (.getfield 90, 3) := by decide +kernel
theorem dX5_placeOf_27 : decode cX5_placeOf 27 = .ok (.aload_n 1, 1) := by decide +kernel
theorem dX5_placeOf_28 : decode cX5_placeOf 28 = .ok (.getfield 90, 3) := by decide +kernel
theorem dX5_placeOf_31 : decode cX5_placeOf 31 = .ok (.if_icmp .ne 5, 3) := by decide +kernel
theorem dX5_placeOf_34 : decode cX5_placeOf 34 = .ok (.iload_n 2, 1) := by decide +kernel
theorem dX5_placeOf_35 : decode cX5_placeOf 35 = .ok (.ireturn, 1) := by decide +kernel
theorem dX5_placeOf_36 : decode cX5_placeOf 36 = .ok (.iinc 2 1, 3) := by decide +kernel
theorem dX5_placeOf_39 : decode cX5_placeOf 39 = .ok (.goto (-37), 3) := by decide +kernel
theorem dX5_placeOf_42 : decode cX5_placeOf 42 = .ok (.iconst (-1), 1) := by decide +kernel
theorem dX5_placeOf_43 : decode cX5_placeOf 43 = .ok (.ireturn, 1) := by decide +kernel
theorem dX5_beginOf_0 : decode cX5_beginOf 0 = .ok (.iconst 0, 1) := by decide +kernel
theorem dX5_beginOf_1 : decode cX5_beginOf 1 = .ok (.istore_n 2, 1) := by decide +kernel
theorem dX5_beginOf_2 : decode cX5_beginOf 2 = .ok (.iconst 0, 1) := by decide +kernel
theorem dX5_beginOf_3 : decode cX5_beginOf 3 = .ok (.istore_n 3, 1) := by decide +kernel
theorem dX5_beginOf_4 : decode cX5_beginOf 4 = .ok (.iload_n 3, 1) := by decide +kernel
theorem dX5_beginOf_5 : decode cX5_beginOf 5 = .ok (.iload_n 1, 1) := by decide +kernel
theorem dX5_beginOf_6 : decode cX5_beginOf 6 = .ok (.if_icmp .ge 37, 3) := by decide +kernel
theorem dX5_beginOf_9 : decode cX5_beginOf 9 = .ok (.iload_n 3, 1) := by decide +kernel
theorem dX5_beginOf_10 : decode cX5_beginOf 10 = .ok (.aload_n 0, 1) := by decide +kernel
theorem dX5_beginOf_11 : decode cX5_beginOf 11 = .ok (.getfield 16, 3) := by decide +kernel
theorem dX5_beginOf_14 : decode cX5_beginOf 14 = .ok (.invokevirtual 37, 3) := by decide +kernel
theorem dX5_beginOf_17 : decode cX5_beginOf 17 = .ok (.if_icmp .ge 26, 3) := by decide +kernel
theorem dX5_beginOf_20 : decode cX5_beginOf 20 = .ok (.iload_n 2, 1) := by decide +kernel
theorem dX5_beginOf_21 : decode cX5_beginOf 21 = .ok (.aload_n 0, 1) := by decide +kernel
theorem dX5_beginOf_22 : decode cX5_beginOf 22 = .ok (.getfield 16, 3) := by decide +kernel
theorem dX5_beginOf_25 : decode cX5_beginOf 25 = .ok (.iload_n 3, 1) := by decide +kernel
theorem dX5_beginOf_26 : decode cX5_beginOf 26 = .ok (.invokevirtual 116, 3) := by decide +kernel
theorem dX5_beginOf_29 : decode cX5_beginOf 29 = .ok (.checkcast 70, 3) := by decide +kernel
theorem dX5_beginOf_32 : decode cX5_beginOf 32 = .ok (.getfield 187, 3) := by decide +kernel
theorem dX5_beginOf_35 : decode cX5_beginOf 35 = .ok (.iadd, 1) := by decide +kernel
theorem dX5_beginOf_36 : decode cX5_beginOf 36 = .ok (.istore_n 2, 1) := by decide +kernel
theorem dX5_beginOf_37 : decode cX5_beginOf 37 = .ok (.iinc 3 1, 3) := by decide +kernel
theorem dX5_beginOf_40 : decode cX5_beginOf 40 = .ok (.goto (-36), 3) := by decide +kernel
theorem dX5_beginOf_43 : decode cX5_beginOf 43 = .ok (.iload_n 2, 1) := by decide +kernel
theorem dX5_beginOf_44 : decode cX5_beginOf 44 = .ok (.ireturn, 1) := by decide +kernel
theorem dX5_indexSeen_0 : decode cX5_indexSeen 0 = .ok (.iconst 0, 1) := by decide +kernel
theorem dX5_indexSeen_1 : decode cX5_indexSeen 1 = .ok (.istore_n 2, 1) := by decide +kernel
theorem dX5_indexSeen_2 : decode cX5_indexSeen 2 = .ok (.iconst 0, 1) := by decide +kernel
theorem dX5_indexSeen_3 : decode cX5_indexSeen 3 = .ok (.istore_n 3, 1) := by decide +kernel
theorem dX5_indexSeen_4 : decode cX5_indexSeen 4 = .ok (.iload_n 3, 1) := by decide +kernel
theorem dX5_indexSeen_5 : decode cX5_indexSeen 5 = .ok (.aload_n 0, 1) := by decide +kernel
theorem dX5_indexSeen_6 : decode cX5_indexSeen 6 = .ok (.getfield 16, 3) := by decide +kernel
theorem dX5_indexSeen_9 : decode cX5_indexSeen 9 = .ok (.invokevirtual 37, 3) := by decide +kernel
theorem dX5_indexSeen_12 : decode cX5_indexSeen 12 = .ok (.if_icmp .ge 50, 3) := by decide +kernel
theorem dX5_indexSeen_15 : decode cX5_indexSeen 15 = .ok (.iload_n 1, 1) := by decide +kernel
theorem dX5_indexSeen_16 : decode cX5_indexSeen 16 = .ok (.ifCond .lt 46, 3) := by decide +kernel
theorem dX5_indexSeen_19 : decode cX5_indexSeen 19 = .ok (.iload_n 2, 1) := by decide +kernel
theorem dX5_indexSeen_20 : decode cX5_indexSeen 20 = .ok (.aload_n 0, 1) := by decide +kernel
theorem dX5_indexSeen_21 : decode cX5_indexSeen 21 = .ok (.getfield 16, 3) := by decide +kernel
theorem dX5_indexSeen_24 : decode cX5_indexSeen 24 = .ok (.iload_n 3, 1) := by decide +kernel
theorem dX5_indexSeen_25 : decode cX5_indexSeen 25 = .ok (.invokevirtual 116, 3) := by decide +kernel
theorem dX5_indexSeen_28 : decode cX5_indexSeen 28 = .ok (.checkcast 70, 3) := by decide +kernel
theorem dX5_indexSeen_31 : decode cX5_indexSeen 31 = .ok (.getfield 187, 3) := by decide +kernel
theorem dX5_indexSeen_34 : decode cX5_indexSeen 34 = .ok (.iadd, 1) := by decide +kernel
theorem dX5_indexSeen_35 : decode cX5_indexSeen 35 = .ok (.istore_n 2, 1) := by decide +kernel
theorem dX5_indexSeen_36 : decode cX5_indexSeen 36 = .ok (.iload_n 1, 1) := by decide +kernel
theorem dX5_indexSeen_37 : decode cX5_indexSeen 37 = .ok (.iload_n 2, 1) := by decide +kernel
theorem dX5_indexSeen_38 : decode cX5_indexSeen 38 = .ok (.if_icmp .ge 18, 3) := by decide +kernel
theorem dX5_indexSeen_41 : decode cX5_indexSeen 41 = .ok (.aload_n 0, 1) := by decide +kernel
theorem dX5_indexSeen_42 : decode cX5_indexSeen 42 = .ok (.getfield 16, 3) := by decide +kernel
theorem dX5_indexSeen_45 : decode cX5_indexSeen 45 = .ok (.iload_n 3, 1) := by decide +kernel
theorem dX5_indexSeen_46 : decode cX5_indexSeen 46 = .ok (.invokevirtual 116, 3) := by decide +kernel
theorem dX5_indexSeen_49 : decode cX5_indexSeen 49 = .ok (.checkcast 70, 3) := by decide +kernel
theorem dX5_indexSeen_52 : decode cX5_indexSeen 52 = .ok (.getfield 90, 3) := by decide +kernel
theorem dX5_indexSeen_55 : decode cX5_indexSeen 55 = .ok (.ireturn, 1) := by decide +kernel
theorem dX5_indexSeen_56 : decode cX5_indexSeen 56 = .ok (.iinc 3 1, 3) := by decide +kernel
theorem dX5_indexSeen_59 : decode cX5_indexSeen 59 = .ok (.goto (-55), 3) := by decide +kernel
theorem dX5_indexSeen_62 : decode cX5_indexSeen 62 = .ok (.iconst (-1), 1) := by decide +kernel
theorem dX5_indexSeen_63 : decode cX5_indexSeen 63 = .ok (.ireturn, 1) := by decide +kernel
theorem dX5_nameNumberOf_0 : decode cX5_nameNumberOf 0 = .ok (.aload_n 0, 1) := by decide +kernel
theorem dX5_nameNumberOf_1 : decode cX5_nameNumberOf 1 = .ok (.getfield 48, 3) := by decide +kernel
theorem dX5_nameNumberOf_4 : decode cX5_nameNumberOf 4 = .ok (.ifCond .eq 8, 3) := by decide +kernel
theorem dX5_nameNumberOf_7 : decode cX5_nameNumberOf 7 = .ok (.aload_n 1, 1) := by decide +kernel
theorem dX5_nameNumberOf_8 : decode cX5_nameNumberOf 8 = .ok (.getfield 75, 3) := by decide +kernel
theorem dX5_nameNumberOf_11 : decode cX5_nameNumberOf 11 = .ok (.ireturn, 1) := by decide +kernel
theorem dX5_nameNumberOf_12 : decode cX5_nameNumberOf 12 = .ok (.aload_n 0, 1) := by decide +kernel
theorem dX5_nameNumberOf_13 : decode cX5_nameNumberOf 13 = .ok (.aload_n 1, 1) := by decide +kernel
theorem dX5_nameNumberOf_14 : decode cX5_nameNumberOf 14 = .ok (.invokevirtual 327, 3) := by decide +kernel
theorem dX5_nameNumberOf_17 : decode cX5_nameNumberOf 17 = .ok (.istore_n 2, 1) := by decide +kernel
theorem dX5_nameNumberOf_18 : decode cX5_nameNumberOf 18 = .ok (.iload_n 2, 1) := by decide +kernel
theorem dX5_nameNumberOf_19 : decode cX5_nameNumberOf 19 = .ok (.iconst (-1), 1) := by decide +kernel
theorem dX5_nameNumberOf_20 : decode cX5_nameNumberOf 20 = .ok (.if_icmp .ne 7, 3) := by decide +kernel
theorem dX5_nameNumberOf_23 : decode cX5_nameNumberOf 23 = .ok (.iconst (-1), 1) := by decide +kernel
theorem dX5_nameNumberOf_24 : decode cX5_nameNumberOf 24 = .ok (.goto 6, 3) := by decide +kernel
theorem dX5_nameNumberOf_27 : decode cX5_nameNumberOf 27 = .ok (.iload_n 2, 1) := by decide +kernel
theorem dX5_nameNumberOf_28 : decode cX5_nameNumberOf 28 = .ok (.iconst 1, 1) := by decide +kernel
theorem dX5_nameNumberOf_29 : decode cX5_nameNumberOf 29 = .ok (.iadd, 1) := by decide +kernel
theorem dX5_nameNumberOf_30 : decode cX5_nameNumberOf 30 = .ok (.ireturn, 1) := by decide +kernel
theorem dX5_numberBehind_0 : decode cX5_numberBehind 0 = .ok (.iload_n 1, 1) := by decide +kernel
theorem dX5_numberBehind_1 : decode cX5_numberBehind 1 = .ok (.iconst 1, 1) := by decide +kernel
theorem dX5_numberBehind_2 : decode cX5_numberBehind 2 = .ok (.if_icmp .lt 14, 3) := by decide +kernel
theorem dX5_numberBehind_5 : decode cX5_numberBehind 5 = .ok (.iload_n 1, 1) := by decide +kernel
theorem dX5_numberBehind_6 : decode cX5_numberBehind 6 = .ok (.aload_n 0, 1) := by decide +kernel
theorem dX5_numberBehind_7 : decode cX5_numberBehind 7 = .ok (.getfield 16, 3) := by decide +kernel
theorem dX5_numberBehind_10 : decode cX5_numberBehind 10 = .ok (.invokevirtual 37, 3) := by decide +kernel
theorem dX5_numberBehind_13 : decode cX5_numberBehind 13 = .ok (.if_icmp .le 7, 3) := by decide +kernel
theorem dX5_numberBehind_16 : decode cX5_numberBehind 16 = .ok (.iconst 0, 1) := by decide +kernel
theorem dX5_numberBehind_17 : decode cX5_numberBehind 17 = .ok (.goto 19, 3) := by decide +kernel
theorem dX5_numberBehind_20 : decode cX5_numberBehind 20 = .ok (.aload_n 0, 1) := by decide +kernel
theorem dX5_numberBehind_21 : decode cX5_numberBehind 21 = .ok (.getfield 16, 3) := by decide +kernel
theorem dX5_numberBehind_24 : decode cX5_numberBehind 24 = .ok (.iload_n 1, 1) := by decide +kernel
theorem dX5_numberBehind_25 : decode cX5_numberBehind 25 = .ok (.iconst 1, 1) := by decide +kernel
theorem dX5_numberBehind_26 : decode cX5_numberBehind 26 = .ok (.isub, 1) := by decide +kernel
theorem dX5_numberBehind_27 : decode cX5_numberBehind 27 = .ok (.invokevirtual 116, 3) := by decide +kernel
theorem dX5_numberBehind_30 : decode cX5_numberBehind 30 = .ok (.checkcast 70, 3) := by decide +kernel
theorem dX5_numberBehind_33 : decode cX5_numberBehind 33 = .ok (.getfield 75, 3) := by decide +kernel
theorem dX5_numberBehind_36 : decode cX5_numberBehind 36 = .ok (.ireturn, 1) := by decide +kernel
theorem dX5_freeLetter_0 : decode cX5_freeLetter 0 = .ok (.bipush 65, 2) := by decide +kernel
theorem dX5_freeLetter_2 : decode cX5_freeLetter 2 = .ok (.istore_n 2, 1) := by decide +kernel
theorem dX5_freeLetter_3 : decode cX5_freeLetter 3 = .ok (.iload_n 2, 1) := by decide +kernel
theorem dX5_freeLetter_4 : decode cX5_freeLetter 4 = .ok (.bipush 70, 2) := by decide +kernel
theorem dX5_freeLetter_6 : decode cX5_freeLetter 6 = .ok (.if_icmp .gt 22, 3) := by decide +kernel
theorem dX5_freeLetter_9 : decode cX5_freeLetter 9 = .ok (.aload_n 0, 1) := by decide +kernel
theorem dX5_freeLetter_10 : decode cX5_freeLetter 10 = .ok (.iload_n 1, 1) := by decide +kernel
theorem dX5_freeLetter_11 : decode cX5_freeLetter 11 = .ok (.iload_n 2, 1) := by decide +kernel
theorem dX5_freeLetter_12 : decode cX5_freeLetter 12 = .ok (.invokevirtual 355, 3) := by decide +kernel
theorem dX5_freeLetter_15 : decode cX5_freeLetter 15 = .ok (.ifCond .ne 5, 3) := by decide +kernel
theorem dX5_freeLetter_18 : decode cX5_freeLetter 18 = .ok (.iload_n 2, 1) := by decide +kernel
theorem dX5_freeLetter_19 : decode cX5_freeLetter 19 = .ok (.ireturn, 1) := by decide +kernel
theorem dX5_freeLetter_20 : decode cX5_freeLetter 20 = .ok (.iload_n 2, 1) := by decide +kernel
theorem dX5_freeLetter_21 : decode cX5_freeLetter 21 = .ok (.iconst 1, 1) := by decide +kernel
theorem dX5_freeLetter_22 : decode cX5_freeLetter 22 = .ok (.iadd, 1) := by decide +kernel
theorem dX5_freeLetter_23 : decode cX5_freeLetter 23 = .ok (.i2c, 1) := by decide +kernel
theorem dX5_freeLetter_24 : decode cX5_freeLetter 24 = .ok (.istore_n 2, 1) := by decide +kernel
theorem dX5_freeLetter_25 : decode cX5_freeLetter 25 = .ok (.goto (-22), 3) := by decide +kernel
theorem dX5_freeLetter_28 : decode cX5_freeLetter 28 = .ok (.bipush 45, 2) := by decide +kernel
theorem dX5_freeLetter_30 : decode cX5_freeLetter 30 = .ok (.ireturn, 1) := by decide +kernel
theorem dX5_isNameTaken_0 : decode cX5_isNameTaken 0 = .ok (.iconst 0, 1) := by decide +kernel
theorem dX5_isNameTaken_1 : decode cX5_isNameTaken 1 = .ok (.istore_n 3, 1) := by decide +kernel
theorem dX5_isNameTaken_2 : decode cX5_isNameTaken 2 = .ok (.iload_n 3, 1) := by decide +kernel
theorem dX5_isNameTaken_3 : decode cX5_isNameTaken 3 = .ok (.aload_n 0, 1) := by decide +kernel
theorem dX5_isNameTaken_4 : decode cX5_isNameTaken 4 = .ok (.getfield 10, 3) := by decide +kernel
theorem dX5_isNameTaken_7 : decode cX5_isNameTaken 7 = .ok (.invokevirtual 37, 3) := by decide +kernel
theorem dX5_isNameTaken_10 : decode cX5_isNameTaken 10 = .ok (.if_icmp .ge 42, 3) := by decide +kernel
theorem dX5_isNameTaken_13 : decode cX5_isNameTaken 13 = .ok (.aload_n 0, 1) := by decide +kernel
theorem dX5_isNameTaken_14 : decode cX5_isNameTaken 14 = .ok (.getfield 10, 3) := by decide +kernel
theorem dX5_isNameTaken_17 : decode cX5_isNameTaken 17 = .ok (.iload_n 3, 1) := by decide +kernel
theorem dX5_isNameTaken_18 : decode cX5_isNameTaken 18 = .ok (.invokevirtual 116, 3) := by decide +kernel
theorem dX5_isNameTaken_21 : decode cX5_isNameTaken 21 = .ok (.checkcast 70, 3) := by decide +kernel
theorem dX5_isNameTaken_24 : decode cX5_isNameTaken 24 = .ok (.astore 4, 2) := by decide +kernel
theorem dX5_isNameTaken_26 : decode cX5_isNameTaken 26 = .ok (.aload 4, 2) := by decide +kernel
theorem dX5_isNameTaken_28 : decode cX5_isNameTaken 28 = .ok (.getfield 75, 3) := by decide +kernel
theorem dX5_isNameTaken_31 : decode cX5_isNameTaken 31 = .ok (.iload_n 1, 1) := by decide +kernel
theorem dX5_isNameTaken_32 : decode cX5_isNameTaken 32 = .ok (.if_icmp .ne 14, 3) := by decide +kernel
theorem dX5_isNameTaken_35 : decode cX5_isNameTaken 35 = .ok (.aload 4, 2) := by decide +kernel
theorem dX5_isNameTaken_37 : decode cX5_isNameTaken 37 = .ok (.getfield 79, 3) := by decide +kernel
theorem dX5_isNameTaken_40 : decode cX5_isNameTaken 40 = .ok (.iload_n 2, 1) := by decide +kernel
theorem dX5_isNameTaken_41 : decode cX5_isNameTaken 41 = .ok (.if_icmp .ne 5, 3) := by decide +kernel
theorem dX5_isNameTaken_44 : decode cX5_isNameTaken 44 = .ok (.iconst 1, 1) := by decide +kernel
theorem dX5_isNameTaken_45 : decode cX5_isNameTaken 45 = .ok (.ireturn, 1) := by decide +kernel
theorem dX5_isNameTaken_46 : decode cX5_isNameTaken 46 = .ok (.iinc 3 1, 3) := by decide +kernel
theorem dX5_isNameTaken_49 : decode cX5_isNameTaken 49 = .ok (.goto (-47), 3) := by decide +kernel
theorem dX5_isNameTaken_52 : decode cX5_isNameTaken 52 = .ok (.iconst 0, 1) := by decide +kernel
theorem dX5_isNameTaken_53 : decode cX5_isNameTaken 53 = .ok (.ireturn, 1) := by decide +kernel
theorem dX5_brokenCuts_0 : decode cX5_brokenCuts 0 = .ok (.iconst 0, 1) := by decide +kernel
theorem dX5_brokenCuts_1 : decode cX5_brokenCuts 1 = .ok (.istore_n 1, 1) := by decide +kernel
theorem dX5_brokenCuts_2 : decode cX5_brokenCuts 2 = .ok (.iconst 1, 1) := by decide +kernel
theorem dX5_brokenCuts_3 : decode cX5_brokenCuts 3 = .ok (.istore_n 2, 1) := by decide +kernel
theorem dX5_brokenCuts_4 : decode cX5_brokenCuts 4 = .ok (.iload_n 2, 1) := by decide +kernel
theorem dX5_brokenCuts_5 : decode cX5_brokenCuts 5 = .ok (.aload_n 0, 1) := by decide +kernel
theorem dX5_brokenCuts_6 : decode cX5_brokenCuts 6 = .ok (.getfield 16, 3) := by decide +kernel
theorem dX5_brokenCuts_9 : decode cX5_brokenCuts 9 = .ok (.invokevirtual 37, 3) := by decide +kernel
theorem dX5_brokenCuts_12 : decode cX5_brokenCuts 12 = .ok (.if_icmp .ge 42, 3) := by decide +kernel
theorem dX5_brokenCuts_15 : decode cX5_brokenCuts 15 = .ok (.aload_n 0, 1) := by decide +kernel
theorem dX5_brokenCuts_16 : decode cX5_brokenCuts 16 = .ok (.getfield 16, 3) := by decide +kernel
theorem dX5_brokenCuts_19 : decode cX5_brokenCuts 19 = .ok (.iload_n 2, 1) := by decide +kernel
theorem dX5_brokenCuts_20 : decode cX5_brokenCuts 20 = .ok (.iconst 1, 1) := by decide +kernel
theorem dX5_brokenCuts_21 : decode cX5_brokenCuts 21 = .ok (.isub, 1) := by decide +kernel
theorem dX5_brokenCuts_22 : decode cX5_brokenCuts 22 = .ok (.invokevirtual 116, 3) := by decide +kernel
theorem dX5_brokenCuts_25 : decode cX5_brokenCuts 25 = .ok (.checkcast 70, 3) := by decide +kernel
theorem dX5_brokenCuts_28 : decode cX5_brokenCuts 28 = .ok (.aload_n 0, 1) := by decide +kernel
theorem dX5_brokenCuts_29 : decode cX5_brokenCuts 29 = .ok (.getfield 16, 3) := by decide +kernel
theorem dX5_brokenCuts_32 : decode cX5_brokenCuts 32 = .ok (.iload_n 2, 1) := by decide +kernel
theorem dX5_brokenCuts_33 : decode cX5_brokenCuts 33 = .ok (.invokevirtual 116, 3) := by decide +kernel
theorem dX5_brokenCuts_36 : decode cX5_brokenCuts 36 = .ok (.checkcast 70, 3) := by decide +kernel
theorem dX5_brokenCuts_39 : decode cX5_brokenCuts 39 = .ok (.invokestatic 221, 3) := by decide +kernel
theorem dX5_brokenCuts_42 : decode cX5_brokenCuts 42 = .ok (.ifCond .eq 6, 3) := by decide +kernel
theorem dX5_brokenCuts_45 : decode cX5_brokenCuts 45 = .ok (.iinc 1 1, 3) := by decide +kernel
theorem dX5_brokenCuts_48 : decode cX5_brokenCuts 48 = .ok (.iinc 2 1, 3) := by decide +kernel
theorem dX5_brokenCuts_51 : decode cX5_brokenCuts 51 = .ok (.goto (-47), 3) := by decide +kernel
theorem dX5_brokenCuts_54 : decode cX5_brokenCuts 54 = .ok (.iload_n 1, 1) := by decide +kernel
theorem dX5_brokenCuts_55 : decode cX5_brokenCuts 55 = .ok (.ireturn, 1) := by decide +kernel
theorem dX5_boardsWith_0 : decode cX5_boardsWith 0 = .ok (.iconst 0, 1) := by decide +kernel
theorem dX5_boardsWith_1 : decode cX5_boardsWith 1 = .ok (.istore_n 2, 1) := by decide +kernel
theorem dX5_boardsWith_2 : decode cX5_boardsWith 2 = .ok (.iconst 0, 1) := by decide +kernel
theorem dX5_boardsWith_3 : decode cX5_boardsWith 3 = .ok (.istore_n 3, 1) := by decide +kernel
theorem dX5_boardsWith_4 : decode cX5_boardsWith 4 = .ok (.iload_n 3, 1) := by decide +kernel
theorem dX5_boardsWith_5 : decode cX5_boardsWith 5 = .ok (.aload_n 0, 1) := by decide +kernel
theorem dX5_boardsWith_6 : decode cX5_boardsWith 6 = .ok (.getfield 10, 3) := by decide +kernel
theorem dX5_boardsWith_9 : decode cX5_boardsWith 9 = .ok (.invokevirtual 37, 3) := by decide +kernel
theorem dX5_boardsWith_12 : decode cX5_boardsWith 12 = .ok (.if_icmp .ge 30, 3) := by decide +kernel
theorem dX5_boardsWith_15 : decode cX5_boardsWith 15 = .ok (.aload_n 0, 1) := by decide +kernel
theorem dX5_boardsWith_16 : decode cX5_boardsWith 16 = .ok (.getfield 10, 3) := by decide +kernel
theorem dX5_boardsWith_19 : decode cX5_boardsWith 19 = .ok (.iload_n 3, 1) := by decide +kernel
theorem dX5_boardsWith_20 : decode cX5_boardsWith 20 = .ok (.invokevirtual 116, 3) := by decide +kernel
theorem dX5_boardsWith_23 : decode cX5_boardsWith 23 = .ok (.checkcast 70, 3) := by decide +kernel
theorem dX5_boardsWith_26 : decode cX5_boardsWith 26 = .ok (.getfield 108, 3) := by decide +kernel
theorem dX5_boardsWith_29 : decode cX5_boardsWith 29 = .ok (.iload_n 1, 1) := by decide +kernel
theorem dX5_boardsWith_30 : decode cX5_boardsWith 30 = .ok (.if_icmp .ne 6, 3) := by decide +kernel
theorem dX5_boardsWith_33 : decode cX5_boardsWith 33 = .ok (.iinc 2 1, 3) := by decide +kernel
theorem dX5_boardsWith_36 : decode cX5_boardsWith 36 = .ok (.iinc 3 1, 3) := by decide +kernel
theorem dX5_boardsWith_39 : decode cX5_boardsWith 39 = .ok (.goto (-35), 3) := by decide +kernel
theorem dX5_boardsWith_42 : decode cX5_boardsWith 42 = .ok (.iload_n 2, 1) := by decide +kernel
theorem dX5_boardsWith_43 : decode cX5_boardsWith 43 = .ok (.ireturn, 1) := by decide +kernel
theorem dX5_notesOf_0 : decode cX5_notesOf 0 = .ok (.iconst 0, 1) := by decide +kernel
theorem dX5_notesOf_1 : decode cX5_notesOf 1 = .ok (.istore_n 2, 1) := by decide +kernel
theorem dX5_notesOf_2 : decode cX5_notesOf 2 = .ok (.iconst 0, 1) := by decide +kernel
theorem dX5_notesOf_3 : decode cX5_notesOf 3 = .ok (.istore_n 3, 1) := by decide +kernel
theorem dX5_notesOf_4 : decode cX5_notesOf 4 = .ok (.iload_n 3, 1) := by decide +kernel
theorem dX5_notesOf_5 : decode cX5_notesOf 5 = .ok (.aload_n 0, 1) := by decide +kernel
theorem dX5_notesOf_6 : decode cX5_notesOf 6 = .ok (.getfield 19, 3) := by decide +kernel
theorem dX5_notesOf_9 : decode cX5_notesOf 9 = .ok (.invokevirtual 37, 3) := by decide +kernel
theorem dX5_notesOf_12 : decode cX5_notesOf 12 = .ok (.if_icmp .ge 30, 3) := by decide +kernel
theorem dX5_notesOf_15 : decode cX5_notesOf 15 = .ok (.aload_n 0, 1) := by decide +kernel
theorem dX5_notesOf_16 : decode cX5_notesOf 16 = .ok (.getfield 19, 3) := by decide +kernel
theorem dX5_notesOf_19 : decode cX5_notesOf 19 = .ok (.iload_n 3, 1) := by decide +kernel
theorem dX5_notesOf_20 : decode cX5_notesOf 20 = .ok (.invokevirtual 116, 3) := by decide +kernel
theorem dX5_notesOf_23 : decode cX5_notesOf 23 = .ok (.checkcast 245, 3) := by decide +kernel
theorem dX5_notesOf_26 : decode cX5_notesOf 26 = .ok (.invokevirtual 253, 3) := by decide +kernel
theorem dX5_notesOf_29 : decode cX5_notesOf 29 = .ok (.iload_n 1, 1) := by decide +kernel
theorem dX5_notesOf_30 : decode cX5_notesOf 30 = .ok (.if_icmp .ne 6, 3) := by decide +kernel
theorem dX5_notesOf_33 : decode cX5_notesOf 33 = .ok (.iinc 2 1, 3) := by decide +kernel
theorem dX5_notesOf_36 : decode cX5_notesOf 36 = .ok (.iinc 3 1, 3) := by decide +kernel
theorem dX5_notesOf_39 : decode cX5_notesOf 39 = .ok (.goto (-35), 3) := by decide +kernel
theorem dX5_notesOf_42 : decode cX5_notesOf 42 = .ok (.iload_n 2, 1) := by decide +kernel
theorem dX5_notesOf_43 : decode cX5_notesOf 43 = .ok (.ireturn, 1) := by decide +kernel
theorem dX5_setupCount_0 : decode cX5_setupCount 0 = .ok (.iconst 0, 1) := by decide +kernel
theorem dX5_setupCount_1 : decode cX5_setupCount 1 = .ok (.istore_n 2, 1) := by decide +kernel
theorem dX5_setupCount_2 : decode cX5_setupCount 2 = .ok (.iconst 0, 1) := by decide +kernel
theorem dX5_setupCount_3 : decode cX5_setupCount 3 = .ok (.istore_n 3, 1) := by decide +kernel
theorem dX5_setupCount_4 : decode cX5_setupCount 4 = .ok (.iload_n 3, 1) := by decide +kernel
theorem dX5_setupCount_5 : decode cX5_setupCount 5 = .ok (.aload_n 0, 1) := by decide +kernel
theorem dX5_setupCount_6 : decode cX5_setupCount 6 = .ok (.getfield 16, 3) := by decide +kernel
theorem dX5_setupCount_9 : decode cX5_setupCount 9 = .ok (.invokevirtual 37, 3) := by decide +kernel
theorem dX5_setupCount_12 : decode cX5_setupCount 12 = .ok (.if_icmp .ge 42, 3) := by decide +kernel
theorem dX5_setupCount_15 : decode cX5_setupCount 15 = .ok (.aload_n 0, 1) := by decide +kernel
theorem dX5_setupCount_16 : decode cX5_setupCount 16 = .ok (.getfield 16, 3) := by decide +kernel
theorem dX5_setupCount_19 : decode cX5_setupCount 19 = .ok (.iload_n 3, 1) := by decide +kernel
theorem dX5_setupCount_20 : decode cX5_setupCount 20 = .ok (.invokevirtual 116, 3) := by decide +kernel
theorem dX5_setupCount_23 : decode cX5_setupCount 23 = .ok (.checkcast 70, 3) := by decide +kernel
theorem dX5_setupCount_26 : decode cX5_setupCount 26 = .ok (.astore 4, 2) := by decide +kernel
theorem dX5_setupCount_28 : decode cX5_setupCount 28 = .ok (.aload 4, 2) := by decide +kernel
theorem dX5_setupCount_30 : decode cX5_setupCount 30 = .ok (.getfield 273, 3) := by decide +kernel
theorem dX5_setupCount_33 : decode cX5_setupCount 33 = .ok (.ifCond .ne 7, 3) := by decide +kernel
theorem dX5_setupCount_36 : decode cX5_setupCount 36 = .ok (.iload_n 1, 1) := by decide +kernel
theorem dX5_setupCount_37 : decode cX5_setupCount 37 = .ok (.ifCond .ne 11, 3) := by decide +kernel
theorem dX5_setupCount_40 : decode cX5_setupCount 40 = .ok (.iload_n 2, 1) := by decide +kernel
theorem dX5_setupCount_41 : decode cX5_setupCount 41 = .ok (.aload 4, 2) := by decide +kernel
theorem dX5_setupCount_43 : decode cX5_setupCount 43 = .ok (.invokevirtual 359, 3) := by decide +kernel
theorem dX5_setupCount_46 : decode cX5_setupCount 46 = .ok (.ior, 1) := by decide +kernel
theorem dX5_setupCount_47 : decode cX5_setupCount 47 = .ok (.istore_n 2, 1) := by decide +kernel
theorem dX5_setupCount_48 : decode cX5_setupCount 48 = .ok (.iinc 3 1, 3) := by decide +kernel
theorem dX5_setupCount_51 : decode cX5_setupCount 51 = .ok (.goto (-47), 3) := by decide +kernel
theorem dX5_setupCount_54 : decode cX5_setupCount 54 = .ok (.iload_n 2, 1) := by decide +kernel
theorem dX5_setupCount_55 : decode cX5_setupCount 55 = .ok (.invokestatic 157, 3) := by decide +kernel
theorem dX5_setupCount_58 : decode cX5_setupCount 58 = .ok (.ireturn, 1) := by decide +kernel
theorem dX5_isBrokenBetween_0 : decode cX5_isBrokenBetween 0 = .ok (.aload_n 0, 1) := by decide +kernel
theorem dX5_isBrokenBetween_1 : decode cX5_isBrokenBetween 1 = .ok (.aload_n 1, 1) := by decide +kernel
theorem dX5_isBrokenBetween_2 : decode cX5_isBrokenBetween 2 = .ok (.invokestatic 201, 3) := by decide +kernel
theorem dX5_isBrokenBetween_5 : decode cX5_isBrokenBetween 5 = .ok (.istore_n 2, 1) := by decide +kernel
theorem dX5_isBrokenBetween_6 : decode cX5_isBrokenBetween 6 = .ok (.iload_n 2, 1) := by decide +kernel
theorem dX5_isBrokenBetween_7 : decode cX5_isBrokenBetween 7 = .ok (.bipush 45, 2) := by decide +kernel
theorem dX5_isBrokenBetween_9 : decode cX5_isBrokenBetween 9 = .ok (.if_icmp .eq 16, 3) := by decide +kernel
theorem dX5_isBrokenBetween_12 : decode cX5_isBrokenBetween 12 = .ok (.iload_n 2, 1) := by decide +kernel
theorem dX5_isBrokenBetween_13 : decode cX5_isBrokenBetween 13 = .ok (.aload_n 1, 1) := by decide +kernel
theorem dX5_isBrokenBetween_14 : decode cX5_isBrokenBetween 14 = .ok (.aload_n 0, 1) := by decide +kernel
theorem dX5_isBrokenBetween_15 : decode cX5_isBrokenBetween 15 = .ok (.invokevirtual 207, 3) := by decide +kernel
theorem dX5_isBrokenBetween_18 : decode cX5_isBrokenBetween 18 = .ok (.if_icmp .eq 7, 3) := by decide +kernel
theorem dX5_isBrokenBetween_21 : decode cX5_isBrokenBetween 21 = .ok (.iconst 1, 1) := by decide +kernel
theorem dX5_isBrokenBetween_22 : decode cX5_isBrokenBetween 22 = .ok (.goto 4, 3) := by decide +kernel
theorem dX5_isBrokenBetween_25 : decode cX5_isBrokenBetween 25 = .ok (.iconst 0, 1) := by decide +kernel
theorem dX5_isBrokenBetween_26 : decode cX5_isBrokenBetween 26 = .ok (.ireturn, 1) := by decide +kernel
theorem dX5_faultBetween_0 : decode cX5_faultBetween 0 = .ok (.aload_n 0, 1) := by decide +kernel
theorem dX5_faultBetween_1 : decode cX5_faultBetween 1 = .ok (.aload_n 1, 1) := by decide +kernel
theorem dX5_faultBetween_2 : decode cX5_faultBetween 2 = .ok (.invokestatic 362, 3) := by decide +kernel
theorem dX5_faultBetween_5 : decode cX5_faultBetween 5 = .ok (.ifCond .eq 6, 3) := by decide +kernel
theorem dX5_faultBetween_8 : decode cX5_faultBetween 8 = .ok (.bipush 120, 2) := by decide +kernel
theorem dX5_faultBetween_10 : decode cX5_faultBetween 10 = .ok (.ireturn, 1) := by decide +kernel
theorem dX5_faultBetween_11 : decode cX5_faultBetween 11 = .ok (.aload_n 0, 1) := by decide +kernel
theorem dX5_faultBetween_12 : decode cX5_faultBetween 12 = .ok (.aload_n 1, 1) := by decide +kernel
theorem dX5_faultBetween_13 : decode cX5_faultBetween 13 = .ok (.invokestatic 365, 3) := by decide +kernel
theorem dX5_faultBetween_16 : decode cX5_faultBetween 16 = .ok (.ifCond .eq 6, 3) := by decide +kernel
theorem dX5_faultBetween_19 : decode cX5_faultBetween 19 = .ok (.bipush 106, 2) := by decide +kernel
theorem dX5_faultBetween_21 : decode cX5_faultBetween 21 = .ok (.ireturn, 1) := by decide +kernel
theorem dX5_faultBetween_22 : decode cX5_faultBetween 22 = .ok (.aload_n 0, 1) := by decide +kernel
theorem dX5_faultBetween_23 : decode cX5_faultBetween 23 = .ok (.getfield 148, 3) := by decide +kernel
theorem dX5_faultBetween_26 : decode cX5_faultBetween 26 = .ok (.aload_n 1, 1) := by decide +kernel
theorem dX5_faultBetween_27 : decode cX5_faultBetween 27 = .ok (.getfield 148, 3) := by decide +kernel
theorem dX5_faultBetween_30 : decode cX5_faultBetween 30 = .ok (.invokestatic 368, 3) := by decide +kernel
theorem dX5_faultBetween_33 : decode cX5_faultBetween 33 = .ok (.ifCond .eq 6, 3) := by decide +kernel
theorem dX5_faultBetween_36 : decode cX5_faultBetween 36 = .ok (.bipush 103, 2) := by decide +kernel
theorem dX5_faultBetween_38 : decode cX5_faultBetween 38 = .ok (.ireturn, 1) := by decide +kernel
theorem dX5_faultBetween_39 : decode cX5_faultBetween 39 = .ok (.iconst 0, 1) := by decide +kernel
theorem dX5_faultBetween_40 : decode cX5_faultBetween 40 = .ok (.istore_n 2, 1) := by decide +kernel
theorem dX5_faultBetween_41 : decode cX5_faultBetween 41 = .ok (.iload_n 2, 1) := by decide +kernel
theorem dX5_faultBetween_42 : decode cX5_faultBetween 42 = .ok (.iconst 4, 1) := by decide +kernel
theorem dX5_faultBetween_43 : decode cX5_faultBetween 43 = .ok (.if_icmp .ge 27, 3) := by decide +kernel
theorem dX5_faultBetween_46 : decode cX5_faultBetween 46 = .ok (.aload_n 0, 1) := by decide +kernel
theorem dX5_faultBetween_47 : decode cX5_faultBetween 47 = .ok (.getfield 148, 3) := by decide +kernel
theorem dX5_faultBetween_50 : decode cX5_faultBetween 50 = .ok (.aload_n 1, 1) := by decide +kernel
theorem dX5_faultBetween_51 : decode cX5_faultBetween 51 = .ok (.getfield 148, 3) := by decide +kernel
theorem dX5_faultBetween_54 : decode cX5_faultBetween 54 = .ok (.iload_n 2, 1) := by decide +kernel
theorem dX5_faultBetween_55 : decode cX5_faultBetween 55 = .ok (.invokestatic 372, 3) := by decide +kernel
theorem dX5_faultBetween_58 : decode cX5_faultBetween 58 = .ok (.ifCond .eq 6, 3) := by decide +kernel
theorem dX5_faultBetween_61 : decode cX5_faultBetween 61 = .ok (.bipush 101, 2) := by decide +kernel
theorem dX5_faultBetween_63 : decode cX5_faultBetween 63 = .ok (.ireturn, 1) := by decide +kernel
theorem dX5_faultBetween_64 : decode cX5_faultBetween 64 = .ok (.iinc 2 1, 3) := by decide +kernel
theorem dX5_faultBetween_67 : decode cX5_faultBetween 67 = .ok (.goto (-26), 3) := by decide +kernel
theorem dX5_faultBetween_70 : decode cX5_faultBetween 70 = .ok (.iconst 0, 1) := by decide +kernel
theorem dX5_faultBetween_71 : decode cX5_faultBetween 71 = .ok (.istore_n 2, 1) := by decide +kernel
theorem dX5_faultBetween_72 : decode cX5_faultBetween 72 = .ok (.iload_n 2, 1) := by decide +kernel
theorem dX5_faultBetween_73 : decode cX5_faultBetween 73 = .ok (.iconst 4, 1) := by decide +kernel
theorem dX5_faultBetween_74 : decode cX5_faultBetween 74 = .ok (.if_icmp .ge 27, 3) := by decide +kernel
theorem dX5_faultBetween_77 : decode cX5_faultBetween 77 = .ok (.aload_n 0, 1) := by decide +kernel
theorem dX5_faultBetween_78 : decode cX5_faultBetween 78 = .ok (.getfield 148, 3) := by decide +kernel
theorem dX5_faultBetween_81 : decode cX5_faultBetween 81 = .ok (.aload_n 1, 1) := by decide +kernel
theorem dX5_faultBetween_82 : decode cX5_faultBetween 82 = .ok (.getfield 148, 3) := by decide +kernel
theorem dX5_faultBetween_85 : decode cX5_faultBetween 85 = .ok (.iload_n 2, 1) := by decide +kernel
theorem dX5_faultBetween_86 : decode cX5_faultBetween 86 = .ok (.invokestatic 376, 3) := by decide +kernel
theorem dX5_faultBetween_89 : decode cX5_faultBetween 89 = .ok (.ifCond .eq 6, 3) := by decide +kernel
theorem dX5_faultBetween_92 : decode cX5_faultBetween 92 = .ok (.bipush 109, 2) := by decide +kernel
theorem dX5_faultBetween_94 : decode cX5_faultBetween 94 = .ok (.ireturn, 1) := by decide +kernel
theorem dX5_faultBetween_95 : decode cX5_faultBetween 95 = .ok (.iinc 2 1, 3) := by decide +kernel
theorem dX5_faultBetween_98 : decode cX5_faultBetween 98 = .ok (.goto (-26), 3) := by decide +kernel
theorem dX5_faultBetween_101 : decode cX5_faultBetween 101 = .ok (.bipush 45, 2) := by decide +kernel
theorem dX5_faultBetween_103 : decode cX5_faultBetween 103 = .ok (.ireturn, 1) := by decide +kernel
theorem dX5_isAcrossLine_0 : decode cX5_isAcrossLine 0 = .ok (.aload_n 0, 1) := by decide +kernel
theorem dX5_isAcrossLine_1 : decode cX5_isAcrossLine 1 = .ok (.getfield 379, 3) := by decide +kernel
theorem dX5_isAcrossLine_4 : decode cX5_isAcrossLine 4 = .ok (.bipush 48, 2) := by decide +kernel
theorem dX5_isAcrossLine_6 : decode cX5_isAcrossLine 6 = .ok (.if_icmp .eq 27, 3) := by decide +kernel
theorem dX5_isAcrossLine_9 : decode cX5_isAcrossLine 9 = .ok (.aload_n 1, 1) := by decide +kernel
theorem dX5_isAcrossLine_10 : decode cX5_isAcrossLine 10 = .ok (.getfield 379, 3) := by decide +kernel
theorem dX5_isAcrossLine_13 : decode cX5_isAcrossLine 13 = .ok (.bipush 48, 2) := by decide +kernel
theorem dX5_isAcrossLine_15 : decode cX5_isAcrossLine 15 = .ok (.if_icmp .eq 18, 3) := by decide +kernel
theorem dX5_isAcrossLine_18 : decode cX5_isAcrossLine 18 = .ok (.aload_n 0, 1) := by decide +kernel
theorem dX5_isAcrossLine_19 : decode cX5_isAcrossLine 19 = .ok (.getfield 379, 3) := by decide +kernel
theorem dX5_isAcrossLine_22 : decode cX5_isAcrossLine 22 = .ok (.aload_n 1, 1) := by decide +kernel
theorem dX5_isAcrossLine_23 : decode cX5_isAcrossLine 23 = .ok (.getfield 379, 3) := by decide +kernel
theorem dX5_isAcrossLine_26 : decode cX5_isAcrossLine 26 = .ok (.if_icmp .eq 7, 3) := by decide +kernel
theorem dX5_isAcrossLine_29 : decode cX5_isAcrossLine 29 = .ok (.iconst 1, 1) := by decide +kernel
theorem dX5_isAcrossLine_30 : decode cX5_isAcrossLine 30 = .ok (.goto 4, 3) := by decide +kernel
theorem dX5_isAcrossLine_33 : decode cX5_isAcrossLine 33 = .ok (.iconst 0, 1) := by decide +kernel
theorem dX5_isAcrossLine_34 : decode cX5_isAcrossLine 34 = .ok (.ireturn, 1) := by decide +kernel
theorem dX5_isJump_0 : decode cX5_isJump 0 = .ok (.aload_n 0, 1) := by decide +kernel
theorem dX5_isJump_1 : decode cX5_isJump 1 = .ok (.getfield 148, 3) := by decide +kernel
theorem dX5_isJump_4 : decode cX5_isJump 4 = .ok (.invokevirtual 152, 3) := by decide +kernel
theorem dX5_isJump_7 : decode cX5_isJump 7 = .ok (.istore_n 2, 1) := by decide +kernel
theorem dX5_isJump_8 : decode cX5_isJump 8 = .ok (.aload_n 0, 1) := by decide +kernel
theorem dX5_isJump_9 : decode cX5_isJump 9 = .ok (.getfield 379, 3) := by decide +kernel
theorem dX5_isJump_12 : decode cX5_isJump 12 = .ok (.aload_n 1, 1) := by decide +kernel
theorem dX5_isJump_13 : decode cX5_isJump 13 = .ok (.getfield 379, 3) := by decide +kernel
theorem dX5_isJump_16 : decode cX5_isJump 16 = .ok (.if_icmp .ne 33, 3) := by decide +kernel
theorem dX5_isJump_19 : decode cX5_isJump 19 = .ok (.aload_n 0, 1) := by decide +kernel
theorem dX5_isJump_20 : decode cX5_isJump 20 = .ok (.getfield 382, 3) := by decide +kernel
theorem dX5_isJump_23 : decode cX5_isJump 23 = .ok (.aload_n 1, 1) := by decide +kernel
theorem dX5_isJump_24 : decode cX5_isJump 24 = .ok (.getfield 382, 3) := by decide +kernel
theorem dX5_isJump_27 : decode cX5_isJump 27 = .ok (.if_icmp .ne 22, 3) := by decide +kernel
theorem dX5_isJump_30 : decode cX5_isJump 30 = .ok (.iload_n 2, 1) := by decide +kernel
theorem dX5_isJump_31 : decode cX5_isJump 31 = .ok (.ifCond .eq 18, 3) := by decide +kernel
theorem dX5_isJump_34 : decode cX5_isJump 34 = .ok (.iload_n 2, 1) := by decide +kernel
theorem dX5_isJump_35 : decode cX5_isJump 35 = .ok (.aload_n 1, 1) := by decide +kernel
theorem dX5_isJump_36 : decode cX5_isJump 36 = .ok (.getfield 148, 3) := by decide +kernel
theorem dX5_isJump_39 : decode cX5_isJump 39 = .ok (.invokevirtual 152, 3) := by decide +kernel
theorem dX5_isJump_42 : decode cX5_isJump 42 = .ok (.if_icmp .ne 7, 3) := by decide +kernel
theorem dX5_isJump_45 : decode cX5_isJump 45 = .ok (.iconst 1, 1) := by decide +kernel
theorem dX5_isJump_46 : decode cX5_isJump 46 = .ok (.goto 4, 3) := by decide +kernel
theorem dX5_isJump_49 : decode cX5_isJump 49 = .ok (.iconst 0, 1) := by decide +kernel
theorem dX5_isJump_50 : decode cX5_isJump 50 = .ok (.ireturn, 1) := by decide +kernel
theorem dX5_areGazesUnmatched_0 : decode cX5_areGazesUnmatched 0 = .ok (.aload_n 0, 1) := by decide +kernel
theorem dX5_areGazesUnmatched_1 : decode cX5_areGazesUnmatched 1 = .ok (.invokevirtual 385, 3) := by decide +kernel
theorem dX5_areGazesUnmatched_4 : decode cX5_areGazesUnmatched 4 = .ok (.istore_n 2, 1) := by decide +kernel
theorem dX5_areGazesUnmatched_5 : decode cX5_areGazesUnmatched 5 = .ok (.aload_n 1, 1) := by decide +kernel
theorem dX5_areGazesUnmatched_6 : decode cX5_areGazesUnmatched 6 = .ok (.invokevirtual 385, 3) := by decide +kernel
theorem dX5_areGazesUnmatched_9 : decode cX5_areGazesUnmatched 9 = .ok (.istore_n 3, 1) := by decide +kernel
theorem dX5_areGazesUnmatched_10 : decode cX5_areGazesUnmatched 10 = .ok (.iload_n 2, 1) := by decide +kernel
theorem dX5_areGazesUnmatched_11 : decode cX5_areGazesUnmatched 11 = .ok (.iconst (-1), 1) := by decide +kernel
theorem dX5_areGazesUnmatched_12 : decode cX5_areGazesUnmatched 12 = .ok (.if_icmp .eq 13, 3) := by decide +kernel
theorem dX5_areGazesUnmatched_15 : decode cX5_areGazesUnmatched 15 = .ok (.iload_n 3, 1) := by decide +kernel
theorem dX5_areGazesUnmatched_16 : decode cX5_areGazesUnmatched 16 = .ok (.iconst (-1), 1) := by decide +kernel
theorem dX5_areGazesUnmatched_17 : decode cX5_areGazesUnmatched 17 = .ok (.if_icmp .eq 8, 3) := by decide +kernel
theorem dX5_areGazesUnmatched_20 : decode cX5_areGazesUnmatched 20 = .ok (.iload_n 2, 1) := by decide +kernel
theorem dX5_areGazesUnmatched_21 : decode cX5_areGazesUnmatched 21 = .ok (.iload_n 3, 1) := by decide +kernel
theorem dX5_areGazesUnmatched_22 : decode cX5_areGazesUnmatched 22 = .ok (.if_icmp .ne 5, 3) := by decide +kernel
theorem dX5_areGazesUnmatched_25 : decode cX5_areGazesUnmatched 25 = .ok (.iconst 0, 1) := by decide +kernel
theorem dX5_areGazesUnmatched_26 : decode cX5_areGazesUnmatched 26 = .ok (.ireturn, 1) := by decide +kernel
theorem dX5_areGazesUnmatched_27 : decode cX5_areGazesUnmatched 27 = .ok (.aload_n 0, 1) := by decide +kernel
theorem dX5_areGazesUnmatched_28 : decode cX5_areGazesUnmatched 28 = .ok (.getfield 388, 3) := by decide +kernel
theorem dX5_areGazesUnmatched_31 : decode cX5_areGazesUnmatched 31 = .ok (.iload_n 2, 1) := by decide +kernel
theorem dX5_areGazesUnmatched_32 : decode cX5_areGazesUnmatched 32 = .ok (.caload, 1) := by decide +kernel
theorem dX5_areGazesUnmatched_33 : decode cX5_areGazesUnmatched 33 = .ok (.istore 4, 2) := by decide +kernel
theorem dX5_areGazesUnmatched_35 : decode cX5_areGazesUnmatched 35 = .ok (.aload_n 1, 1) := by decide +kernel
theorem dX5_areGazesUnmatched_36 : decode cX5_areGazesUnmatched 36 = .ok (.getfield 388, 3) := by decide +kernel
theorem dX5_areGazesUnmatched_39 : decode cX5_areGazesUnmatched 39 = .ok (.iload_n 3, 1) := by decide +kernel
theorem dX5_areGazesUnmatched_40 : decode cX5_areGazesUnmatched 40 = .ok (.caload, 1) := by decide +kernel
theorem dX5_areGazesUnmatched_41 : decode cX5_areGazesUnmatched 41 = .ok (.istore 5, 2) := by decide +kernel
theorem dX5_areGazesUnmatched_43 : decode cX5_areGazesUnmatched 43 = .ok (.iload 4, 2) := by decide +kernel
theorem dX5_areGazesUnmatched_45 : decode cX5_areGazesUnmatched 45 = .ok (.bipush 108, 2) := by decide +kernel
theorem dX5_areGazesUnmatched_47 : decode cX5_areGazesUnmatched 47 = .ok (.if_icmp .ne 10, 3) := by decide +kernel
theorem dX5_areGazesUnmatched_50 : decode cX5_areGazesUnmatched 50 = .ok (.iload 5, 2) := by decide +kernel
theorem dX5_areGazesUnmatched_52 : decode cX5_areGazesUnmatched 52 = .ok (.bipush 114, 2) := by decide +kernel
theorem dX5_areGazesUnmatched_54 : decode cX5_areGazesUnmatched 54 = .ok (.if_icmp .eq 17, 3) := by decide +kernel
theorem dX5_areGazesUnmatched_57 : decode cX5_areGazesUnmatched 57 = .ok (.iload 4, 2) := by decide +kernel
theorem dX5_areGazesUnmatched_59 : decode cX5_areGazesUnmatched 59 = .ok (.bipush 114, 2) := by decide +kernel
theorem dX5_areGazesUnmatched_61 : decode cX5_areGazesUnmatched 61 = .ok (.if_icmp .ne 14, 3) := by decide +kernel
theorem dX5_areGazesUnmatched_64 : decode cX5_areGazesUnmatched 64 = .ok (.iload 5, 2) := by decide +kernel
theorem dX5_areGazesUnmatched_66 : decode cX5_areGazesUnmatched 66 = .ok (.bipush 108, 2) := by decide +kernel
theorem dX5_areGazesUnmatched_68 : decode cX5_areGazesUnmatched 68 = .ok (.if_icmp .ne 7, 3) := by decide +kernel
theorem dX5_areGazesUnmatched_71 : decode cX5_areGazesUnmatched 71 = .ok (.iconst 1, 1) := by decide +kernel
theorem dX5_areGazesUnmatched_72 : decode cX5_areGazesUnmatched 72 = .ok (.goto 4, 3) := by decide +kernel
theorem dX5_areGazesUnmatched_75 : decode cX5_areGazesUnmatched 75 = .ok (.iconst 0, 1) := by decide +kernel
theorem dX5_areGazesUnmatched_76 : decode cX5_areGazesUnmatched 76 = .ok (.istore 6, 2) := by decide +kernel
theorem dX5_areGazesUnmatched_78 : decode cX5_areGazesUnmatched 78 = .ok (.iload 6, 2) := by decide +kernel
theorem dX5_areGazesUnmatched_80 : decode cX5_areGazesUnmatched 80 = .ok (.ifCond .ne 21, 3) := by decide +kernel
theorem dX5_areGazesUnmatched_83 : decode cX5_areGazesUnmatched 83 = .ok (.iload 4, 2) := by decide +kernel
theorem dX5_areGazesUnmatched_85 : decode cX5_areGazesUnmatched 85 = .ok (.bipush 99, 2) := by decide +kernel
theorem dX5_areGazesUnmatched_87 : decode cX5_areGazesUnmatched 87 = .ok (.if_icmp .ne 10, 3) := by decide +kernel
theorem dX5_areGazesUnmatched_90 : decode cX5_areGazesUnmatched 90 = .ok (.iload 5, 2) := by decide +kernel
theorem dX5_areGazesUnmatched_92 : decode cX5_areGazesUnmatched 92 = .ok (.bipush 99, 2) := by decide +kernel
theorem dX5_areGazesUnmatched_94 : decode cX5_areGazesUnmatched 94 = .ok (.if_icmp .eq 7, 3) := by decide +kernel
theorem dX5_areGazesUnmatched_97 : decode cX5_areGazesUnmatched 97 = .ok (.iconst 1, 1) := by decide +kernel
theorem dX5_areGazesUnmatched_98 : decode cX5_areGazesUnmatched 98 = .ok (.goto 4, 3) := by decide +kernel
theorem dX5_areGazesUnmatched_101 : decode cX5_areGazesUnmatched 101 = .ok (.iconst 0, 1) := by decide +kernel
theorem dX5_areGazesUnmatched_102 : decode cX5_areGazesUnmatched 102 = .ok (.ireturn, 1) := by decide +kernel
theorem dX5_isBackByTheSameEdge_0 : decode cX5_isBackByTheSameEdge 0 = .ok (.aload_n 0, 1) := by decide +kernel
theorem dX5_isBackByTheSameEdge_1 : decode cX5_isBackByTheSameEdge 1 = .ok (.getfield 174, 3) := by decide +kernel
theorem dX5_isBackByTheSameEdge_4 : decode cX5_isBackByTheSameEdge 4 = .ok (.iload_n 2, 1) := by decide +kernel
theorem dX5_isBackByTheSameEdge_5 : decode cX5_isBackByTheSameEdge 5 = .ok (.caload, 1) := by decide +kernel
theorem dX5_isBackByTheSameEdge_6 : decode cX5_isBackByTheSameEdge 6 = .ok (.istore_n 3, 1) := by decide +kernel
theorem dX5_isBackByTheSameEdge_7 : decode cX5_isBackByTheSameEdge 7 = .ok (.iload_n 3, 1) := by decide +kernel
theorem dX5_isBackByTheSameEdge_8 : decode cX5_isBackByTheSameEdge 8 = .ok (.bipush 45, 2) := by decide +kernel
theorem dX5_isBackByTheSameEdge_10 : decode cX5_isBackByTheSameEdge 10 = .ok (.if_icmp .eq 17, 3) := by decide +kernel
theorem dX5_isBackByTheSameEdge_13 : decode cX5_isBackByTheSameEdge 13 = .ok (.iload_n 3, 1) := by decide +kernel
theorem dX5_isBackByTheSameEdge_14 : decode cX5_isBackByTheSameEdge 14 = .ok (.aload_n 1, 1) := by decide +kernel
theorem dX5_isBackByTheSameEdge_15 : decode cX5_isBackByTheSameEdge 15 = .ok (.getfield 166, 3) := by decide +kernel
theorem dX5_isBackByTheSameEdge_18 : decode cX5_isBackByTheSameEdge 18 = .ok (.iload_n 2, 1) := by decide +kernel
theorem dX5_isBackByTheSameEdge_19 : decode cX5_isBackByTheSameEdge 19 = .ok (.caload, 1) := by decide +kernel
theorem dX5_isBackByTheSameEdge_20 : decode cX5_isBackByTheSameEdge 20 = .ok (.if_icmp .ne 7, 3) := by decide +kernel
theorem dX5_isBackByTheSameEdge_23 : decode cX5_isBackByTheSameEdge 23 = .ok (.iconst 1, 1) := by decide +kernel
theorem dX5_isBackByTheSameEdge_24 : decode cX5_isBackByTheSameEdge 24 = .ok (.goto 4, 3) := by decide +kernel
theorem dX5_isBackByTheSameEdge_27 : decode cX5_isBackByTheSameEdge 27 = .ok (.iconst 0, 1) := by decide +kernel
theorem dX5_isBackByTheSameEdge_28 : decode cX5_isBackByTheSameEdge 28 = .ok (.ireturn, 1) := by decide +kernel
theorem dX5_isMisplaced_0 : decode cX5_isMisplaced 0 = .ok (.aload_n 0, 1) := by decide +kernel
theorem dX5_isMisplaced_1 : decode cX5_isMisplaced 1 = .ok (.getfield 174, 3) := by decide +kernel
theorem dX5_isMisplaced_4 : decode cX5_isMisplaced 4 = .ok (.iload_n 2, 1) := by decide +kernel
theorem dX5_isMisplaced_5 : decode cX5_isMisplaced 5 = .ok (.caload, 1) := by decide +kernel
theorem dX5_isMisplaced_6 : decode cX5_isMisplaced 6 = .ok (.bipush 45, 2) := by decide +kernel
theorem dX5_isMisplaced_8 : decode cX5_isMisplaced 8 = .ok (.if_icmp .ne 14, 3) := by decide +kernel
theorem dX5_isMisplaced_11 : decode cX5_isMisplaced 11 = .ok (.aload_n 1, 1) := by decide +kernel
theorem dX5_isMisplaced_12 : decode cX5_isMisplaced 12 = .ok (.getfield 166, 3) := by decide +kernel
theorem dX5_isMisplaced_15 : decode cX5_isMisplaced 15 = .ok (.iload_n 2, 1) := by decide +kernel
theorem dX5_isMisplaced_16 : decode cX5_isMisplaced 16 = .ok (.caload, 1) := by decide +kernel
theorem dX5_isMisplaced_17 : decode cX5_isMisplaced 17 = .ok (.bipush 45, 2) := by decide +kernel
theorem dX5_isMisplaced_19 : decode cX5_isMisplaced 19 = .ok (.if_icmp .eq 5, 3) := by decide +kernel
theorem dX5_isMisplaced_22 : decode cX5_isMisplaced 22 = .ok (.iconst 0, 1) := by decide +kernel
theorem dX5_isMisplaced_23 : decode cX5_isMisplaced 23 = .ok (.ireturn, 1) := by decide +kernel
theorem dX5_isMisplaced_24 : decode cX5_isMisplaced 24 = .ok (.aload_n 0, 1) := by decide +kernel
theorem dX5_isMisplaced_25 : decode cX5_isMisplaced 25 = .ok (.getfield 391, 3) := by decide +kernel
theorem dX5_isMisplaced_28 : decode cX5_isMisplaced 28 = .ok (.iload_n 2, 1) := by decide +kernel
theorem dX5_isMisplaced_29 : decode cX5_isMisplaced 29 = .ok (.caload, 1) := by decide +kernel
theorem dX5_isMisplaced_30 : decode cX5_isMisplaced 30 = .ok (.istore_n 3, 1) := by decide +kernel
theorem dX5_isMisplaced_31 : decode cX5_isMisplaced 31 = .ok (.aload_n 1, 1) := by decide +kernel
theorem dX5_isMisplaced_32 : decode cX5_isMisplaced 32 = .ok (.getfield 391, 3) := by decide +kernel
theorem dX5_isMisplaced_35 : decode cX5_isMisplaced 35 = .ok (.iload_n 2, 1) := by decide +kernel
theorem dX5_isMisplaced_36 : decode cX5_isMisplaced 36 = .ok (.caload, 1) := by decide +kernel
theorem dX5_isMisplaced_37 : decode cX5_isMisplaced 37 = .ok (.istore 4, 2) := by decide +kernel
theorem dX5_isMisplaced_39 : decode cX5_isMisplaced 39 = .ok (.iload_n 3, 1) := by decide +kernel
theorem dX5_isMisplaced_40 : decode cX5_isMisplaced 40 = .ok (.bipush 108, 2) := by decide +kernel
theorem dX5_isMisplaced_42 : decode cX5_isMisplaced 42 = .ok (.if_icmp .ne 10, 3) := by decide +kernel
theorem dX5_isMisplaced_45 : decode cX5_isMisplaced 45 = .ok (.iload 4, 2) := by decide +kernel
theorem dX5_isMisplaced_47 : decode cX5_isMisplaced 47 = .ok (.bipush 114, 2) := by decide +kernel
theorem dX5_isMisplaced_49 : decode cX5_isMisplaced 49 = .ok (.if_icmp .eq 16, 3) := by decide +kernel
theorem dX5_isMisplaced_52 : decode cX5_isMisplaced 52 = .ok (.iload_n 3, 1) := by decide +kernel
theorem dX5_isMisplaced_53 : decode cX5_isMisplaced 53 = .ok (.bipush 114, 2) := by decide +kernel
theorem dX5_isMisplaced_55 : decode cX5_isMisplaced 55 = .ok (.if_icmp .ne 14, 3) := by decide +kernel
theorem dX5_isMisplaced_58 : decode cX5_isMisplaced 58 = .ok (.iload 4, 2) := by decide +kernel
theorem dX5_isMisplaced_60 : decode cX5_isMisplaced 60 = .ok (.bipush 108, 2) := by decide +kernel
theorem dX5_isMisplaced_62 : decode cX5_isMisplaced 62 = .ok (.if_icmp .ne 7, 3) := by decide +kernel
theorem dX5_isMisplaced_65 : decode cX5_isMisplaced 65 = .ok (.iconst 1, 1) := by decide +kernel
theorem dX5_isMisplaced_66 : decode cX5_isMisplaced 66 = .ok (.goto 4, 3) := by decide +kernel
theorem dX5_isMisplaced_69 : decode cX5_isMisplaced 69 = .ok (.iconst 0, 1) := by decide +kernel
theorem dX5_isMisplaced_70 : decode cX5_isMisplaced 70 = .ok (.ireturn, 1) := by decide +kernel
theorem dX5_areNamesUnlike_0 : decode cX5_areNamesUnlike 0 = .ok (.iconst 0, 1) := by decide +kernel
theorem dX5_areNamesUnlike_1 : decode cX5_areNamesUnlike 1 = .ok (.istore_n 1, 1) := by decide +kernel
theorem dX5_areNamesUnlike_2 : decode cX5_areNamesUnlike 2 = .ok (.iload_n 1, 1) := by decide +kernel
theorem dX5_areNamesUnlike_3 : decode cX5_areNamesUnlike 3 = .ok (.aload_n 0, 1) := by decide +kernel
theorem dX5_areNamesUnlike_4 : decode cX5_areNamesUnlike 4 = .ok (.getfield 16, 3) := by decide +kernel
theorem dX5_areNamesUnlike_7 : decode cX5_areNamesUnlike 7 = .ok (.invokevirtual 37, 3) := by decide +kernel
theorem dX5_areNamesUnlike_10 : decode cX5_areNamesUnlike 10 = .ok (.if_icmp .ge 75, 3) := by decide +kernel
theorem dX5_areNamesUnlike_13 : decode cX5_areNamesUnlike 13 = .ok (.iconst 0, 1) := by decide +kernel
theorem dX5_areNamesUnlike_14 : decode cX5_areNamesUnlike 14 = .ok (.istore_n 2, 1) := by decide +kernel
theorem dX5_areNamesUnlike_15 : decode cX5_areNamesUnlike 15 = .ok (.iload_n 2, 1) := by decide +kernel
theorem dX5_areNamesUnlike_16 : decode cX5_areNamesUnlike 16 = .ok (.iload_n 1, 1) := by decide +kernel
theorem dX5_areNamesUnlike_17 : decode cX5_areNamesUnlike 17 = .ok (.if_icmp .ge 62, 3) := by decide +kernel
theorem dX5_areNamesUnlike_20 : decode cX5_areNamesUnlike 20 = .ok (.aload_n 0, 1) := by decide +kernel
theorem dX5_areNamesUnlike_21 : decode cX5_areNamesUnlike 21 = .ok (.getfield 16, 3) := by decide +kernel
theorem dX5_areNamesUnlike_24 : decode cX5_areNamesUnlike 24 = .ok (.iload_n 1, 1) := by decide +kernel
theorem dX5_areNamesUnlike_25 : decode cX5_areNamesUnlike 25 = .ok (.invokevirtual 116, 3) := by decide +kernel
theorem dX5_areNamesUnlike_28 : decode cX5_areNamesUnlike 28 = .ok (.checkcast 70, 3) := by decide +kernel
theorem dX5_areNamesUnlike_31 : decode cX5_areNamesUnlike 31 = .ok (.astore_n 3, 1) := by decide +kernel
theorem dX5_areNamesUnlike_32 : decode cX5_areNamesUnlike 32 = .ok (.aload_n 0, 1) := by decide +kernel
theorem dX5_areNamesUnlike_33 : decode cX5_areNamesUnlike 33 = .ok (.getfield 16, 3) := by decide +kernel
theorem dX5_areNamesUnlike_36 : decode cX5_areNamesUnlike 36 = .ok (.iload_n 2, 1) := by decide +kernel
theorem dX5_areNamesUnlike_37 : decode cX5_areNamesUnlike 37 = .ok (.invokevirtual 116, 3) := by decide +kernel
theorem dX5_areNamesUnlike_40 : decode cX5_areNamesUnlike 40 = .ok (.checkcast 70, 3) := by decide +kernel
theorem dX5_areNamesUnlike_43 : decode cX5_areNamesUnlike 43 = .ok (.astore 4, 2) := by decide +kernel
theorem dX5_areNamesUnlike_45 : decode cX5_areNamesUnlike 45 = .ok (.aload_n 0, 1) := by decide +kernel
theorem dX5_areNamesUnlike_46 : decode cX5_areNamesUnlike 46 = .ok (.aload_n 3, 1) := by decide +kernel
theorem dX5_areNamesUnlike_47 : decode cX5_areNamesUnlike 47 = .ok (.invokevirtual 193, 3) := by decide +kernel
theorem dX5_areNamesUnlike_50 : decode cX5_areNamesUnlike 50 = .ok (.aload_n 0, 1) := by decide +kernel
theorem dX5_areNamesUnlike_51 : decode cX5_areNamesUnlike 51 = .ok (.aload 4, 2) := by decide +kernel
theorem dX5_areNamesUnlike_53 : decode cX5_areNamesUnlike 53 = .ok (.invokevirtual 193, 3) := by decide +kernel
theorem dX5_areNamesUnlike_56 : decode cX5_areNamesUnlike 56 = .ok (.if_icmp .ne 17, 3) := by decide +kernel
theorem dX5_areNamesUnlike_59 : decode cX5_areNamesUnlike 59 = .ok (.aload_n 3, 1) := by decide +kernel
theorem dX5_areNamesUnlike_60 : decode cX5_areNamesUnlike 60 = .ok (.getfield 79, 3) := by decide +kernel
theorem dX5_areNamesUnlike_63 : decode cX5_areNamesUnlike 63 = .ok (.aload 4, 2) := by decide +kernel
theorem dX5_areNamesUnlike_65 : decode cX5_areNamesUnlike 65 = .ok (.getfield 79, 3) := by decide +kernel
theorem dX5_areNamesUnlike_68 : decode cX5_areNamesUnlike 68 = .ok (.if_icmp .ne 5, 3) := by decide +kernel
theorem dX5_areNamesUnlike_71 : decode cX5_areNamesUnlike 71 = .ok (.iconst 0, 1) := by decide +kernel
theorem dX5_areNamesUnlike_72 : decode cX5_areNamesUnlike 72 = .ok (.ireturn, 1) := by decide +kernel
theorem dX5_areNamesUnlike_73 : decode cX5_areNamesUnlike 73 = .ok (.iinc 2 1, 3) := by decide +kernel
theorem dX5_areNamesUnlike_76 : decode cX5_areNamesUnlike 76 = .ok (.goto (-61), 3) := by decide +kernel
theorem dX5_areNamesUnlike_79 : decode cX5_areNamesUnlike 79 = .ok (.iinc 1 1, 3) := by decide +kernel
theorem dX5_areNamesUnlike_82 : decode cX5_areNamesUnlike 82 = .ok (.goto (-80), 3) := by decide +kernel
theorem dX5_areNamesUnlike_85 : decode cX5_areNamesUnlike 85 = .ok (.iconst 1, 1) := by decide +kernel
theorem dX5_areNamesUnlike_86 : decode cX5_areNamesUnlike 86 = .ok (.ireturn, 1) := by decide +kernel
theorem dX5_isEachSeenAtItsBegin_0 : decode cX5_isEachSeenAtItsBegin 0 = .ok (.iconst 0, 1) := by decide +kernel
theorem dX5_isEachSeenAtItsBegin_1 : decode cX5_isEachSeenAtItsBegin 1 = .ok (.istore_n 1, 1) := by decide +kernel
theorem dX5_isEachSeenAtItsBegin_2 : decode cX5_isEachSeenAtItsBegin 2 = .ok (.iload_n 1, 1) := by decide +kernel
theorem dX5_isEachSeenAtItsBegin_3 : decode cX5_isEachSeenAtItsBegin 3 = .ok (.aload_n 0, 1) := by decide +kernel
theorem dX5_isEachSeenAtItsBegin_4 : decode cX5_isEachSeenAtItsBegin 4 = .ok (.getfield 16, 3) := by decide +kernel
theorem dX5_isEachSeenAtItsBegin_7 : decode cX5_isEachSeenAtItsBegin 7 = .ok (.invokevirtual 37, 3) := by decide +kernel
theorem dX5_isEachSeenAtItsBegin_10 : decode cX5_isEachSeenAtItsBegin 10 = .ok (.if_icmp .ge 37, 3) := by decide +kernel
theorem dX5_isEachSeenAtItsBegin_13 : decode cX5_isEachSeenAtItsBegin 13 = .ok (.aload_n 0, 1) := by decide +kernel
theorem dX5_isEachSeenAtItsBegin_14 : decode cX5_isEachSeenAtItsBegin 14 = .ok (.aload_n 0, 1) := by decide +kernel
theorem dX5_isEachSeenAtItsBegin_15 : decode cX5_isEachSeenAtItsBegin 15 = .ok (.iload_n 1, 1) := by decide +kernel
theorem dX5_isEachSeenAtItsBegin_16 : decode cX5_isEachSeenAtItsBegin 16 = .ok (.invokevirtual 177, 3) := by decide +kernel
theorem dX5_isEachSeenAtItsBegin_19 : decode cX5_isEachSeenAtItsBegin 19 = .ok (.invokevirtual 180, 3) := by decide +kernel
theorem dX5_isEachSeenAtItsBegin_22 : decode cX5_isEachSeenAtItsBegin 22 = .ok (.aload_n 0, 1) := by decide +kernel
theorem dX5_isEachSeenAtItsBegin_23 : decode cX5_isEachSeenAtItsBegin 23 = .ok (.getfield 16, 3) := by decide +kernel
theorem dX5_isEachSeenAtItsBegin_26 : decode cX5_isEachSeenAtItsBegin 26 = .ok (.iload_n 1, 1) := by decide +kernel
theorem dX5_isEachSeenAtItsBegin_27 : decode cX5_isEachSeenAtItsBegin 27 = .ok (.invokevirtual 116, 3) := by decide +kernel
theorem dX5_isEachSeenAtItsBegin_30 : decode cX5_isEachSeenAtItsBegin 30 = .ok (.checkcast 70, 3) := by decide +kernel
theorem dX5_isEachSeenAtItsBegin_33 : decode cX5_isEachSeenAtItsBegin 33 = .ok (.getfield 90, 3) := by decide +kernel
theorem dX5_isEachSeenAtItsBegin_36 : decode cX5_isEachSeenAtItsBegin 36 = .ok (.if_icmp .eq 5, 3) := by decide +kernel
theorem dX5_isEachSeenAtItsBegin_39 : decode cX5_isEachSeenAtItsBegin 39 = .ok (.iconst 0, 1) := by decide +kernel
theorem dX5_isEachSeenAtItsBegin_40 : decode cX5_isEachSeenAtItsBegin 40 = .ok (.ireturn, 1) := by decide +kernel
theorem dX5_isEachSeenAtItsBegin_41 : decode cX5_isEachSeenAtItsBegin 41 = .ok (.iinc 1 1, 3) := by decide +kernel
theorem dX5_isEachSeenAtItsBegin_44 : decode cX5_isEachSeenAtItsBegin 44 = .ok (.goto (-42), 3) := by decide +kernel
theorem dX5_isEachSeenAtItsBegin_47 : decode cX5_isEachSeenAtItsBegin 47 = .ok (.iconst 1, 1) := by decide +kernel
theorem dX5_isEachSeenAtItsBegin_48 : decode cX5_isEachSeenAtItsBegin 48 = .ok (.ireturn, 1) := by decide +kernel
theorem dX5_doNotesSumUp_0 : decode cX5_doNotesSumUp 0 = .ok (.aload_n 0, 1) := by decide +kernel
theorem dX5_doNotesSumUp_1 : decode cX5_doNotesSumUp 1 = .ok (.bipush 111, 2) := by decide +kernel
theorem dX5_doNotesSumUp_3 : decode cX5_doNotesSumUp 3 = .ok (.invokevirtual 269, 3) := by decide +kernel
theorem dX5_doNotesSumUp_6 : decode cX5_doNotesSumUp 6 = .ok (.aload_n 0, 1) := by decide +kernel
theorem dX5_doNotesSumUp_7 : decode cX5_doNotesSumUp 7 = .ok (.bipush 100, 2) := by decide +kernel
theorem dX5_doNotesSumUp_9 : decode cX5_doNotesSumUp 9 = .ok (.invokevirtual 269, 3) := by decide +kernel
theorem dX5_doNotesSumUp_12 : decode cX5_doNotesSumUp 12 = .ok (.iadd, 1) := by decide +kernel
theorem dX5_doNotesSumUp_13 : decode cX5_doNotesSumUp 13 = .ok (.aload_n 0, 1) := by decide +kernel
theorem dX5_doNotesSumUp_14 : decode cX5_doNotesSumUp 14 = .ok (.bipush 114, 2) := by decide +kernel
theorem dX5_doNotesSumUp_16 : decode cX5_doNotesSumUp 16 = .ok (.invokevirtual 269, 3) := by decide +kernel
theorem dX5_doNotesSumUp_19 : decode cX5_doNotesSumUp 19 = .ok (.iadd, 1) := by decide +kernel
theorem dX5_doNotesSumUp_20 : decode cX5_doNotesSumUp 20 = .ok (.aload_n 0, 1) := by decide +kernel
theorem dX5_doNotesSumUp_21 : decode cX5_doNotesSumUp 21 = .ok (.bipush 115, 2) := by decide +kernel
theorem dX5_doNotesSumUp_23 : decode cX5_doNotesSumUp 23 = .ok (.invokevirtual 269, 3) := by decide +kernel
theorem dX5_doNotesSumUp_26 : decode cX5_doNotesSumUp 26 = .ok (.iadd, 1) := by decide +kernel
theorem dX5_doNotesSumUp_27 : decode cX5_doNotesSumUp 27 = .ok (.aload_n 0, 1) := by decide +kernel
theorem dX5_doNotesSumUp_28 : decode cX5_doNotesSumUp 28 = .ok (.getfield 19, 3) := by decide +kernel
theorem dX5_doNotesSumUp_31 : decode cX5_doNotesSumUp 31 = .ok (.invokevirtual 37, 3) := by decide +kernel
theorem dX5_doNotesSumUp_34 : decode cX5_doNotesSumUp 34 = .ok (.if_icmp .ne 7, 3) := by decide +kernel
theorem dX5_doNotesSumUp_37 : decode cX5_doNotesSumUp 37 = .ok (.iconst 1, 1) := by decide +kernel
theorem dX5_doNotesSumUp_38 : decode cX5_doNotesSumUp 38 = .ok (.goto 4, 3) := by decide +kernel
theorem dX5_doNotesSumUp_41 : decode cX5_doNotesSumUp 41 = .ok (.iconst 0, 1) := by decide +kernel
theorem dX5_doNotesSumUp_42 : decode cX5_doNotesSumUp 42 = .ok (.ireturn, 1) := by decide +kernel
theorem dX5_areEdgesOfMembers_0 : decode cX5_areEdgesOfMembers 0 = .ok (.iconst 0, 1) := by decide +kernel
theorem dX5_areEdgesOfMembers_1 : decode cX5_areEdgesOfMembers 1 = .ok (.istore_n 1, 1) := by decide +kernel
theorem dX5_areEdgesOfMembers_2 : decode cX5_areEdgesOfMembers 2 = .ok (.iload_n 1, 1) := by decide +kernel
theorem dX5_areEdgesOfMembers_3 : decode cX5_areEdgesOfMembers 3 = .ok (.aload_n 0, 1) := by decide +kernel
theorem dX5_areEdgesOfMembers_4 : decode cX5_areEdgesOfMembers 4 = .ok (.getfield 10, 3) := by decide +kernel
theorem dX5_areEdgesOfMembers_7 : decode cX5_areEdgesOfMembers 7 = .ok (.invokevirtual 37, 3) := by decide +kernel
theorem dX5_areEdgesOfMembers_10 : decode cX5_areEdgesOfMembers 10 = .ok (.if_icmp .ge 31, 3) := by decide +kernel
theorem dX5_areEdgesOfMembers_13 : decode cX5_areEdgesOfMembers 13 = .ok (.aload_n 0, 1) := by decide +kernel
theorem dX5_areEdgesOfMembers_14 : decode cX5_areEdgesOfMembers 14 = .ok (.getfield 10, 3) := by decide +kernel
theorem dX5_areEdgesOfMembers_17 : decode cX5_areEdgesOfMembers 17 = .ok (.iload_n 1, 1) := by decide +kernel
theorem dX5_areEdgesOfMembers_18 : decode cX5_areEdgesOfMembers 18 = .ok (.invokevirtual 116, 3) := by decide +kernel
theorem dX5_areEdgesOfMembers_21 : decode cX5_areEdgesOfMembers 21 = .ok (.checkcast 70, 3) := by decide +kernel
theorem dX5_areEdgesOfMembers_24 : decode cX5_areEdgesOfMembers 24 = .ok (.getfield 148, 3) := by decide +kernel
theorem dX5_areEdgesOfMembers_27 : decode cX5_areEdgesOfMembers 27 = .ok (.invokevirtual 394, 3) := by decide +kernel
theorem dX5_areEdgesOfMembers_30 : decode cX5_areEdgesOfMembers 30 = .ok (.ifCond .ne 5, 3) := by decide +kernel
theorem dX5_areEdgesOfMembers_33 : decode cX5_areEdgesOfMembers 33 = .ok (.iconst 0, 1) := by decide +kernel
theorem dX5_areEdgesOfMembers_34 : decode cX5_areEdgesOfMembers 34 = .ok (.ireturn, 1) := by decide +kernel
theorem dX5_areEdgesOfMembers_35 : decode cX5_areEdgesOfMembers 35 = .ok (.iinc 1 1, 3) := by decide +kernel
theorem dX5_areEdgesOfMembers_38 : decode cX5_areEdgesOfMembers 38 = .ok (.goto (-36), 3) := by decide +kernel
theorem dX5_areEdgesOfMembers_41 : decode cX5_areEdgesOfMembers 41 = .ok (.iconst 1, 1) := by decide +kernel
theorem dX5_areEdgesOfMembers_42 : decode cX5_areEdgesOfMembers 42 = .ok (.ireturn, 1) := by decide +kernel
theorem dX6_init_0 : decode cX6_init 0 = .ok (.aload_n 0, 1) := by decide +kernel
theorem dX6_init_1 : decode cX6_init 1 = .ok (.invokespecial 1, 3) := by decide +kernel
theorem dX6_init_4 : decode cX6_init 4 = .ok (.aload_n 0, 1) := by decide +kernel
theorem dX6_init_5 : decode cX6_init 5 = .ok (.bipush 24, 2) := by decide +kernel
theorem dX6_init_7 : decode cX6_init 7 = .ok (.newarray .int, 2) := by decide +kernel
theorem dX6_init_9 : decode cX6_init 9 = .ok (.putfield 7, 3) := by decide +kernel
theorem dX6_init_12 : decode cX6_init 12 = .ok (.aload_n 0, 1) := by decide +kernel
theorem dX6_init_13 : decode cX6_init 13 = .ok (.bipush 24, 2) := by decide +kernel
theorem dX6_init_15 : decode cX6_init 15 = .ok (.newarray .char, 2) := by decide +kernel
theorem dX6_init_17 : decode cX6_init 17 = .ok (.putfield 13, 3) := by decide +kernel
theorem dX6_init_20 : decode cX6_init 20 = .ok (.aload_n 0, 1) := by decide +kernel
theorem dX6_init_21 : decode cX6_init 21 = .ok (.bipush 24, 2) := by decide +kernel
theorem dX6_init_23 : decode cX6_init 23 = .ok (.newarray .int, 2) := by decide +kernel
theorem dX6_init_25 : decode cX6_init 25 = .ok (.putfield 17, 3) := by decide +kernel
theorem dX6_init_28 : decode cX6_init 28 = .ok (.aload_n 0, 1) := by decide +kernel
theorem dX6_init_29 : decode cX6_init 29 = .ok (.bipush 24, 2) := by decide +kernel
theorem dX6_init_31 : decode cX6_init 31 = .ok (.newarray .int, 2) := by decide +kernel
theorem dX6_init_33 : decode cX6_init 33 = .ok (.putfield 20, 3) := by decide +kernel
theorem dX6_init_36 : decode cX6_init 36 = .ok (.aload_n 0, 1) := by decide +kernel
theorem dX6_init_37 : decode cX6_init 37 = .ok (.bipush 24, 2) := by decide +kernel
theorem dX6_init_39 : decode cX6_init 39 = .ok (.newarray .int, 2) := by decide +kernel
theorem dX6_init_41 : decode cX6_init 41 = .ok (.putfield 23, 3) := by decide +kernel
theorem dX6_init_44 : decode cX6_init 44 = .ok (.aload_n 0, 1) := by decide +kernel
theorem dX6_init_45 : decode cX6_init 45 = .ok (.bipush 24, 2) := by decide +kernel
theorem dX6_init_47 : decode cX6_init 47 = .ok (.newarray .boolean, 2) := by decide +kernel
theorem dX6_init_49 : decode cX6_init 49 = .ok (.putfield 26, 3) := by decide +kernel
theorem dX6_init_52 : decode cX6_init 52 = .ok (.aload_n 0, 1) := by decide +kernel
theorem dX6_init_53 : decode cX6_init 53 = .ok (.bipush 24, 2) := by decide +kernel
theorem dX6_init_55 : decode cX6_init 55 = .ok (.newarray .int, 2) := by decide +kernel
theorem dX6_init_57 : decode cX6_init 57 = .ok (.putfield 30, 3) := by decide +kernel
theorem dX6_init_60 : decode cX6_init 60 = .ok (.aload_n 0, 1) := by decide +kernel
theorem dX6_init_61 : decode cX6_init 61 = .ok (.bipush 24, 2) := by decide +kernel
theorem dX6_init_63 : decode cX6_init 63 = .ok (.newarray .char, 2) := by decide +kernel
theorem dX6_init_65 : decode cX6_init 65 = .ok (.putfield 33, 3) := by decide +kernel
theorem dX6_init_68 : decode cX6_init 68 = .ok (.aload_n 0, 1) := by decide +kernel
theorem dX6_init_69 : decode cX6_init 69 = .ok (.bipush 96, 2) := by decide +kernel
theorem dX6_init_71 : decode cX6_init 71 = .ok (.newarray .char, 2) := by decide +kernel
theorem dX6_init_73 : decode cX6_init 73 = .ok (.putfield 36, 3) := by decide +kernel
theorem dX6_init_76 : decode cX6_init 76 = .ok (.aload_n 0, 1) := by decide +kernel
theorem dX6_init_77 : decode cX6_init 77 = .ok (.bipush 96, 2) := by decide +kernel
theorem dX6_init_79 : decode cX6_init 79 = .ok (.newarray .char, 2) := by decide +kernel
theorem dX6_init_81 : decode cX6_init 81 = .ok (.putfield 39, 3) := by decide +kernel
theorem dX6_init_84 : decode cX6_init 84 = .ok (.aload_n 0, 1) := by decide +kernel
theorem dX6_init_85 : decode cX6_init 85 = .ok (.bipush 96, 2) := by decide +kernel
theorem dX6_init_87 : decode cX6_init 87 = .ok (.newarray .char, 2) := by decide +kernel
theorem dX6_init_89 : decode cX6_init 89 = .ok (.putfield 42, 3) := by decide +kernel
theorem dX6_init_92 : decode cX6_init 92 = .ok (.aload_n 0, 1) := by decide +kernel
theorem dX6_init_93 : decode cX6_init 93 = .ok (.bipush 96, 2) := by decide +kernel
theorem dX6_init_95 : decode cX6_init 95 = .ok (.newarray .char, 2) := by decide +kernel
theorem dX6_init_97 : decode cX6_init 97 = .ok (.putfield 45, 3) := by decide +kernel
theorem dX6_init_100 : decode cX6_init 100 = .ok (.aload_n 0, 1) := by decide +kernel
theorem dX6_init_101 : decode cX6_init 101 = .ok (.bipush 24, 2) := by decide +kernel
theorem dX6_init_103 : decode cX6_init 103 = .ok (.newarray .char, 2) := by decide +kernel
theorem dX6_init_105 : decode cX6_init 105 = .ok (.putfield 48, 3) := by decide +kernel
theorem dX6_init_108 : decode cX6_init 108 = .ok (.aload_n 0, 1) := by decide +kernel
theorem dX6_init_109 : decode cX6_init 109 = .ok (.bipush 24, 2) := by decide +kernel
theorem dX6_init_111 : decode cX6_init 111 = .ok (.newarray .int, 2) := by decide +kernel
theorem dX6_init_113 : decode cX6_init 113 = .ok (.putfield 51, 3) := by decide +kernel
theorem dX6_init_116 : decode cX6_init 116 = .ok (.aload_n 0, 1) := by decide +kernel
theorem dX6_init_117 : decode cX6_init 117 = .ok (.bipush 24, 2) := by decide +kernel
theorem dX6_init_119 : decode cX6_init 119 = .ok (.newarray .int, 2) := by decide +kernel
theorem dX6_init_121 : decode cX6_init 121 = .ok (.putfield 54, 3) := by decide +kernel
theorem dX6_init_124 : decode cX6_init 124 = .ok (.aload_n 0, 1) := by decide +kernel
theorem dX6_init_125 : decode cX6_init 125 = .ok (.bipush 24, 2) := by decide +kernel
theorem dX6_init_127 : decode cX6_init 127 = .ok (.newarray .int, 2) := by decide +kernel
theorem dX6_init_129 : decode cX6_init 129 = .ok (.putfield 57, 3) := by decide +kernel
theorem dX6_init_132 : decode cX6_init 132 = .ok (.aload_n 0, 1) := by decide +kernel
theorem dX6_init_133 : decode cX6_init 133 = .ok (.bipush 24, 2) := by decide +kernel
theorem dX6_init_135 : decode cX6_init 135 = .ok (.newarray .int, 2) := by decide +kernel
theorem dX6_init_137 : decode cX6_init 137 = .ok (.putfield 60, 3) := by decide +kernel
theorem dX6_init_140 : decode cX6_init 140 = .ok (.aload_n 0, 1) := by decide +kernel
theorem dX6_init_141 : decode cX6_init 141 = .ok (.bipush 24, 2) := by decide +kernel
theorem dX6_init_143 : decode cX6_init 143 = .ok (.newarray .int, 2) := by decide +kernel
theorem dX6_init_145 : decode cX6_init 145 = .ok (.putfield 63, 3) := by decide +kernel
theorem dX6_init_148 : decode cX6_init 148 = .ok (.aload_n 0, 1) := by decide +kernel
theorem dX6_init_149 : decode cX6_init 149 = .ok (.bipush 40, 2) := by decide +kernel
theorem dX6_init_151 : decode cX6_init 151 = .ok (.newarray .int, 2) := by decide +kernel
theorem dX6_init_153 : decode cX6_init 153 = .ok (.putfield 66, 3) := by decide +kernel
theorem dX6_init_156 : decode cX6_init 156 = .ok (.aload_n 0, 1) := by decide +kernel
theorem dX6_init_157 : decode cX6_init 157 = .ok (.bipush 40, 2) := by decide +kernel
theorem dX6_init_159 : decode cX6_init 159 = .ok (.newarray .int, 2) := by decide +kernel
theorem dX6_init_161 : decode cX6_init 161 = .ok (.putfield 69, 3) := by decide +kernel
theorem dX6_init_164 : decode cX6_init 164 = .ok (.aload_n 0, 1) := by decide +kernel
theorem dX6_init_165 : decode cX6_init 165 = .ok (.bipush 40, 2) := by decide +kernel
theorem dX6_init_167 : decode cX6_init 167 = .ok (.newarray .char, 2) := by decide +kernel
theorem dX6_init_169 : decode cX6_init 169 = .ok (.putfield 72, 3) := by decide +kernel
theorem dX6_init_172 : decode cX6_init 172 = .ok (.aload_n 0, 1) := by decide +kernel
theorem dX6_init_173 : decode cX6_init 173 = .ok (.bipush 6, 2) := by decide +kernel
theorem dX6_init_175 : decode cX6_init 175 = .ok (.newarray .int, 2) := by decide +kernel
theorem dX6_init_177 : decode cX6_init 177 = .ok (.putfield 75, 3) := by decide +kernel
theorem dX6_init_180 : decode cX6_init 180 = .ok (.aload_n 0, 1) := by decide +kernel
theorem dX6_init_181 : decode cX6_init 181 = .ok (.bipush 6, 2) := by decide +kernel
theorem dX6_init_183 : decode cX6_init 183 = .ok (.newarray .int, 2) := by decide +kernel
theorem dX6_init_185 : decode cX6_init 185 = .ok (.putfield 78, 3) := by decide +kernel
theorem dX6_init_188 : decode cX6_init 188 = .ok (.aload_n 0, 1) := by decide +kernel
theorem dX6_init_189 : decode cX6_init 189 = .ok (.bipush 6, 2) := by decide +kernel
theorem dX6_init_191 : decode cX6_init 191 = .ok (.newarray .boolean, 2) := by decide +kernel
theorem dX6_init_193 : decode cX6_init 193 = .ok (.putfield 81, 3) := by decide +kernel
theorem dX6_init_196 : decode cX6_init 196 = .ok (.return_, 1) := by decide +kernel
theorem dX6_thrown_0 : decode cX6_thrown 0 = .ok (.aload_n 0, 1) := by decide +kernel
theorem dX6_thrown_1 : decode cX6_thrown 1 = .ok (.getfield 84, 3) := by decide +kernel
theorem dX6_thrown_4 : decode cX6_thrown 4 = .ok (.ireturn, 1) := by decide +kernel
theorem dX6_fails_0 : decode cX6_fails 0 = .ok (.aload_n 0, 1) := by decide +kernel
theorem dX6_fails_1 : decode cX6_fails 1 = .ok (.iload_n 1, 1) := by decide +kernel
theorem dX6_fails_2 : decode cX6_fails 2 = .ok (.putfield 84, 3) := by decide +kernel
theorem dX6_fails_5 : decode cX6_fails 5 = .ok (.iload_n 1, 1) := by decide +kernel
theorem dX6_fails_6 : decode cX6_fails 6 = .ok (.ifCond .le 7, 3) := by decide +kernel
theorem dX6_fails_9 : decode cX6_fails 9 = .ok (.iconst 1, 1) := by decide +kernel
theorem dX6_fails_10 : decode cX6_fails 10 = .ok (.goto 4, 3) := by decide +kernel
theorem dX6_fails_13 : decode cX6_fails 13 = .ok (.iconst 0, 1) := by decide +kernel
theorem dX6_fails_14 : decode cX6_fails 14 = .ok (.ireturn, 1) := by decide +kernel
theorem dX6_in_0 : decode cX6_in 0 = .ok (.iload_n 0, 1) := by decide +kernel
theorem dX6_in_1 : decode cX6_in 1 = .ok (.iload_n 1, 1) := by decide +kernel
theorem dX6_in_2 : decode cX6_in 2 = .ok (.if_icmp .lt 12, 3) := by decide +kernel
theorem dX6_in_5 : decode cX6_in 5 = .ok (.iload_n 0, 1) := by decide +kernel
theorem dX6_in_6 : decode cX6_in 6 = .ok (.iload_n 2, 1) := by decide +kernel
theorem dX6_in_7 : decode cX6_in 7 = .ok (.if_icmp .gt 7, 3) := by decide +kernel
theorem dX6_in_10 : decode cX6_in 10 = .ok (.iconst 1, 1) := by decide +kernel
theorem dX6_in_11 : decode cX6_in 11 = .ok (.goto 4, 3) := by decide +kernel
theorem dX6_in_14 : decode cX6_in 14 = .ok (.iconst 0, 1) := by decide +kernel
theorem dX6_in_15 : decode cX6_in 15 = .ok (.ireturn, 1) := by decide +kernel
theorem dX6_isShot_0 : decode cX6_isShot 0 = .ok (.iload_n 1, 1) := by decide +kernel
theorem dX6_isShot_1 : decode cX6_isShot 1 = .ok (.iconst 0, 1) := by decide +kernel
theorem dX6_isShot_2 : decode cX6_isShot 2 = .ok (.aload_n 0, 1) := by decide +kernel
theorem dX6_isShot_3 : decode cX6_isShot 3 = .ok (.getfield 88, 3) := by decide +kernel
theorem dX6_isShot_6 : decode cX6_isShot 6 = .ok (.iconst 1, 1) := by decide +kernel
theorem dX6_isShot_7 : decode cX6_isShot 7 = .ok (.isub, 1) := by decide +kernel
theorem dX6_isShot_8 : decode cX6_isShot 8 = .ok (.invokestatic 91, 3) := by decide +kernel
theorem dX6_isShot_11 : decode cX6_isShot 11 = .ok (.ireturn, 1) := by decide +kernel
theorem dX6_placeOf_0 : decode cX6_placeOf 0 = .ok (.iconst (-1), 1) := by decide +kernel
theorem dX6_placeOf_1 : decode cX6_placeOf 1 = .ok (.istore_n 2, 1) := by decide +kernel
theorem dX6_placeOf_2 : decode cX6_placeOf 2 = .ok (.iconst 0, 1) := by decide +kernel
theorem dX6_placeOf_3 : decode cX6_placeOf 3 = .ok (.istore_n 3, 1) := by decide +kernel
theorem dX6_placeOf_4 : decode cX6_placeOf 4 = .ok (.iload_n 3, 1) := by decide +kernel
theorem dX6_placeOf_5 : decode cX6_placeOf 5 = .ok (.aload_n 0, 1) := by decide +kernel
theorem dX6_placeOf_6 : decode cX6_placeOf 6 = .ok (.getfield 95, 3) := by decide +kernel
theorem dX6_placeOf_9 : decode cX6_placeOf 9 = .ok (.if_icmp .ge 25, 3) := by decide +kernel
theorem dX6_placeOf_12 : decode cX6_placeOf 12 = .ok (.aload_n 0, 1) := by decide +kernel
theorem dX6_placeOf_13 : decode cX6_placeOf 13 = .ok (.getfield 7, 3) := by decide +kernel
theorem dX6_placeOf_16 : decode cX6_placeOf 16 = .ok (.iload_n 3, 1) := by decide +kernel
theorem dX6_placeOf_17 : decode cX6_placeOf 17 = .ok (.iaload, 1) := by decide +kernel
theorem dX6_placeOf_18 : decode cX6_placeOf 18 = .ok (.iload_n 1, 1) := by decide +kernel
theorem dX6_placeOf_19 : decode cX6_placeOf 19 = .ok (.if_icmp .ne 7, 3) := by decide +kernel
theorem dX6_placeOf_22 : decode cX6_placeOf 22 = .ok (.iload_n 3, 1) := by decide +kernel
theorem dX6_placeOf_23 : decode cX6_placeOf 23 = .ok (.goto 4, 3) := by decide +kernel
theorem dX6_placeOf_26 : decode cX6_placeOf 26 = .ok (.iload_n 2, 1) := by decide +kernel
theorem dX6_placeOf_27 : decode cX6_placeOf 27 = .ok (.istore_n 2, 1) := by decide +kernel
theorem dX6_placeOf_28 : decode cX6_placeOf 28 = .ok (.iinc 3 1, 3) := by decide +kernel
theorem dX6_placeOf_31 : decode cX6_placeOf 31 = .ok (.goto (-27), 3) := by decide +kernel
theorem dX6_placeOf_34 : decode cX6_placeOf 34 = .ok (.iload_n 2, 1) := by decide +kernel
theorem dX6_placeOf_35 : decode cX6_placeOf 35 = .ok (.ireturn, 1) := by decide +kernel
theorem dX6_isCamera_0 : decode cX6_isCamera 0 = .ok (.iload_n 0, 1) := by decide +kernel
theorem dX6_isCamera_1 : decode cX6_isCamera 1 = .ok (.bipush 115, 2) := by decide +kernel
theorem dX6_isCamera_3 : decode cX6_isCamera 3 = .ok (.if_icmp .eq 15, 3) := by decide +kernel
theorem dX6_isCamera_6 : decode cX6_isCamera 6 = .ok (.iload_n 0, 1) := by decide +kernel
theorem dX6_isCamera_7 : decode cX6_isCamera 7 = .ok (.bipush 110, 2) := by decide +kernel
theorem dX6_isCamera_9 : decode cX6_isCamera 9 = .ok (.if_icmp .eq 9, 3) := by decide +kernel
theorem dX6_isCamera_12 : decode cX6_isCamera 12 = .ok (.iload_n 0, 1) := by decide +kernel
theorem dX6_isCamera_13 : decode cX6_isCamera 13 = .ok (.bipush 48, 2) := by decide +kernel
theorem dX6_isCamera_15 : decode cX6_isCamera 15 = .ok (.if_icmp .ne 16, 3) := by decide +kernel
theorem dX6_isCamera_18 : decode cX6_isCamera 18 = .ok (.iload_n 1, 1) := by decide +kernel
theorem dX6_isCamera_19 : decode cX6_isCamera 19 = .ok (.iconst 0, 1) := by decide +kernel
theorem dX6_isCamera_20 : decode cX6_isCamera 20 = .ok (.iconst 4, 1) := by decide +kernel
theorem dX6_isCamera_21 : decode cX6_isCamera 21 = .ok (.invokestatic 91, 3) := by decide +kernel
theorem dX6_isCamera_24 : decode cX6_isCamera 24 = .ok (.ifCond .eq 7, 3) := by decide +kernel
theorem dX6_isCamera_27 : decode cX6_isCamera 27 = .ok (.iconst 1, 1) := by decide +kernel
theorem dX6_isCamera_28 : decode cX6_isCamera 28 = .ok (.goto 4, 3) := by decide +kernel
theorem dX6_isCamera_31 : decode cX6_isCamera 31 = .ok (.iconst 0, 1) := by decide +kernel
theorem dX6_isCamera_32 : decode cX6_isCamera 32 = .ok (.ireturn, 1) := by decide +kernel
theorem dX6_isEdge_0 : decode cX6_isEdge 0 = .ok (.iload_n 0, 1) := by decide +kernel
theorem dX6_isEdge_1 : decode cX6_isEdge 1 = .ok (.bipush 108, 2) := by decide +kernel
theorem dX6_isEdge_3 : decode cX6_isEdge 3 = .ok (.if_icmp .eq 15, 3) := by decide +kernel
theorem dX6_isEdge_6 : decode cX6_isEdge 6 = .ok (.iload_n 0, 1) := by decide +kernel
theorem dX6_isEdge_7 : decode cX6_isEdge 7 = .ok (.bipush 114, 2) := by decide +kernel
theorem dX6_isEdge_9 : decode cX6_isEdge 9 = .ok (.if_icmp .eq 9, 3) := by decide +kernel
theorem dX6_isEdge_12 : decode cX6_isEdge 12 = .ok (.iload_n 0, 1) := by decide +kernel
theorem dX6_isEdge_13 : decode cX6_isEdge 13 = .ok (.bipush 45, 2) := by decide +kernel
theorem dX6_isEdge_15 : decode cX6_isEdge 15 = .ok (.if_icmp .ne 7, 3) := by decide +kernel
theorem dX6_isEdge_18 : decode cX6_isEdge 18 = .ok (.iconst 1, 1) := by decide +kernel
theorem dX6_isEdge_19 : decode cX6_isEdge 19 = .ok (.goto 4, 3) := by decide +kernel
theorem dX6_isEdge_22 : decode cX6_isEdge 22 = .ok (.iconst 0, 1) := by decide +kernel
theorem dX6_isEdge_23 : decode cX6_isEdge 23 = .ok (.ireturn, 1) := by decide +kernel
theorem dX6_isThird_0 : decode cX6_isThird 0 = .ok (.iload_n 0, 1) := by decide +kernel
theorem dX6_isThird_1 : decode cX6_isThird 1 = .ok (.bipush 108, 2) := by decide +kernel
theorem dX6_isThird_3 : decode cX6_isThird 3 = .ok (.if_icmp .eq 15, 3) := by decide +kernel
theorem dX6_isThird_6 : decode cX6_isThird 6 = .ok (.iload_n 0, 1) := by decide +kernel
theorem dX6_isThird_7 : decode cX6_isThird 7 = .ok (.bipush 99, 2) := by decide +kernel
theorem dX6_isThird_9 : decode cX6_isThird 9 = .ok (.if_icmp .eq 9, 3) := by decide +kernel
theorem dX6_isThird_12 : decode cX6_isThird 12 = .ok (.iload_n 0, 1) := by decide +kernel
theorem dX6_isThird_13 : decode cX6_isThird 13 = .ok (.bipush 114, 2) := by decide +kernel
theorem dX6_isThird_15 : decode cX6_isThird 15 = .ok (.if_icmp .ne 7, 3) := by decide +kernel
theorem dX6_isThird_18 : decode cX6_isThird 18 = .ok (.iconst 1, 1) := by decide +kernel
theorem dX6_isThird_19 : decode cX6_isThird 19 = .ok (.goto 4, 3) := by decide +kernel
theorem dX6_isThird_22 : decode cX6_isThird 22 = .ok (.iconst 0, 1) := by decide +kernel
theorem dX6_isThird_23 : decode cX6_isThird 23 = .ok (.ireturn, 1) := by decide +kernel
theorem dX6_freeLetter_0 : decode cX6_freeLetter 0 = .ok (.bipush 32, 2) := by decide +kernel
theorem dX6_freeLetter_2 : decode cX6_freeLetter 2 = .ok (.istore_n 2, 1) := by decide +kernel
theorem dX6_freeLetter_3 : decode cX6_freeLetter 3 = .ok (.bipush 70, 2) := by decide +kernel
theorem dX6_freeLetter_5 : decode cX6_freeLetter 5 = .ok (.istore_n 3, 1) := by decide +kernel
theorem dX6_freeLetter_6 : decode cX6_freeLetter 6 = .ok (.iload_n 3, 1) := by decide +kernel
theorem dX6_freeLetter_7 : decode cX6_freeLetter 7 = .ok (.bipush 65, 2) := by decide +kernel
theorem dX6_freeLetter_9 : decode cX6_freeLetter 9 = .ok (.if_icmp .lt 77, 3) := by decide +kernel
theorem dX6_freeLetter_12 : decode cX6_freeLetter 12 = .ok (.iconst 1, 1) := by decide +kernel
theorem dX6_freeLetter_13 : decode cX6_freeLetter 13 = .ok (.istore 4, 2) := by decide +kernel
theorem dX6_freeLetter_15 : decode cX6_freeLetter 15 = .ok (.iconst 0, 1) := by decide +kernel
theorem dX6_freeLetter_16 : decode cX6_freeLetter 16 = .ok (.istore 5, 2) := by decide +kernel
theorem dX6_freeLetter_18 : decode cX6_freeLetter 18 = .ok (.iload 5, 2) := by decide +kernel
theorem dX6_freeLetter_20 : decode cX6_freeLetter 20 = .ok (.aload_n 0, 1) := by decide +kernel
theorem dX6_freeLetter_21 : decode cX6_freeLetter 21 = .ok (.getfield 88, 3) := by decide +kernel
theorem dX6_freeLetter_24 : decode cX6_freeLetter 24 = .ok (.if_icmp .ge 43, 3) := by decide +kernel
theorem dX6_freeLetter_27 : decode cX6_freeLetter 27 = .ok (.iload 4, 2) := by decide +kernel
theorem dX6_freeLetter_29 : decode cX6_freeLetter 29 = .ok (.ifCond .eq 29, 3) := by decide +kernel
theorem dX6_freeLetter_32 : decode cX6_freeLetter 32 = .ok (.aload_n 0, 1) := by decide +kernel
theorem dX6_freeLetter_33 : decode cX6_freeLetter 33 = .ok (.getfield 30, 3) := by decide +kernel
theorem dX6_freeLetter_36 : decode cX6_freeLetter 36 = .ok (.iload 5, 2) := by decide +kernel
theorem dX6_freeLetter_38 : decode cX6_freeLetter 38 = .ok (.iaload, 1) := by decide +kernel
theorem dX6_freeLetter_39 : decode cX6_freeLetter 39 = .ok (.iload_n 1, 1) := by decide +kernel
theorem dX6_freeLetter_40 : decode cX6_freeLetter 40 = .ok (.if_icmp .ne 14, 3) := by decide +kernel
theorem dX6_freeLetter_43 : decode cX6_freeLetter 43 = .ok (.aload_n 0, 1) := by decide +kernel
theorem dX6_freeLetter_44 : decode cX6_freeLetter 44 = .ok (.getfield 33, 3) := by decide +kernel
theorem dX6_freeLetter_47 : decode cX6_freeLetter 47 = .ok (.iload 5, 2) := by decide +kernel
theorem dX6_freeLetter_49 : decode cX6_freeLetter 49 = .ok (.caload, 1) := by decide +kernel
theorem dX6_freeLetter_50 : decode cX6_freeLetter 50 = .ok (.iload_n 3, 1) := by decide +kernel
theorem dX6_freeLetter_51 : decode cX6_freeLetter 51 = .ok (.if_icmp .eq 7, 3) := by decide +kernel
theorem dX6_freeLetter_54 : decode cX6_freeLetter 54 = .ok (.iconst 1, 1) := by decide +kernel
theorem dX6_freeLetter_55 : decode cX6_freeLetter 55 = .ok (.goto 4, 3) := by decide +kernel
theorem dX6_freeLetter_58 : decode cX6_freeLetter 58 = .ok (.iconst 0, 1) := by decide +kernel
theorem dX6_freeLetter_59 : decode cX6_freeLetter 59 = .ok (.istore 4, 2) := by decide +kernel
theorem dX6_freeLetter_61 : decode cX6_freeLetter 61 = .ok (.iinc 5 1, 3) := by decide +kernel
theorem dX6_freeLetter_64 : decode cX6_freeLetter 64 = .ok (.goto (-46), 3) := by decide +kernel
theorem dX6_freeLetter_67 : decode cX6_freeLetter 67 = .ok (.iload 4, 2) := by decide +kernel
theorem dX6_freeLetter_69 : decode cX6_freeLetter 69 = .ok (.ifCond .eq 7, 3) := by decide +kernel
theorem dX6_freeLetter_72 : decode cX6_freeLetter 72 = .ok (.iload_n 3, 1) := by decide +kernel
theorem dX6_freeLetter_73 : decode cX6_freeLetter 73 = .ok (.goto 4, 3) := by decide +kernel
theorem dX6_freeLetter_76 : decode cX6_freeLetter 76 = .ok (.iload_n 2, 1) := by decide +kernel
theorem dX6_freeLetter_77 : decode cX6_freeLetter 77 = .ok (.istore_n 2, 1) := by decide +kernel
theorem dX6_freeLetter_78 : decode cX6_freeLetter 78 = .ok (.iload_n 3, 1) := by decide +kernel
theorem dX6_freeLetter_79 : decode cX6_freeLetter 79 = .ok (.iconst 1, 1) := by decide +kernel
theorem dX6_freeLetter_80 : decode cX6_freeLetter 80 = .ok (.isub, 1) := by decide +kernel
theorem dX6_freeLetter_81 : decode cX6_freeLetter 81 = .ok (.i2c, 1) := by decide +kernel
theorem dX6_freeLetter_82 : decode cX6_freeLetter 82 = .ok (.istore_n 3, 1) := by decide +kernel
theorem dX6_freeLetter_83 : decode cX6_freeLetter 83 = .ok (.goto (-77), 3) := by decide +kernel
theorem dX6_freeLetter_86 : decode cX6_freeLetter 86 = .ok (.iload_n 2, 1) := by decide +kernel
theorem dX6_freeLetter_87 : decode cX6_freeLetter 87 = .ok (.ireturn, 1) := by decide +kernel
theorem dX6_putIn_0 : decode cX6_putIn 0 = .ok (.aload_n 0, 1) := by decide +kernel
theorem dX6_putIn_1 : decode cX6_putIn 1 = .ok (.getfield 95, 3) := by decide +kernel
theorem dX6_putIn_4 : decode cX6_putIn 4 = .ok (.istore_n 3, 1) := by decide +kernel
theorem dX6_putIn_5 : decode cX6_putIn 5 = .ok (.iload_n 3, 1) := by decide +kernel
theorem dX6_putIn_6 : decode cX6_putIn 6 = .ok (.iload_n 2, 1) := by decide +kernel
theorem dX6_putIn_7 : decode cX6_putIn 7 = .ok (.if_icmp .le 23, 3) := by decide +kernel
theorem dX6_putIn_10 : decode cX6_putIn 10 = .ok (.aload_n 0, 1) := by decide +kernel
theorem dX6_putIn_11 : decode cX6_putIn 11 = .ok (.getfield 7, 3) := by decide +kernel
theorem dX6_putIn_14 : decode cX6_putIn 14 = .ok (.iload_n 3, 1) := by decide +kernel
theorem dX6_putIn_15 : decode cX6_putIn 15 = .ok (.aload_n 0, 1) := by decide +kernel
theorem dX6_putIn_16 : decode cX6_putIn 16 = .ok (.getfield 7, 3) := by decide +kernel
theorem dX6_putIn_19 : decode cX6_putIn 19 = .ok (.iload_n 3, 1) := by decide +kernel
theorem dX6_putIn_20 : decode cX6_putIn 20 = .ok (.iconst 1, 1) := by decide +kernel
theorem dX6_putIn_21 : decode cX6_putIn 21 = .ok (.isub, 1) := by decide +kernel
theorem dX6_putIn_22 : decode cX6_putIn 22 = .ok (.iaload, 1) := by decide +kernel
theorem dX6_putIn_23 : decode cX6_putIn 23 = .ok (.iastore, 1) := by decide +kernel
theorem dX6_putIn_24 : decode cX6_putIn 24 = .ok (.iinc 3 (-1), 3) := by decide +kernel
theorem dX6_putIn_27 : decode cX6_putIn 27 = .ok (.goto (-22), 3) := by decide +kernel
theorem dX6_putIn_30 : decode cX6_putIn 30 = .ok (.aload_n 0, 1) := by decide +kernel
theorem dX6_putIn_31 : decode cX6_putIn 31 = .ok (.getfield 7, 3) := by decide +kernel
theorem dX6_putIn_34 : decode cX6_putIn 34 = .ok (.iload_n 2, 1) := by decide +kernel
theorem dX6_putIn_35 : decode cX6_putIn 35 = .ok (.iload_n 1, 1) := by decide +kernel
theorem dX6_putIn_36 : decode cX6_putIn 36 = .ok (.iastore, 1) := by decide +kernel
theorem dX6_putIn_37 : decode cX6_putIn 37 = .ok (.aload_n 0, 1) := by decide +kernel
theorem dX6_putIn_38 : decode cX6_putIn 38 = .ok (.dup, 1) := by decide +kernel
theorem dX6_putIn_39 : decode cX6_putIn 39 = .ok (.getfield 95, 3) := by decide +kernel
theorem dX6_putIn_42 : decode cX6_putIn 42 = .ok (.iconst 1, 1) := by decide +kernel
theorem dX6_putIn_43 : decode cX6_putIn 43 = .ok (.iadd, 1) := by decide +kernel
theorem dX6_putIn_44 : decode cX6_putIn 44 = .ok (.putfield 95, 3) := by decide +kernel
theorem dX6_putIn_47 : decode cX6_putIn 47 = .ok (.return_, 1) := by decide +kernel
theorem dX6_takeOut_0 : decode cX6_takeOut 0 = .ok (.aload_n 0, 1) := by decide +kernel
theorem dX6_takeOut_1 : decode cX6_takeOut 1 = .ok (.dup, 1) := by decide +kernel
theorem dX6_takeOut_2 : decode cX6_takeOut 2 = .ok (.getfield 95, 3) := by decide +kernel
theorem dX6_takeOut_5 : decode cX6_takeOut 5 = .ok (.iconst 1, 1) := by decide +kernel
theorem dX6_takeOut_6 : decode cX6_takeOut 6 = .ok (.isub, 1) := by decide +kernel
theorem dX6_takeOut_7 : decode cX6_takeOut 7 = .ok (.putfield 95, 3) := by decide +kernel
theorem dX6_takeOut_10 : decode cX6_takeOut 10 = .ok (.iload_n 1, 1) := by decide +kernel
theorem dX6_takeOut_11 : decode cX6_takeOut 11 = .ok (.istore_n 2, 1) := by decide +kernel
theorem dX6_takeOut_12 : decode cX6_takeOut 12 = .ok (.iload_n 2, 1) := by decide +kernel
theorem dX6_takeOut_13 : decode cX6_takeOut 13 = .ok (.aload_n 0, 1) := by decide +kernel
theorem dX6_takeOut_14 : decode cX6_takeOut 14 = .ok (.getfield 95, 3) := by decide +kernel
theorem dX6_takeOut_17 : decode cX6_takeOut 17 = .ok (.if_icmp .ge 23, 3) := by decide +kernel
theorem dX6_takeOut_20 : decode cX6_takeOut 20 = .ok (.aload_n 0, 1) := by decide +kernel
theorem dX6_takeOut_21 : decode cX6_takeOut 21 = .ok (.getfield 7, 3) := by decide +kernel
theorem dX6_takeOut_24 : decode cX6_takeOut 24 = .ok (.iload_n 2, 1) := by decide +kernel
theorem dX6_takeOut_25 : decode cX6_takeOut 25 = .ok (.aload_n 0, 1) := by decide +kernel
theorem dX6_takeOut_26 : decode cX6_takeOut 26 = .ok (.getfield 7, 3) := by decide +kernel
theorem dX6_takeOut_29 : decode cX6_takeOut 29 = .ok (.iload_n 2, 1) := by decide +kernel
theorem dX6_takeOut_30 : decode cX6_takeOut 30 = .ok (.iconst 1, 1) := by decide +kernel
theorem dX6_takeOut_31 : decode cX6_takeOut 31 = .ok (.iadd, 1) := by decide +kernel
theorem dX6_takeOut_32 : decode cX6_takeOut 32 = .ok (.iaload, 1) := by decide +kernel
theorem dX6_takeOut_33 : decode cX6_takeOut 33 = .ok (.iastore, 1) := by decide +kernel
theorem dX6_takeOut_34 : decode cX6_takeOut 34 = .ok (.iinc 2 1, 3) := by decide +kernel
theorem dX6_takeOut_37 : decode cX6_takeOut 37 = .ok (.goto (-25), 3) := by decide +kernel
theorem dX6_takeOut_40 : decode cX6_takeOut 40 = .ok (.return_, 1) := by decide +kernel
theorem dX6_shot_0 : decode cX6_shot 0 = .ok (.aload_n 0, 1) := by decide +kernel
theorem dX6_shot_1 : decode cX6_shot 1 = .ok (.iload_n 1, 1) := by decide +kernel
theorem dX6_shot_2 : decode cX6_shot 2 = .ok (.iload_n 2, 1) := by decide +kernel
theorem dX6_shot_3 : decode cX6_shot 3 = .ok (.invokestatic 98, 3) := by decide +kernel
theorem dX6_shot_6 : decode cX6_shot 6 = .ok (.ifCond .eq 31, 3) := by decide +kernel
theorem dX6_shot_9 : decode cX6_shot 9 = .ok (.iload_n 3, 1) := by decide +kernel
theorem dX6_shot_10 : decode cX6_shot 10 = .ok (.iconst 1, 1) := by decide +kernel
theorem dX6_shot_11 : decode cX6_shot 11 = .ok (.sipush 240, 3) := by decide +kernel
theorem dX6_shot_14 : decode cX6_shot 14 = .ok (.invokestatic 91, 3) := by decide +kernel
theorem dX6_shot_17 : decode cX6_shot 17 = .ok (.ifCond .eq 20, 3) := by decide +kernel
theorem dX6_shot_20 : decode cX6_shot 20 = .ok (.iload 4, 2) := by decide +kernel
theorem dX6_shot_22 : decode cX6_shot 22 = .ok (.iconst 0, 1) := by decide +kernel
theorem dX6_shot_23 : decode cX6_shot 23 = .ok (.aload_n 0, 1) := by decide +kernel
theorem dX6_shot_24 : decode cX6_shot 24 = .ok (.getfield 95, 3) := by decide +kernel
theorem dX6_shot_27 : decode cX6_shot 27 = .ok (.invokestatic 91, 3) := by decide +kernel
theorem dX6_shot_30 : decode cX6_shot 30 = .ok (.ifCond .eq 7, 3) := by decide +kernel
theorem dX6_shot_33 : decode cX6_shot 33 = .ok (.iconst 0, 1) := by decide +kernel
theorem dX6_shot_34 : decode cX6_shot 34 = .ok (.goto 4, 3) := by decide +kernel
theorem dX6_shot_37 : decode cX6_shot 37 = .ok (.iconst 1, 1) := by decide +kernel
theorem dX6_shot_38 : decode cX6_shot 38 = .ok (.invokevirtual 102, 3) := by decide +kernel
theorem dX6_shot_41 : decode cX6_shot 41 = .ok (.ifCond .eq 5, 3) := by decide +kernel
theorem dX6_shot_44 : decode cX6_shot 44 = .ok (.iconst 0, 1) := by decide +kernel
theorem dX6_shot_45 : decode cX6_shot 45 = .ok (.ireturn, 1) := by decide +kernel
theorem dX6_shot_46 : decode cX6_shot 46 = .ok (.aload_n 0, 1) := by decide +kernel
theorem dX6_shot_47 : decode cX6_shot 47 = .ok (.getfield 106, 3) := by decide +kernel
theorem dX6_shot_50 : decode cX6_shot 50 = .ok (.ifCond .eq 25, 3) := by decide +kernel
theorem dX6_shot_53 : decode cX6_shot 53 = .ok (.iload 4, 2) := by decide +kernel
theorem dX6_shot_55 : decode cX6_shot 55 = .ok (.ifCond .le 20, 3) := by decide +kernel
theorem dX6_shot_58 : decode cX6_shot 58 = .ok (.aload_n 0, 1) := by decide +kernel
theorem dX6_shot_59 : decode cX6_shot 59 = .ok (.getfield 30, 3) := by decide +kernel
theorem dX6_shot_62 : decode cX6_shot 62 = .ok (.aload_n 0, 1) := by decide +kernel
theorem dX6_shot_63 : decode cX6_shot 63 = .ok (.getfield 7, 3) := by decide +kernel
theorem dX6_shot_66 : decode cX6_shot 66 = .ok (.iload 4, 2) := by decide +kernel
theorem dX6_shot_68 : decode cX6_shot 68 = .ok (.iconst 1, 1) := by decide +kernel
theorem dX6_shot_69 : decode cX6_shot 69 = .ok (.isub, 1) := by decide +kernel
theorem dX6_shot_70 : decode cX6_shot 70 = .ok (.iaload, 1) := by decide +kernel
theorem dX6_shot_71 : decode cX6_shot 71 = .ok (.iaload, 1) := by decide +kernel
theorem dX6_shot_72 : decode cX6_shot 72 = .ok (.goto 4, 3) := by decide +kernel
theorem dX6_shot_75 : decode cX6_shot 75 = .ok (.iconst 0, 1) := by decide +kernel
theorem dX6_shot_76 : decode cX6_shot 76 = .ok (.istore 5, 2) := by decide +kernel
theorem dX6_shot_78 : decode cX6_shot 78 = .ok (.aload_n 0, 1) := by decide +kernel
theorem dX6_shot_79 : decode cX6_shot 79 = .ok (.getfield 106, 3) := by decide +kernel
theorem dX6_shot_82 : decode cX6_shot 82 = .ok (.ifCond .eq 12, 3) := by decide +kernel
theorem dX6_shot_85 : decode cX6_shot 85 = .ok (.aload_n 0, 1) := by decide +kernel
theorem dX6_shot_86 : decode cX6_shot 86 = .ok (.iload 5, 2) := by decide +kernel
theorem dX6_shot_88 : decode cX6_shot 88 = .ok (.invokevirtual 110, 3) := by decide +kernel
theorem dX6_shot_91 : decode cX6_shot 91 = .ok (.goto 5, 3) := by decide +kernel
theorem dX6_shot_94 : decode cX6_shot 94 = .ok (.bipush 45, 2) := by decide +kernel
theorem dX6_shot_96 : decode cX6_shot 96 = .ok (.istore 6, 2) := by decide +kernel
theorem dX6_shot_98 : decode cX6_shot 98 = .ok (.aload_n 0, 1) := by decide +kernel
theorem dX6_shot_99 : decode cX6_shot 99 = .ok (.iload 6, 2) := by decide +kernel
theorem dX6_shot_101 : decode cX6_shot 101 = .ok (.bipush 32, 2) := by decide +kernel
theorem dX6_shot_103 : decode cX6_shot 103 = .ok (.if_icmp .ne 7, 3) := by decide +kernel
theorem dX6_shot_106 : decode cX6_shot 106 = .ok (.iconst 2, 1) := by decide +kernel
theorem dX6_shot_107 : decode cX6_shot 107 = .ok (.goto 17, 3) := by decide +kernel
theorem dX6_shot_110 : decode cX6_shot 110 = .ok (.aload_n 0, 1) := by decide +kernel
theorem dX6_shot_111 : decode cX6_shot 111 = .ok (.getfield 88, 3) := by decide +kernel
theorem dX6_shot_114 : decode cX6_shot 114 = .ok (.bipush 24, 2) := by decide +kernel
theorem dX6_shot_116 : decode cX6_shot 116 = .ok (.if_icmp .ne 7, 3) := by decide +kernel
theorem dX6_shot_119 : decode cX6_shot 119 = .ok (.iconst 3, 1) := by decide +kernel
theorem dX6_shot_120 : decode cX6_shot 120 = .ok (.goto 4, 3) := by decide +kernel
theorem dX6_shot_123 : decode cX6_shot 123 = .ok (.iconst 0, 1) := by decide +kernel
theorem dX6_shot_124 : decode cX6_shot 124 = .ok (.invokevirtual 102, 3) := by decide +kernel
theorem dX6_shot_127 : decode cX6_shot 127 = .ok (.ifCond .eq 5, 3) := by decide +kernel
theorem dX6_shot_130 : decode cX6_shot 130 = .ok (.iconst 0, 1) := by decide +kernel
theorem dX6_shot_131 : decode cX6_shot 131 = .ok (.ireturn, 1) := by decide +kernel
theorem dX6_shot_132 : decode cX6_shot 132 = .ok (.aload_n 0, 1) := by decide +kernel
theorem dX6_shot_133 : decode cX6_shot 133 = .ok (.getfield 13, 3) := by decide +kernel
theorem dX6_shot_136 : decode cX6_shot 136 = .ok (.aload_n 0, 1) := by decide +kernel
theorem dX6_shot_137 : decode cX6_shot 137 = .ok (.getfield 88, 3) := by decide +kernel
theorem dX6_shot_140 : decode cX6_shot 140 = .ok (.iload_n 1, 1) := by decide +kernel
theorem dX6_shot_141 : decode cX6_shot 141 = .ok (.castore, 1) := by decide +kernel
theorem dX6_shot_142 : decode cX6_shot 142 = .ok (.aload_n 0, 1) := by decide +kernel
theorem dX6_shot_143 : decode cX6_shot 143 = .ok (.getfield 17, 3) := by decide +kernel
theorem dX6_shot_146 : decode cX6_shot 146 = .ok (.aload_n 0, 1) := by decide +kernel
theorem dX6_shot_147 : decode cX6_shot 147 = .ok (.getfield 88, 3) := by decide +kernel
theorem dX6_shot_150 : decode cX6_shot 150 = .ok (.iload_n 2, 1) := by decide +kernel
theorem dX6_shot_151 : decode cX6_shot 151 = .ok (.iastore, 1) := by decide +kernel
theorem dX6_shot_152 : decode cX6_shot 152 = .ok (.aload_n 0, 1) := by decide +kernel
theorem dX6_shot_153 : decode cX6_shot 153 = .ok (.getfield 20, 3) := by decide +kernel
theorem dX6_shot_156 : decode cX6_shot 156 = .ok (.aload_n 0, 1) := by decide +kernel
theorem dX6_shot_157 : decode cX6_shot 157 = .ok (.getfield 88, 3) := by decide +kernel
theorem dX6_shot_160 : decode cX6_shot 160 = .ok (.iload_n 3, 1) := by decide +kernel
theorem dX6_shot_161 : decode cX6_shot 161 = .ok (.iastore, 1) := by decide +kernel
theorem dX6_shot_162 : decode cX6_shot 162 = .ok (.aload_n 0, 1) := by decide +kernel
theorem dX6_shot_163 : decode cX6_shot 163 = .ok (.getfield 30, 3) := by decide +kernel
theorem dX6_shot_166 : decode cX6_shot 166 = .ok (.aload_n 0, 1) := by decide +kernel
theorem dX6_shot_167 : decode cX6_shot 167 = .ok (.getfield 88, 3) := by decide +kernel
theorem dX6_shot_170 : decode cX6_shot 170 = .ok (.aload_n 0, 1) := by decide +kernel
theorem dX6_shot_171 : decode cX6_shot 171 = .ok (.getfield 106, 3) := by decide +kernel
theorem dX6_shot_174 : decode cX6_shot 174 = .ok (.ifCond .eq 8, 3) := by decide +kernel
theorem dX6_shot_177 : decode cX6_shot 177 = .ok (.iload 5, 2) := by decide +kernel
theorem dX6_shot_179 : decode cX6_shot 179 = .ok (.goto 4, 3) := by decide +kernel
theorem dX6_shot_182 : decode cX6_shot 182 = .ok (.iconst (-1), 1) := by decide +kernel
theorem dX6_shot_183 : decode cX6_shot 183 = .ok (.iastore, 1) := by decide +kernel
theorem dX6_shot_184 : decode cX6_shot 184 = .ok (.aload_n 0, 1) := by decide +kernel
theorem dX6_shot_185 : decode cX6_shot 185 = .ok (.getfield 33, 3) := by decide +kernel
theorem dX6_shot_188 : decode cX6_shot 188 = .ok (.aload_n 0, 1) := by decide +kernel
theorem dX6_shot_189 : decode cX6_shot 189 = .ok (.getfield 88, 3) := by decide +kernel
theorem dX6_shot_192 : decode cX6_shot 192 = .ok (.iload 6, 2) := by decide +kernel
theorem dX6_shot_194 : decode cX6_shot 194 = .ok (.castore, 1) := by decide +kernel
theorem dX6_shot_195 : decode cX6_shot 195 = .ok (.aload_n 0, 1) := by decide +kernel
theorem dX6_shot_196 : decode cX6_shot 196 = .ok (.getfield 48, 3) := by decide +kernel
theorem dX6_shot_199 : decode cX6_shot 199 = .ok (.aload_n 0, 1) := by decide +kernel
theorem dX6_shot_200 : decode cX6_shot 200 = .ok (.getfield 88, 3) := by decide +kernel
theorem dX6_shot_203 : decode cX6_shot 203 = .ok (.bipush 45, 2) := by decide +kernel
theorem dX6_shot_205 : decode cX6_shot 205 = .ok (.castore, 1) := by decide +kernel
theorem dX6_shot_206 : decode cX6_shot 206 = .ok (.aload_n 0, 1) := by decide +kernel
theorem dX6_shot_207 : decode cX6_shot 207 = .ok (.getfield 60, 3) := by decide +kernel
theorem dX6_shot_210 : decode cX6_shot 210 = .ok (.aload_n 0, 1) := by decide +kernel
theorem dX6_shot_211 : decode cX6_shot 211 = .ok (.getfield 88, 3) := by decide +kernel
theorem dX6_shot_214 : decode cX6_shot 214 = .ok (.iconst (-1), 1) := by decide +kernel
theorem dX6_shot_215 : decode cX6_shot 215 = .ok (.iastore, 1) := by decide +kernel
theorem dX6_shot_216 : decode cX6_shot 216 = .ok (.iconst 4, 1) := by decide +kernel
theorem dX6_shot_217 : decode cX6_shot 217 = .ok (.aload_n 0, 1) := by decide +kernel
theorem dX6_shot_218 : decode cX6_shot 218 = .ok (.getfield 88, 3) := by decide +kernel
theorem dX6_shot_221 : decode cX6_shot 221 = .ok (.imul, 1) := by decide +kernel
theorem dX6_shot_222 : decode cX6_shot 222 = .ok (.istore 7, 2) := by decide +kernel
theorem dX6_shot_224 : decode cX6_shot 224 = .ok (.iload 7, 2) := by decide +kernel
theorem dX6_shot_226 : decode cX6_shot 226 = .ok (.iconst 4, 1) := by decide +kernel
theorem dX6_shot_227 : decode cX6_shot 227 = .ok (.aload_n 0, 1) := by decide +kernel
theorem dX6_shot_228 : decode cX6_shot 228 = .ok (.getfield 88, 3) := by decide +kernel
theorem dX6_shot_231 : decode cX6_shot 231 = .ok (.imul, 1) := by decide +kernel
theorem dX6_shot_232 : decode cX6_shot 232 = .ok (.iconst 4, 1) := by decide +kernel
theorem dX6_shot_233 : decode cX6_shot 233 = .ok (.iadd, 1) := by decide +kernel
theorem dX6_shot_234 : decode cX6_shot 234 = .ok (.if_icmp .ge 45, 3) := by decide +kernel
theorem dX6_shot_237 : decode cX6_shot 237 = .ok (.aload_n 0, 1) := by decide +kernel
theorem dX6_shot_238 : decode cX6_shot 238 = .ok (.getfield 36, 3) := by decide +kernel
theorem dX6_shot_241 : decode cX6_shot 241 = .ok (.iload 7, 2) := by decide +kernel
theorem dX6_shot_243 : decode cX6_shot 243 = .ok (.bipush 45, 2) := by decide +kernel
theorem dX6_shot_245 : decode cX6_shot 245 = .ok (.castore, 1) := by decide +kernel
theorem dX6_shot_246 : decode cX6_shot 246 = .ok (.aload_n 0, 1) := by decide +kernel
theorem dX6_shot_247 : decode cX6_shot 247 = .ok (.getfield 39, 3) := by decide +kernel
theorem dX6_shot_250 : decode cX6_shot 250 = .ok (.iload 7, 2) := by decide +kernel
theorem dX6_shot_252 : decode cX6_shot 252 = .ok (.bipush 45, 2) := by decide +kernel
theorem dX6_shot_254 : decode cX6_shot 254 = .ok (.castore, 1) := by decide +kernel
theorem dX6_shot_255 : decode cX6_shot 255 = .ok (.aload_n 0, 1) := by decide +kernel
theorem dX6_shot_256 : decode cX6_shot 256 = .ok (.getfield 42, 3) := by decide +kernel
theorem dX6_shot_259 : decode cX6_shot 259 = .ok (.iload 7, 2) := by decide +kernel
theorem dX6_shot_261 : decode cX6_shot 261 = .ok (.bipush 45, 2) := by decide +kernel
theorem dX6_shot_263 : decode cX6_shot 263 = .ok (.castore, 1) := by decide +kernel
theorem dX6_shot_264 : decode cX6_shot 264 = .ok (.aload_n 0, 1) := by decide +kernel
theorem dX6_shot_265 : decode cX6_shot 265 = .ok (.getfield 45, 3) := by decide +kernel
theorem dX6_shot_268 : decode cX6_shot 268 = .ok (.iload 7, 2) := by decide +kernel
theorem dX6_shot_270 : decode cX6_shot 270 = .ok (.bipush 45, 2) := by decide +kernel
theorem dX6_shot_272 : decode cX6_shot 272 = .ok (.castore, 1) := by decide +kernel
theorem dX6_shot_273 : decode cX6_shot 273 = .ok (.iinc 7 1, 3) := by decide +kernel
theorem dX6_shot_276 : decode cX6_shot 276 = .ok (.goto (-52), 3) := by decide +kernel
theorem dX6_shot_279 : decode cX6_shot 279 = .ok (.aload_n 0, 1) := by decide +kernel
theorem dX6_shot_280 : decode cX6_shot 280 = .ok (.aload_n 0, 1) := by decide +kernel
theorem dX6_shot_281 : decode cX6_shot 281 = .ok (.getfield 88, 3) := by decide +kernel
theorem dX6_shot_284 : decode cX6_shot 284 = .ok (.iload 4, 2) := by decide +kernel
theorem dX6_shot_286 : decode cX6_shot 286 = .ok (.invokevirtual 114, 3) := by decide +kernel
theorem dX6_shot_289 : decode cX6_shot 289 = .ok (.aload_n 0, 1) := by decide +kernel
theorem dX6_shot_290 : decode cX6_shot 290 = .ok (.dup, 1) := by decide +kernel
theorem dX6_shot_291 : decode cX6_shot 291 = .ok (.getfield 88, 3) := by decide +kernel
theorem dX6_shot_294 : decode cX6_shot 294 = .ok (.iconst 1, 1) := by decide +kernel
theorem dX6_shot_295 : decode cX6_shot 295 = .ok (.iadd, 1) := by decide +kernel
theorem dX6_shot_296 : decode cX6_shot 296 = .ok (.putfield 88, 3) := by decide +kernel
theorem dX6_shot_299 : decode cX6_shot 299 = .ok (.aload_n 0, 1) := by decide +kernel
theorem dX6_shot_300 : decode cX6_shot 300 = .ok (.getfield 88, 3) := by decide +kernel
theorem dX6_shot_303 : decode cX6_shot 303 = .ok (.iconst 1, 1) := by decide +kernel
theorem dX6_shot_304 : decode cX6_shot 304 = .ok (.isub, 1) := by decide +kernel
theorem dX6_shot_305 : decode cX6_shot 305 = .ok (.ireturn, 1) := by decide +kernel
theorem dX6_drop_0 : decode cX6_drop 0 = .ok (.aload_n 0, 1) := by decide +kernel
theorem dX6_drop_1 : decode cX6_drop 1 = .ok (.aload_n 0, 1) := by decide +kernel
theorem dX6_drop_2 : decode cX6_drop 2 = .ok (.iload_n 1, 1) := by decide +kernel
theorem dX6_drop_3 : decode cX6_drop 3 = .ok (.invokevirtual 118, 3) := by decide +kernel
theorem dX6_drop_6 : decode cX6_drop 6 = .ok (.ifCond .ne 7, 3) := by decide +kernel
theorem dX6_drop_9 : decode cX6_drop 9 = .ok (.iconst 1, 1) := by decide +kernel
theorem dX6_drop_10 : decode cX6_drop 10 = .ok (.goto 16, 3) := by decide +kernel
theorem dX6_drop_13 : decode cX6_drop 13 = .ok (.aload_n 0, 1) := by decide +kernel
theorem dX6_drop_14 : decode cX6_drop 14 = .ok (.iload_n 1, 1) := by decide +kernel
theorem dX6_drop_15 : decode cX6_drop 15 = .ok (.invokevirtual 121, 3) := by decide +kernel
theorem dX6_drop_18 : decode cX6_drop 18 = .ok (.ifCond .ge 7, 3) := by decide +kernel
theorem dX6_drop_21 : decode cX6_drop 21 = .ok (.iconst 2, 1) := by decide +kernel
theorem dX6_drop_22 : decode cX6_drop 22 = .ok (.goto 4, 3) := by decide +kernel
theorem dX6_drop_25 : decode cX6_drop 25 = .ok (.iconst 0, 1) := by decide +kernel
theorem dX6_drop_26 : decode cX6_drop 26 = .ok (.invokevirtual 102, 3) := by decide +kernel
theorem dX6_drop_29 : decode cX6_drop 29 = .ok (.ifCond .eq 5, 3) := by decide +kernel
theorem dX6_drop_32 : decode cX6_drop 32 = .ok (.iconst 0, 1) := by decide +kernel
theorem dX6_drop_33 : decode cX6_drop 33 = .ok (.ireturn, 1) := by decide +kernel
theorem dX6_drop_34 : decode cX6_drop 34 = .ok (.aload_n 0, 1) := by decide +kernel
theorem dX6_drop_35 : decode cX6_drop 35 = .ok (.iload_n 1, 1) := by decide +kernel
theorem dX6_drop_36 : decode cX6_drop 36 = .ok (.invokevirtual 121, 3) := by decide +kernel
theorem dX6_drop_39 : decode cX6_drop 39 = .ok (.istore_n 2, 1) := by decide +kernel
theorem dX6_drop_40 : decode cX6_drop 40 = .ok (.aload_n 0, 1) := by decide +kernel
theorem dX6_drop_41 : decode cX6_drop 41 = .ok (.iload_n 2, 1) := by decide +kernel
theorem dX6_drop_42 : decode cX6_drop 42 = .ok (.invokevirtual 125, 3) := by decide +kernel
theorem dX6_drop_45 : decode cX6_drop 45 = .ok (.aload_n 0, 1) := by decide +kernel
theorem dX6_drop_46 : decode cX6_drop 46 = .ok (.getfield 23, 3) := by decide +kernel
theorem dX6_drop_49 : decode cX6_drop 49 = .ok (.iload_n 1, 1) := by decide +kernel
theorem dX6_drop_50 : decode cX6_drop 50 = .ok (.aload_n 0, 1) := by decide +kernel
theorem dX6_drop_51 : decode cX6_drop 51 = .ok (.getfield 23, 3) := by decide +kernel
theorem dX6_drop_54 : decode cX6_drop 54 = .ok (.iload_n 1, 1) := by decide +kernel
theorem dX6_drop_55 : decode cX6_drop 55 = .ok (.iaload, 1) := by decide +kernel
theorem dX6_drop_56 : decode cX6_drop 56 = .ok (.iconst 1, 1) := by decide +kernel
theorem dX6_drop_57 : decode cX6_drop 57 = .ok (.iadd, 1) := by decide +kernel
theorem dX6_drop_58 : decode cX6_drop 58 = .ok (.iastore, 1) := by decide +kernel
theorem dX6_drop_59 : decode cX6_drop 59 = .ok (.aload_n 0, 1) := by decide +kernel
theorem dX6_drop_60 : decode cX6_drop 60 = .ok (.getfield 60, 3) := by decide +kernel
theorem dX6_drop_63 : decode cX6_drop 63 = .ok (.iload_n 1, 1) := by decide +kernel
theorem dX6_drop_64 : decode cX6_drop 64 = .ok (.iconst (-1), 1) := by decide +kernel
theorem dX6_drop_65 : decode cX6_drop 65 = .ok (.iastore, 1) := by decide +kernel
theorem dX6_drop_66 : decode cX6_drop 66 = .ok (.iload_n 2, 1) := by decide +kernel
theorem dX6_drop_67 : decode cX6_drop 67 = .ok (.ireturn, 1) := by decide +kernel
theorem dX6_move_0 : decode cX6_move 0 = .ok (.aload_n 0, 1) := by decide +kernel
theorem dX6_move_1 : decode cX6_move 1 = .ok (.aload_n 0, 1) := by decide +kernel
theorem dX6_move_2 : decode cX6_move 2 = .ok (.iload_n 1, 1) := by decide +kernel
theorem dX6_move_3 : decode cX6_move 3 = .ok (.invokevirtual 118, 3) := by decide +kernel
theorem dX6_move_6 : decode cX6_move 6 = .ok (.ifCond .ne 7, 3) := by decide +kernel
theorem dX6_move_9 : decode cX6_move 9 = .ok (.iconst 1, 1) := by decide +kernel
theorem dX6_move_10 : decode cX6_move 10 = .ok (.goto 34, 3) := by decide +kernel
theorem dX6_move_13 : decode cX6_move 13 = .ok (.iload_n 2, 1) := by decide +kernel
theorem dX6_move_14 : decode cX6_move 14 = .ok (.iconst 0, 1) := by decide +kernel
theorem dX6_move_15 : decode cX6_move 15 = .ok (.aload_n 0, 1) := by decide +kernel
theorem dX6_move_16 : decode cX6_move 16 = .ok (.getfield 95, 3) := by decide +kernel
theorem dX6_move_19 : decode cX6_move 19 = .ok (.iconst 1, 1) := by decide +kernel
theorem dX6_move_20 : decode cX6_move 20 = .ok (.isub, 1) := by decide +kernel
theorem dX6_move_21 : decode cX6_move 21 = .ok (.invokestatic 91, 3) := by decide +kernel
theorem dX6_move_24 : decode cX6_move 24 = .ok (.ifCond .ne 7, 3) := by decide +kernel
theorem dX6_move_27 : decode cX6_move 27 = .ok (.iconst 2, 1) := by decide +kernel
theorem dX6_move_28 : decode cX6_move 28 = .ok (.goto 16, 3) := by decide +kernel
theorem dX6_move_31 : decode cX6_move 31 = .ok (.aload_n 0, 1) := by decide +kernel
theorem dX6_move_32 : decode cX6_move 32 = .ok (.iload_n 1, 1) := by decide +kernel
theorem dX6_move_33 : decode cX6_move 33 = .ok (.invokevirtual 121, 3) := by decide +kernel
theorem dX6_move_36 : decode cX6_move 36 = .ok (.ifCond .ge 7, 3) := by decide +kernel
theorem dX6_move_39 : decode cX6_move 39 = .ok (.iconst 3, 1) := by decide +kernel
theorem dX6_move_40 : decode cX6_move 40 = .ok (.goto 4, 3) := by decide +kernel
theorem dX6_move_43 : decode cX6_move 43 = .ok (.iconst 0, 1) := by decide +kernel
theorem dX6_move_44 : decode cX6_move 44 = .ok (.invokevirtual 102, 3) := by decide +kernel
theorem dX6_move_47 : decode cX6_move 47 = .ok (.ifCond .eq 5, 3) := by decide +kernel
theorem dX6_move_50 : decode cX6_move 50 = .ok (.iconst 0, 1) := by decide +kernel
theorem dX6_move_51 : decode cX6_move 51 = .ok (.ireturn, 1) := by decide +kernel
theorem dX6_move_52 : decode cX6_move 52 = .ok (.aload_n 0, 1) := by decide +kernel
theorem dX6_move_53 : decode cX6_move 53 = .ok (.iload_n 1, 1) := by decide +kernel
theorem dX6_move_54 : decode cX6_move 54 = .ok (.invokevirtual 121, 3) := by decide +kernel
theorem dX6_move_57 : decode cX6_move 57 = .ok (.istore_n 3, 1) := by decide +kernel
theorem dX6_move_58 : decode cX6_move 58 = .ok (.aload_n 0, 1) := by decide +kernel
theorem dX6_move_59 : decode cX6_move 59 = .ok (.iload_n 3, 1) := by decide +kernel
theorem dX6_move_60 : decode cX6_move 60 = .ok (.invokevirtual 125, 3) := by decide +kernel
theorem dX6_move_63 : decode cX6_move 63 = .ok (.aload_n 0, 1) := by decide +kernel
theorem dX6_move_64 : decode cX6_move 64 = .ok (.iload_n 1, 1) := by decide +kernel
theorem dX6_move_65 : decode cX6_move 65 = .ok (.iload_n 2, 1) := by decide +kernel
theorem dX6_move_66 : decode cX6_move 66 = .ok (.invokevirtual 114, 3) := by decide +kernel
theorem dX6_move_69 : decode cX6_move 69 = .ok (.iload_n 3, 1) := by decide +kernel
theorem dX6_move_70 : decode cX6_move 70 = .ok (.ireturn, 1) := by decide +kernel
theorem dX6_shots_0 : decode cX6_shots 0 = .ok (.aload_n 0, 1) := by decide +kernel
theorem dX6_shots_1 : decode cX6_shots 1 = .ok (.iconst 0, 1) := by decide +kernel
theorem dX6_shots_2 : decode cX6_shots 2 = .ok (.putfield 84, 3) := by decide +kernel
theorem dX6_shots_5 : decode cX6_shots 5 = .ok (.aload_n 0, 1) := by decide +kernel
theorem dX6_shots_6 : decode cX6_shots 6 = .ok (.getfield 95, 3) := by decide +kernel
theorem dX6_shots_9 : decode cX6_shots 9 = .ok (.ireturn, 1) := by decide +kernel
theorem dX6_at_0 : decode cX6_at 0 = .ok (.aload_n 0, 1) := by decide +kernel
theorem dX6_at_1 : decode cX6_at 1 = .ok (.iload_n 1, 1) := by decide +kernel
theorem dX6_at_2 : decode cX6_at 2 = .ok (.iconst 0, 1) := by decide +kernel
theorem dX6_at_3 : decode cX6_at 3 = .ok (.aload_n 0, 1) := by decide +kernel
theorem dX6_at_4 : decode cX6_at 4 = .ok (.getfield 95, 3) := by decide +kernel
theorem dX6_at_7 : decode cX6_at 7 = .ok (.iconst 1, 1) := by decide +kernel
theorem dX6_at_8 : decode cX6_at 8 = .ok (.isub, 1) := by decide +kernel
theorem dX6_at_9 : decode cX6_at 9 = .ok (.invokestatic 91, 3) := by decide +kernel
theorem dX6_at_12 : decode cX6_at 12 = .ok (.ifCond .eq 7, 3) := by decide +kernel
theorem dX6_at_15 : decode cX6_at 15 = .ok (.iconst 0, 1) := by decide +kernel
theorem dX6_at_16 : decode cX6_at 16 = .ok (.goto 4, 3) := by decide +kernel
theorem dX6_at_19 : decode cX6_at 19 = .ok (.iconst 1, 1) := by decide +kernel
theorem dX6_at_20 : decode cX6_at 20 = .ok (.invokevirtual 102, 3) := by decide +kernel
theorem dX6_at_23 : decode cX6_at 23 = .ok (.ifCond .eq 7, 3) := by decide +kernel
theorem dX6_at_26 : decode cX6_at 26 = .ok (.iconst 0, 1) := by decide +kernel
theorem dX6_at_27 : decode cX6_at 27 = .ok (.goto 9, 3) := by decide +kernel
theorem dX6_at_30 : decode cX6_at 30 = .ok (.aload_n 0, 1) := by decide +kernel
theorem dX6_at_31 : decode cX6_at 31 = .ok (.getfield 7, 3) := by decide +kernel
theorem dX6_at_34 : decode cX6_at 34 = .ok (.iload_n 1, 1) := by decide +kernel
theorem dX6_at_35 : decode cX6_at 35 = .ok (.iaload, 1) := by decide +kernel
theorem dX6_at_36 : decode cX6_at 36 = .ok (.ireturn, 1) := by decide +kernel
theorem dX6_place_0 : decode cX6_place 0 = .ok (.aload_n 0, 1) := by decide +kernel
theorem dX6_place_1 : decode cX6_place 1 = .ok (.aload_n 0, 1) := by decide +kernel
theorem dX6_place_2 : decode cX6_place 2 = .ok (.iload_n 1, 1) := by decide +kernel
theorem dX6_place_3 : decode cX6_place 3 = .ok (.invokevirtual 118, 3) := by decide +kernel
theorem dX6_place_6 : decode cX6_place 6 = .ok (.ifCond .ne 7, 3) := by decide +kernel
theorem dX6_place_9 : decode cX6_place 9 = .ok (.iconst 1, 1) := by decide +kernel
theorem dX6_place_10 : decode cX6_place 10 = .ok (.goto 16, 3) := by decide +kernel
theorem dX6_place_13 : decode cX6_place 13 = .ok (.aload_n 0, 1) := by decide +kernel
theorem dX6_place_14 : decode cX6_place 14 = .ok (.iload_n 1, 1) := by decide +kernel
theorem dX6_place_15 : decode cX6_place 15 = .ok (.invokevirtual 121, 3) := by decide +kernel
theorem dX6_place_18 : decode cX6_place 18 = .ok (.ifCond .ge 7, 3) := by decide +kernel
theorem dX6_place_21 : decode cX6_place 21 = .ok (.iconst 2, 1) := by decide +kernel
theorem dX6_place_22 : decode cX6_place 22 = .ok (.goto 4, 3) := by decide +kernel
theorem dX6_place_25 : decode cX6_place 25 = .ok (.iconst 0, 1) := by decide +kernel
theorem dX6_place_26 : decode cX6_place 26 = .ok (.invokevirtual 102, 3) := by decide +kernel
theorem dX6_place_29 : decode cX6_place 29 = .ok (.ifCond .eq 7, 3) := by decide +kernel
theorem dX6_place_32 : decode cX6_place 32 = .ok (.iconst 0, 1) := by decide +kernel
theorem dX6_place_33 : decode cX6_place 33 = .ok (.goto 8, 3) := by decide +kernel
theorem dX6_place_36 : decode cX6_place 36 = .ok (.aload_n 0, 1) := by decide +kernel
theorem dX6_place_37 : decode cX6_place 37 = .ok (.iload_n 1, 1) := by decide +kernel
theorem dX6_place_38 : decode cX6_place 38 = .ok (.invokevirtual 121, 3) := by decide +kernel
theorem dX6_place_41 : decode cX6_place 41 = .ok (.ireturn, 1) := by decide +kernel
theorem dX6_change_0 : decode cX6_change 0 = .ok (.aload_n 0, 1) := by decide +kernel
theorem dX6_change_1 : decode cX6_change 1 = .ok (.getfield 23, 3) := by decide +kernel
theorem dX6_change_4 : decode cX6_change 4 = .ok (.iload_n 1, 1) := by decide +kernel
theorem dX6_change_5 : decode cX6_change 5 = .ok (.iload_n 2, 1) := by decide +kernel
theorem dX6_change_6 : decode cX6_change 6 = .ok (.ifCond .eq 14, 3) := by decide +kernel
theorem dX6_change_9 : decode cX6_change 9 = .ok (.aload_n 0, 1) := by decide +kernel
theorem dX6_change_10 : decode cX6_change 10 = .ok (.getfield 23, 3) := by decide +kernel
theorem dX6_change_13 : decode cX6_change 13 = .ok (.iload_n 1, 1) := by decide +kernel
theorem dX6_change_14 : decode cX6_change 14 = .ok (.iaload, 1) := by decide +kernel
theorem dX6_change_15 : decode cX6_change 15 = .ok (.iconst 1, 1) := by decide +kernel
theorem dX6_change_16 : decode cX6_change 16 = .ok (.iadd, 1) := by decide +kernel
theorem dX6_change_17 : decode cX6_change 17 = .ok (.goto 9, 3) := by decide +kernel
theorem dX6_change_20 : decode cX6_change 20 = .ok (.aload_n 0, 1) := by decide +kernel
theorem dX6_change_21 : decode cX6_change 21 = .ok (.getfield 23, 3) := by decide +kernel
theorem dX6_change_24 : decode cX6_change 24 = .ok (.iload_n 1, 1) := by decide +kernel
theorem dX6_change_25 : decode cX6_change 25 = .ok (.iaload, 1) := by decide +kernel
theorem dX6_change_26 : decode cX6_change 26 = .ok (.iastore, 1) := by decide +kernel
theorem dX6_change_27 : decode cX6_change 27 = .ok (.return_, 1) := by decide +kernel
theorem dX6_camera_0 : decode cX6_camera 0 = .ok (.aload_n 0, 1) := by decide +kernel
theorem dX6_camera_1 : decode cX6_camera 1 = .ok (.aload_n 0, 1) := by decide +kernel
theorem dX6_camera_2 : decode cX6_camera 2 = .ok (.iload_n 1, 1) := by decide +kernel
theorem dX6_camera_3 : decode cX6_camera 3 = .ok (.invokevirtual 118, 3) := by decide +kernel
theorem dX6_camera_6 : decode cX6_camera 6 = .ok (.ifCond .ne 7, 3) := by decide +kernel
theorem dX6_camera_9 : decode cX6_camera 9 = .ok (.iconst 1, 1) := by decide +kernel
theorem dX6_camera_10 : decode cX6_camera 10 = .ok (.goto 28, 3) := by decide +kernel
theorem dX6_camera_13 : decode cX6_camera 13 = .ok (.iload_n 2, 1) := by decide +kernel
theorem dX6_camera_14 : decode cX6_camera 14 = .ok (.iload_n 3, 1) := by decide +kernel
theorem dX6_camera_15 : decode cX6_camera 15 = .ok (.invokestatic 98, 3) := by decide +kernel
theorem dX6_camera_18 : decode cX6_camera 18 = .ok (.ifCond .ne 7, 3) := by decide +kernel
theorem dX6_camera_21 : decode cX6_camera 21 = .ok (.iconst 2, 1) := by decide +kernel
theorem dX6_camera_22 : decode cX6_camera 22 = .ok (.goto 16, 3) := by decide +kernel
theorem dX6_camera_25 : decode cX6_camera 25 = .ok (.aload_n 0, 1) := by decide +kernel
theorem dX6_camera_26 : decode cX6_camera 26 = .ok (.iload_n 1, 1) := by decide +kernel
theorem dX6_camera_27 : decode cX6_camera 27 = .ok (.invokevirtual 121, 3) := by decide +kernel
theorem dX6_camera_30 : decode cX6_camera 30 = .ok (.ifCond .ge 7, 3) := by decide +kernel
theorem dX6_camera_33 : decode cX6_camera 33 = .ok (.iconst 3, 1) := by decide +kernel
theorem dX6_camera_34 : decode cX6_camera 34 = .ok (.goto 4, 3) := by decide +kernel
theorem dX6_camera_37 : decode cX6_camera 37 = .ok (.iconst 0, 1) := by decide +kernel
theorem dX6_camera_38 : decode cX6_camera 38 = .ok (.invokevirtual 102, 3) := by decide +kernel
theorem dX6_camera_41 : decode cX6_camera 41 = .ok (.ifCond .eq 5, 3) := by decide +kernel
theorem dX6_camera_44 : decode cX6_camera 44 = .ok (.iconst 0, 1) := by decide +kernel
theorem dX6_camera_45 : decode cX6_camera 45 = .ok (.ireturn, 1) := by decide +kernel
theorem dX6_camera_46 : decode cX6_camera 46 = .ok (.aload_n 0, 1) := by decide +kernel
theorem dX6_camera_47 : decode cX6_camera 47 = .ok (.iload_n 1, 1) := by decide +kernel
theorem dX6_camera_48 : decode cX6_camera 48 = .ok (.aload_n 0, 1) := by decide +kernel
theorem dX6_camera_49 : decode cX6_camera 49 = .ok (.getfield 13, 3) := by decide +kernel
theorem dX6_camera_52 : decode cX6_camera 52 = .ok (.iload_n 1, 1) := by decide +kernel
theorem dX6_camera_53 : decode cX6_camera 53 = .ok (.caload, 1) := by decide +kernel
theorem dX6_camera_54 : decode cX6_camera 54 = .ok (.iload_n 2, 1) := by decide +kernel
theorem dX6_camera_55 : decode cX6_camera 55 = .ok (.if_icmp .ne 13, 3) := by decide +kernel
theorem dX6_camera_58 : decode cX6_camera 58 = .ok (.aload_n 0, 1) := by decide +kernel
theorem dX6_camera_59 : decode cX6_camera 59 = .ok (.getfield 17, 3) := by decide +kernel
theorem dX6_camera_62 : decode cX6_camera 62 = .ok (.iload_n 1, 1) := by decide +kernel
theorem dX6_camera_63 : decode cX6_camera 63 = .ok (.iaload, 1) := by decide +kernel
theorem dX6_camera_64 : decode cX6_camera 64 = .ok (.iload_n 3, 1) := by decide +kernel
theorem dX6_camera_65 : decode cX6_camera 65 = .ok (.if_icmp .eq 7, 3) := by decide +kernel
theorem dX6_camera_68 : decode cX6_camera 68 = .ok (.iconst 1, 1) := by decide +kernel
theorem dX6_camera_69 : decode cX6_camera 69 = .ok (.goto 4, 3) := by decide +kernel
theorem dX6_camera_72 : decode cX6_camera 72 = .ok (.iconst 0, 1) := by decide +kernel
theorem dX6_camera_73 : decode cX6_camera 73 = .ok (.invokevirtual 129, 3) := by decide +kernel
theorem dX6_camera_76 : decode cX6_camera 76 = .ok (.aload_n 0, 1) := by decide +kernel
theorem dX6_camera_77 : decode cX6_camera 77 = .ok (.getfield 13, 3) := by decide +kernel
theorem dX6_camera_80 : decode cX6_camera 80 = .ok (.iload_n 1, 1) := by decide +kernel
theorem dX6_camera_81 : decode cX6_camera 81 = .ok (.iload_n 2, 1) := by decide +kernel
theorem dX6_camera_82 : decode cX6_camera 82 = .ok (.castore, 1) := by decide +kernel
theorem dX6_camera_83 : decode cX6_camera 83 = .ok (.aload_n 0, 1) := by decide +kernel
theorem dX6_camera_84 : decode cX6_camera 84 = .ok (.getfield 17, 3) := by decide +kernel
theorem dX6_camera_87 : decode cX6_camera 87 = .ok (.iload_n 1, 1) := by decide +kernel
theorem dX6_camera_88 : decode cX6_camera 88 = .ok (.iload_n 3, 1) := by decide +kernel
theorem dX6_camera_89 : decode cX6_camera 89 = .ok (.iastore, 1) := by decide +kernel
theorem dX6_camera_90 : decode cX6_camera 90 = .ok (.aload_n 0, 1) := by decide +kernel
theorem dX6_camera_91 : decode cX6_camera 91 = .ok (.getfield 23, 3) := by decide +kernel
theorem dX6_camera_94 : decode cX6_camera 94 = .ok (.iload_n 1, 1) := by decide +kernel
theorem dX6_camera_95 : decode cX6_camera 95 = .ok (.iaload, 1) := by decide +kernel
theorem dX6_camera_96 : decode cX6_camera 96 = .ok (.ireturn, 1) := by decide +kernel
theorem dX6_length_0 : decode cX6_length 0 = .ok (.aload_n 0, 1) := by decide +kernel
theorem dX6_length_1 : decode cX6_length 1 = .ok (.aload_n 0, 1) := by decide +kernel
theorem dX6_length_2 : decode cX6_length 2 = .ok (.iload_n 1, 1) := by decide +kernel
theorem dX6_length_3 : decode cX6_length 3 = .ok (.invokevirtual 118, 3) := by decide +kernel
theorem dX6_length_6 : decode cX6_length 6 = .ok (.ifCond .ne 7, 3) := by decide +kernel
theorem dX6_length_9 : decode cX6_length 9 = .ok (.iconst 1, 1) := by decide +kernel
theorem dX6_length_10 : decode cX6_length 10 = .ok (.goto 31, 3) := by decide +kernel
theorem dX6_length_13 : decode cX6_length 13 = .ok (.iload_n 2, 1) := by decide +kernel
theorem dX6_length_14 : decode cX6_length 14 = .ok (.iconst 1, 1) := by decide +kernel
theorem dX6_length_15 : decode cX6_length 15 = .ok (.sipush 240, 3) := by decide +kernel
theorem dX6_length_18 : decode cX6_length 18 = .ok (.invokestatic 91, 3) := by decide +kernel
theorem dX6_length_21 : decode cX6_length 21 = .ok (.ifCond .ne 7, 3) := by decide +kernel
theorem dX6_length_24 : decode cX6_length 24 = .ok (.iconst 2, 1) := by decide +kernel
theorem dX6_length_25 : decode cX6_length 25 = .ok (.goto 16, 3) := by decide +kernel
theorem dX6_length_28 : decode cX6_length 28 = .ok (.aload_n 0, 1) := by decide +kernel
theorem dX6_length_29 : decode cX6_length 29 = .ok (.iload_n 1, 1) := by decide +kernel
theorem dX6_length_30 : decode cX6_length 30 = .ok (.invokevirtual 121, 3) := by decide +kernel
theorem dX6_length_33 : decode cX6_length 33 = .ok (.ifCond .ge 7, 3) := by decide +kernel
theorem dX6_length_36 : decode cX6_length 36 = .ok (.iconst 3, 1) := by decide +kernel
theorem dX6_length_37 : decode cX6_length 37 = .ok (.goto 4, 3) := by decide +kernel
theorem dX6_length_40 : decode cX6_length 40 = .ok (.iconst 0, 1) := by decide +kernel
theorem dX6_length_41 : decode cX6_length 41 = .ok (.invokevirtual 102, 3) := by decide +kernel
theorem dX6_length_44 : decode cX6_length 44 = .ok (.ifCond .eq 5, 3) := by decide +kernel
theorem dX6_length_47 : decode cX6_length 47 = .ok (.iconst 0, 1) := by decide +kernel
theorem dX6_length_48 : decode cX6_length 48 = .ok (.ireturn, 1) := by decide +kernel
theorem dX6_length_49 : decode cX6_length 49 = .ok (.aload_n 0, 1) := by decide +kernel
theorem dX6_length_50 : decode cX6_length 50 = .ok (.getfield 20, 3) := by decide +kernel
theorem dX6_length_53 : decode cX6_length 53 = .ok (.iload_n 1, 1) := by decide +kernel
theorem dX6_length_54 : decode cX6_length 54 = .ok (.iaload, 1) := by decide +kernel
theorem dX6_length_55 : decode cX6_length 55 = .ok (.istore_n 3, 1) := by decide +kernel
theorem dX6_length_56 : decode cX6_length 56 = .ok (.aload_n 0, 1) := by decide +kernel
theorem dX6_length_57 : decode cX6_length 57 = .ok (.iload_n 1, 1) := by decide +kernel
theorem dX6_length_58 : decode cX6_length 58 = .ok (.iload_n 3, 1) := by decide +kernel
theorem dX6_length_59 : decode cX6_length 59 = .ok (.iload_n 2, 1) := by decide +kernel
theorem dX6_length_60 : decode cX6_length 60 = .ok (.if_icmp .eq 7, 3) := by decide +kernel
theorem dX6_length_63 : decode cX6_length 63 = .ok (.iconst 1, 1) := by decide +kernel
theorem dX6_length_64 : decode cX6_length 64 = .ok (.goto 4, 3) := by decide +kernel
theorem dX6_length_67 : decode cX6_length 67 = .ok (.iconst 0, 1) := by decide +kernel
theorem dX6_length_68 : decode cX6_length 68 = .ok (.invokevirtual 129, 3) := by decide +kernel
theorem dX6_length_71 : decode cX6_length 71 = .ok (.aload_n 0, 1) := by decide +kernel
theorem dX6_length_72 : decode cX6_length 72 = .ok (.getfield 20, 3) := by decide +kernel
theorem dX6_length_75 : decode cX6_length 75 = .ok (.iload_n 1, 1) := by decide +kernel
theorem dX6_length_76 : decode cX6_length 76 = .ok (.iload_n 2, 1) := by decide +kernel
theorem dX6_length_77 : decode cX6_length 77 = .ok (.iastore, 1) := by decide +kernel
theorem dX6_length_78 : decode cX6_length 78 = .ok (.iload_n 3, 1) := by decide +kernel
theorem dX6_length_79 : decode cX6_length 79 = .ok (.ireturn, 1) := by decide +kernel
theorem dX6_countIn_0 : decode cX6_countIn 0 = .ok (.iconst 0, 1) := by decide +kernel
theorem dX6_countIn_1 : decode cX6_countIn 1 = .ok (.istore_n 2, 1) := by decide +kernel
theorem dX6_countIn_2 : decode cX6_countIn 2 = .ok (.iconst 4, 1) := by decide +kernel
theorem dX6_countIn_3 : decode cX6_countIn 3 = .ok (.iload_n 1, 1) := by decide +kernel
theorem dX6_countIn_4 : decode cX6_countIn 4 = .ok (.imul, 1) := by decide +kernel
theorem dX6_countIn_5 : decode cX6_countIn 5 = .ok (.istore_n 3, 1) := by decide +kernel
theorem dX6_countIn_6 : decode cX6_countIn 6 = .ok (.iload_n 3, 1) := by decide +kernel
theorem dX6_countIn_7 : decode cX6_countIn 7 = .ok (.iconst 4, 1) := by decide +kernel
theorem dX6_countIn_8 : decode cX6_countIn 8 = .ok (.iload_n 1, 1) := by decide +kernel
theorem dX6_countIn_9 : decode cX6_countIn 9 = .ok (.imul, 1) := by decide +kernel
theorem dX6_countIn_10 : decode cX6_countIn 10 = .ok (.iconst 4, 1) := by decide +kernel
theorem dX6_countIn_11 : decode cX6_countIn 11 = .ok (.iadd, 1) := by decide +kernel
theorem dX6_countIn_12 : decode cX6_countIn 12 = .ok (.if_icmp .ge 28, 3) := by decide +kernel
theorem dX6_countIn_15 : decode cX6_countIn 15 = .ok (.aload_n 0, 1) := by decide +kernel
theorem dX6_countIn_16 : decode cX6_countIn 16 = .ok (.getfield 36, 3) := by decide +kernel
theorem dX6_countIn_19 : decode cX6_countIn 19 = .ok (.iload_n 3, 1) := by decide +kernel
theorem dX6_countIn_20 : decode cX6_countIn 20 = .ok (.caload, 1) := by decide +kernel
theorem dX6_countIn_21 : decode cX6_countIn 21 = .ok (.bipush 45, 2) := by decide +kernel
theorem dX6_countIn_23 : decode cX6_countIn 23 = .ok (.if_icmp .eq 9, 3) := by decide +kernel
theorem dX6_countIn_26 : decode cX6_countIn 26 = .ok (.iload_n 2, 1) := by decide +kernel
theorem dX6_countIn_27 : decode cX6_countIn 27 = .ok (.iconst 1, 1) := by decide +kernel
theorem dX6_countIn_28 : decode cX6_countIn 28 = .ok (.iadd, 1) := by decide +kernel
theorem dX6_countIn_29 : decode cX6_countIn 29 = .ok (.goto 4, 3) := by decide +kernel
theorem dX6_countIn_32 : decode cX6_countIn 32 = .ok (.iload_n 2, 1) := by decide +kernel
theorem dX6_countIn_33 : decode cX6_countIn 33 = .ok (.istore_n 2, 1) := by decide +kernel
theorem dX6_countIn_34 : decode cX6_countIn 34 = .ok (.iinc 3 1, 3) := by decide +kernel
theorem dX6_countIn_37 : decode cX6_countIn 37 = .ok (.goto (-31), 3) := by decide +kernel
theorem dX6_countIn_40 : decode cX6_countIn 40 = .ok (.iload_n 2, 1) := by decide +kernel
theorem dX6_countIn_41 : decode cX6_countIn 41 = .ok (.ireturn, 1) := by decide +kernel
theorem dX6_stand_0 : decode cX6_stand 0 = .ok (.iload_n 2, 1) := by decide +kernel
theorem dX6_stand_1 : decode cX6_stand 1 = .ok (.iconst 0, 1) := by decide +kernel
theorem dX6_stand_2 : decode cX6_stand 2 = .ok (.iconst 3, 1) := by decide +kernel
theorem dX6_stand_3 : decode cX6_stand 3 = .ok (.invokestatic 91, 3) := by decide +kernel
theorem dX6_stand_6 : decode cX6_stand 6 = .ok (.ifCond .eq 28, 3) := by decide +kernel
theorem dX6_stand_9 : decode cX6_stand 9 = .ok (.iload_n 3, 1) := by decide +kernel
theorem dX6_stand_10 : decode cX6_stand 10 = .ok (.bipush 45, 2) := by decide +kernel
theorem dX6_stand_12 : decode cX6_stand 12 = .ok (.if_icmp .eq 18, 3) := by decide +kernel
theorem dX6_stand_15 : decode cX6_stand 15 = .ok (.iload_n 3, 1) := by decide +kernel
theorem dX6_stand_16 : decode cX6_stand 16 = .ok (.invokestatic 133, 3) := by decide +kernel
theorem dX6_stand_19 : decode cX6_stand 19 = .ok (.ifCond .eq 15, 3) := by decide +kernel
theorem dX6_stand_22 : decode cX6_stand 22 = .ok (.iload 4, 2) := by decide +kernel
theorem dX6_stand_24 : decode cX6_stand 24 = .ok (.invokestatic 133, 3) := by decide +kernel
theorem dX6_stand_27 : decode cX6_stand 27 = .ok (.ifCond .eq 7, 3) := by decide +kernel
theorem dX6_stand_30 : decode cX6_stand 30 = .ok (.iconst 1, 1) := by decide +kernel
theorem dX6_stand_31 : decode cX6_stand 31 = .ok (.goto 4, 3) := by decide +kernel
theorem dX6_stand_34 : decode cX6_stand 34 = .ok (.iconst 0, 1) := by decide +kernel
theorem dX6_stand_35 : decode cX6_stand 35 = .ok (.istore 5, 2) := by decide +kernel
theorem dX6_stand_37 : decode cX6_stand 37 = .ok (.aload_n 0, 1) := by decide +kernel
theorem dX6_stand_38 : decode cX6_stand 38 = .ok (.aload_n 0, 1) := by decide +kernel
theorem dX6_stand_39 : decode cX6_stand 39 = .ok (.iload_n 1, 1) := by decide +kernel
theorem dX6_stand_40 : decode cX6_stand 40 = .ok (.invokevirtual 118, 3) := by decide +kernel
theorem dX6_stand_43 : decode cX6_stand 43 = .ok (.ifCond .ne 7, 3) := by decide +kernel
theorem dX6_stand_46 : decode cX6_stand 46 = .ok (.iconst 1, 1) := by decide +kernel
theorem dX6_stand_47 : decode cX6_stand 47 = .ok (.goto 25, 3) := by decide +kernel
theorem dX6_stand_50 : decode cX6_stand 50 = .ok (.iload 5, 2) := by decide +kernel
theorem dX6_stand_52 : decode cX6_stand 52 = .ok (.ifCond .ne 7, 3) := by decide +kernel
theorem dX6_stand_55 : decode cX6_stand 55 = .ok (.iconst 2, 1) := by decide +kernel
theorem dX6_stand_56 : decode cX6_stand 56 = .ok (.goto 16, 3) := by decide +kernel
theorem dX6_stand_59 : decode cX6_stand 59 = .ok (.aload_n 0, 1) := by decide +kernel
theorem dX6_stand_60 : decode cX6_stand 60 = .ok (.iload_n 1, 1) := by decide +kernel
theorem dX6_stand_61 : decode cX6_stand 61 = .ok (.invokevirtual 121, 3) := by decide +kernel
theorem dX6_stand_64 : decode cX6_stand 64 = .ok (.ifCond .ge 7, 3) := by decide +kernel
theorem dX6_stand_67 : decode cX6_stand 67 = .ok (.iconst 3, 1) := by decide +kernel
theorem dX6_stand_68 : decode cX6_stand 68 = .ok (.goto 4, 3) := by decide +kernel
theorem dX6_stand_71 : decode cX6_stand 71 = .ok (.iconst 0, 1) := by decide +kernel
theorem dX6_stand_72 : decode cX6_stand 72 = .ok (.invokevirtual 102, 3) := by decide +kernel
theorem dX6_stand_75 : decode cX6_stand 75 = .ok (.ifCond .eq 5, 3) := by decide +kernel
theorem dX6_stand_78 : decode cX6_stand 78 = .ok (.iconst 0, 1) := by decide +kernel
theorem dX6_stand_79 : decode cX6_stand 79 = .ok (.ireturn, 1) := by decide +kernel
theorem dX6_stand_80 : decode cX6_stand 80 = .ok (.iconst 4, 1) := by decide +kernel
theorem dX6_stand_81 : decode cX6_stand 81 = .ok (.iload_n 1, 1) := by decide +kernel
theorem dX6_stand_82 : decode cX6_stand 82 = .ok (.imul, 1) := by decide +kernel
theorem dX6_stand_83 : decode cX6_stand 83 = .ok (.iload_n 2, 1) := by decide +kernel
theorem dX6_stand_84 : decode cX6_stand 84 = .ok (.iadd, 1) := by decide +kernel
theorem dX6_stand_85 : decode cX6_stand 85 = .ok (.istore 6, 2) := by decide +kernel
theorem dX6_stand_87 : decode cX6_stand 87 = .ok (.iload_n 3, 1) := by decide +kernel
theorem dX6_stand_88 : decode cX6_stand 88 = .ok (.bipush 45, 2) := by decide +kernel
theorem dX6_stand_90 : decode cX6_stand 90 = .ok (.if_icmp .ne 8, 3) := by decide +kernel
theorem dX6_stand_93 : decode cX6_stand 93 = .ok (.bipush 45, 2) := by decide +kernel
theorem dX6_stand_95 : decode cX6_stand 95 = .ok (.goto 5, 3) := by decide +kernel
theorem dX6_stand_98 : decode cX6_stand 98 = .ok (.iload 4, 2) := by decide +kernel
theorem dX6_stand_100 : decode cX6_stand 100 = .ok (.istore 7, 2) := by decide +kernel
theorem dX6_stand_102 : decode cX6_stand 102 = .ok (.aload_n 0, 1) := by decide +kernel
theorem dX6_stand_103 : decode cX6_stand 103 = .ok (.iload_n 1, 1) := by decide +kernel
theorem dX6_stand_104 : decode cX6_stand 104 = .ok (.aload_n 0, 1) := by decide +kernel
theorem dX6_stand_105 : decode cX6_stand 105 = .ok (.getfield 36, 3) := by decide +kernel
theorem dX6_stand_108 : decode cX6_stand 108 = .ok (.iload 6, 2) := by decide +kernel
theorem dX6_stand_110 : decode cX6_stand 110 = .ok (.caload, 1) := by decide +kernel
theorem dX6_stand_111 : decode cX6_stand 111 = .ok (.iload_n 3, 1) := by decide +kernel
theorem dX6_stand_112 : decode cX6_stand 112 = .ok (.if_icmp .ne 15, 3) := by decide +kernel
theorem dX6_stand_115 : decode cX6_stand 115 = .ok (.aload_n 0, 1) := by decide +kernel
theorem dX6_stand_116 : decode cX6_stand 116 = .ok (.getfield 39, 3) := by decide +kernel
theorem dX6_stand_119 : decode cX6_stand 119 = .ok (.iload 6, 2) := by decide +kernel
theorem dX6_stand_121 : decode cX6_stand 121 = .ok (.caload, 1) := by decide +kernel
theorem dX6_stand_122 : decode cX6_stand 122 = .ok (.iload 7, 2) := by decide +kernel
theorem dX6_stand_124 : decode cX6_stand 124 = .ok (.if_icmp .eq 7, 3) := by decide +kernel
theorem dX6_stand_127 : decode cX6_stand 127 = .ok (.iconst 1, 1) := by decide +kernel
theorem dX6_stand_128 : decode cX6_stand 128 = .ok (.goto 4, 3) := by decide +kernel
theorem dX6_stand_131 : decode cX6_stand 131 = .ok (.iconst 0, 1) := by decide +kernel
theorem dX6_stand_132 : decode cX6_stand 132 = .ok (.invokevirtual 129, 3) := by decide +kernel
theorem dX6_stand_135 : decode cX6_stand 135 = .ok (.aload_n 0, 1) := by decide +kernel
theorem dX6_stand_136 : decode cX6_stand 136 = .ok (.getfield 36, 3) := by decide +kernel
theorem dX6_stand_139 : decode cX6_stand 139 = .ok (.iload 6, 2) := by decide +kernel
theorem dX6_stand_141 : decode cX6_stand 141 = .ok (.iload_n 3, 1) := by decide +kernel
theorem dX6_stand_142 : decode cX6_stand 142 = .ok (.castore, 1) := by decide +kernel
theorem dX6_stand_143 : decode cX6_stand 143 = .ok (.aload_n 0, 1) := by decide +kernel
theorem dX6_stand_144 : decode cX6_stand 144 = .ok (.getfield 39, 3) := by decide +kernel
theorem dX6_stand_147 : decode cX6_stand 147 = .ok (.iload 6, 2) := by decide +kernel
theorem dX6_stand_149 : decode cX6_stand 149 = .ok (.iload 7, 2) := by decide +kernel
theorem dX6_stand_151 : decode cX6_stand 151 = .ok (.castore, 1) := by decide +kernel
theorem dX6_stand_152 : decode cX6_stand 152 = .ok (.iload_n 3, 1) := by decide +kernel
theorem dX6_stand_153 : decode cX6_stand 153 = .ok (.bipush 45, 2) := by decide +kernel
theorem dX6_stand_155 : decode cX6_stand 155 = .ok (.if_icmp .ne 21, 3) := by decide +kernel
theorem dX6_stand_158 : decode cX6_stand 158 = .ok (.aload_n 0, 1) := by decide +kernel
theorem dX6_stand_159 : decode cX6_stand 159 = .ok (.getfield 42, 3) := by decide +kernel
theorem dX6_stand_162 : decode cX6_stand 162 = .ok (.iload 6, 2) := by decide +kernel
theorem dX6_stand_164 : decode cX6_stand 164 = .ok (.bipush 45, 2) := by decide +kernel
theorem dX6_stand_166 : decode cX6_stand 166 = .ok (.castore, 1) := by decide +kernel
theorem dX6_stand_167 : decode cX6_stand 167 = .ok (.aload_n 0, 1) := by decide +kernel
theorem dX6_stand_168 : decode cX6_stand 168 = .ok (.getfield 45, 3) := by decide +kernel
theorem dX6_stand_171 : decode cX6_stand 171 = .ok (.iload 6, 2) := by decide +kernel
theorem dX6_stand_173 : decode cX6_stand 173 = .ok (.bipush 45, 2) := by decide +kernel
theorem dX6_stand_175 : decode cX6_stand 175 = .ok (.castore, 1) := by decide +kernel
theorem dX6_stand_176 : decode cX6_stand 176 = .ok (.aload_n 0, 1) := by decide +kernel
theorem dX6_stand_177 : decode cX6_stand 177 = .ok (.iload_n 1, 1) := by decide +kernel
theorem dX6_stand_178 : decode cX6_stand 178 = .ok (.invokevirtual 137, 3) := by decide +kernel
theorem dX6_stand_181 : decode cX6_stand 181 = .ok (.ireturn, 1) := by decide +kernel
theorem dX6_noEdge_0 : decode cX6_noEdge 0 = .ok (.aload_n 0, 1) := by decide +kernel
theorem dX6_noEdge_1 : decode cX6_noEdge 1 = .ok (.iload_n 1, 1) := by decide +kernel
theorem dX6_noEdge_2 : decode cX6_noEdge 2 = .ok (.invokevirtual 118, 3) := by decide +kernel
theorem dX6_noEdge_5 : decode cX6_noEdge 5 = .ok (.ifCond .ne 7, 3) := by decide +kernel
theorem dX6_noEdge_8 : decode cX6_noEdge 8 = .ok (.iconst 1, 1) := by decide +kernel
theorem dX6_noEdge_9 : decode cX6_noEdge 9 = .ok (.goto 51, 3) := by decide +kernel
theorem dX6_noEdge_12 : decode cX6_noEdge 12 = .ok (.iload_n 2, 1) := by decide +kernel
theorem dX6_noEdge_13 : decode cX6_noEdge 13 = .ok (.iconst 0, 1) := by decide +kernel
theorem dX6_noEdge_14 : decode cX6_noEdge 14 = .ok (.iconst 3, 1) := by decide +kernel
theorem dX6_noEdge_15 : decode cX6_noEdge 15 = .ok (.invokestatic 91, 3) := by decide +kernel
theorem dX6_noEdge_18 : decode cX6_noEdge 18 = .ok (.ifCond .eq 10, 3) := by decide +kernel
theorem dX6_noEdge_21 : decode cX6_noEdge 21 = .ok (.iload_n 3, 1) := by decide +kernel
theorem dX6_noEdge_22 : decode cX6_noEdge 22 = .ok (.invokestatic 140, 3) := by decide +kernel
theorem dX6_noEdge_25 : decode cX6_noEdge 25 = .ok (.ifCond .ne 7, 3) := by decide +kernel
theorem dX6_noEdge_28 : decode cX6_noEdge 28 = .ok (.iconst 2, 1) := by decide +kernel
theorem dX6_noEdge_29 : decode cX6_noEdge 29 = .ok (.goto 31, 3) := by decide +kernel
theorem dX6_noEdge_32 : decode cX6_noEdge 32 = .ok (.aload_n 0, 1) := by decide +kernel
theorem dX6_noEdge_33 : decode cX6_noEdge 33 = .ok (.iload_n 1, 1) := by decide +kernel
theorem dX6_noEdge_34 : decode cX6_noEdge 34 = .ok (.invokevirtual 121, 3) := by decide +kernel
theorem dX6_noEdge_37 : decode cX6_noEdge 37 = .ok (.ifCond .lt 18, 3) := by decide +kernel
theorem dX6_noEdge_40 : decode cX6_noEdge 40 = .ok (.aload_n 0, 1) := by decide +kernel
theorem dX6_noEdge_41 : decode cX6_noEdge 41 = .ok (.getfield 36, 3) := by decide +kernel
theorem dX6_noEdge_44 : decode cX6_noEdge 44 = .ok (.iconst 4, 1) := by decide +kernel
theorem dX6_noEdge_45 : decode cX6_noEdge 45 = .ok (.iload_n 1, 1) := by decide +kernel
theorem dX6_noEdge_46 : decode cX6_noEdge 46 = .ok (.imul, 1) := by decide +kernel
theorem dX6_noEdge_47 : decode cX6_noEdge 47 = .ok (.iload_n 2, 1) := by decide +kernel
theorem dX6_noEdge_48 : decode cX6_noEdge 48 = .ok (.iadd, 1) := by decide +kernel
theorem dX6_noEdge_49 : decode cX6_noEdge 49 = .ok (.caload, 1) := by decide +kernel
theorem dX6_noEdge_50 : decode cX6_noEdge 50 = .ok (.bipush 45, 2) := by decide +kernel
theorem dX6_noEdge_52 : decode cX6_noEdge 52 = .ok (.if_icmp .ne 7, 3) := by decide +kernel
theorem dX6_noEdge_55 : decode cX6_noEdge 55 = .ok (.iconst 3, 1) := by decide +kernel
theorem dX6_noEdge_56 : decode cX6_noEdge 56 = .ok (.goto 4, 3) := by decide +kernel
theorem dX6_noEdge_59 : decode cX6_noEdge 59 = .ok (.iconst 0, 1) := by decide +kernel
theorem dX6_noEdge_60 : decode cX6_noEdge 60 = .ok (.ireturn, 1) := by decide +kernel
theorem dX6_enters_0 : decode cX6_enters 0 = .ok (.aload_n 0, 1) := by decide +kernel
theorem dX6_enters_1 : decode cX6_enters 1 = .ok (.aload_n 0, 1) := by decide +kernel
theorem dX6_enters_2 : decode cX6_enters 2 = .ok (.iload_n 1, 1) := by decide +kernel
theorem dX6_enters_3 : decode cX6_enters 3 = .ok (.iload_n 2, 1) := by decide +kernel
theorem dX6_enters_4 : decode cX6_enters 4 = .ok (.iload_n 3, 1) := by decide +kernel
theorem dX6_enters_5 : decode cX6_enters 5 = .ok (.invokevirtual 143, 3) := by decide +kernel
theorem dX6_enters_8 : decode cX6_enters 8 = .ok (.invokevirtual 102, 3) := by decide +kernel
theorem dX6_enters_11 : decode cX6_enters 11 = .ok (.ifCond .eq 6, 3) := by decide +kernel
theorem dX6_enters_14 : decode cX6_enters 14 = .ok (.bipush 32, 2) := by decide +kernel
theorem dX6_enters_16 : decode cX6_enters 16 = .ok (.ireturn, 1) := by decide +kernel
theorem dX6_enters_17 : decode cX6_enters 17 = .ok (.aload_n 0, 1) := by decide +kernel
theorem dX6_enters_18 : decode cX6_enters 18 = .ok (.getfield 42, 3) := by decide +kernel
theorem dX6_enters_21 : decode cX6_enters 21 = .ok (.iconst 4, 1) := by decide +kernel
theorem dX6_enters_22 : decode cX6_enters 22 = .ok (.iload_n 1, 1) := by decide +kernel
theorem dX6_enters_23 : decode cX6_enters 23 = .ok (.imul, 1) := by decide +kernel
theorem dX6_enters_24 : decode cX6_enters 24 = .ok (.iload_n 2, 1) := by decide +kernel
theorem dX6_enters_25 : decode cX6_enters 25 = .ok (.iadd, 1) := by decide +kernel
theorem dX6_enters_26 : decode cX6_enters 26 = .ok (.caload, 1) := by decide +kernel
theorem dX6_enters_27 : decode cX6_enters 27 = .ok (.istore 4, 2) := by decide +kernel
theorem dX6_enters_29 : decode cX6_enters 29 = .ok (.aload_n 0, 1) := by decide +kernel
theorem dX6_enters_30 : decode cX6_enters 30 = .ok (.iload_n 1, 1) := by decide +kernel
theorem dX6_enters_31 : decode cX6_enters 31 = .ok (.iload 4, 2) := by decide +kernel
theorem dX6_enters_33 : decode cX6_enters 33 = .ok (.iload_n 3, 1) := by decide +kernel
theorem dX6_enters_34 : decode cX6_enters 34 = .ok (.if_icmp .eq 7, 3) := by decide +kernel
theorem dX6_enters_37 : decode cX6_enters 37 = .ok (.iconst 1, 1) := by decide +kernel
theorem dX6_enters_38 : decode cX6_enters 38 = .ok (.goto 4, 3) := by decide +kernel
theorem dX6_enters_41 : decode cX6_enters 41 = .ok (.iconst 0, 1) := by decide +kernel
theorem dX6_enters_42 : decode cX6_enters 42 = .ok (.invokevirtual 129, 3) := by decide +kernel
theorem dX6_enters_45 : decode cX6_enters 45 = .ok (.aload_n 0, 1) := by decide +kernel
theorem dX6_enters_46 : decode cX6_enters 46 = .ok (.getfield 42, 3) := by decide +kernel
theorem dX6_enters_49 : decode cX6_enters 49 = .ok (.iconst 4, 1) := by decide +kernel
theorem dX6_enters_50 : decode cX6_enters 50 = .ok (.iload_n 1, 1) := by decide +kernel
theorem dX6_enters_51 : decode cX6_enters 51 = .ok (.imul, 1) := by decide +kernel
theorem dX6_enters_52 : decode cX6_enters 52 = .ok (.iload_n 2, 1) := by decide +kernel
theorem dX6_enters_53 : decode cX6_enters 53 = .ok (.iadd, 1) := by decide +kernel
theorem dX6_enters_54 : decode cX6_enters 54 = .ok (.iload_n 3, 1) := by decide +kernel
theorem dX6_enters_55 : decode cX6_enters 55 = .ok (.castore, 1) := by decide +kernel
theorem dX6_enters_56 : decode cX6_enters 56 = .ok (.iload 4, 2) := by decide +kernel
theorem dX6_enters_58 : decode cX6_enters 58 = .ok (.ireturn, 1) := by decide +kernel
theorem dX6_leaves_0 : decode cX6_leaves 0 = .ok (.aload_n 0, 1) := by decide +kernel
theorem dX6_leaves_1 : decode cX6_leaves 1 = .ok (.aload_n 0, 1) := by decide +kernel
theorem dX6_leaves_2 : decode cX6_leaves 2 = .ok (.iload_n 1, 1) := by decide +kernel
theorem dX6_leaves_3 : decode cX6_leaves 3 = .ok (.iload_n 2, 1) := by decide +kernel
theorem dX6_leaves_4 : decode cX6_leaves 4 = .ok (.iload_n 3, 1) := by decide +kernel
theorem dX6_leaves_5 : decode cX6_leaves 5 = .ok (.invokevirtual 143, 3) := by decide +kernel
theorem dX6_leaves_8 : decode cX6_leaves 8 = .ok (.invokevirtual 102, 3) := by decide +kernel
theorem dX6_leaves_11 : decode cX6_leaves 11 = .ok (.ifCond .eq 6, 3) := by decide +kernel
theorem dX6_leaves_14 : decode cX6_leaves 14 = .ok (.bipush 32, 2) := by decide +kernel
theorem dX6_leaves_16 : decode cX6_leaves 16 = .ok (.ireturn, 1) := by decide +kernel
theorem dX6_leaves_17 : decode cX6_leaves 17 = .ok (.aload_n 0, 1) := by decide +kernel
theorem dX6_leaves_18 : decode cX6_leaves 18 = .ok (.getfield 45, 3) := by decide +kernel
theorem dX6_leaves_21 : decode cX6_leaves 21 = .ok (.iconst 4, 1) := by decide +kernel
theorem dX6_leaves_22 : decode cX6_leaves 22 = .ok (.iload_n 1, 1) := by decide +kernel
theorem dX6_leaves_23 : decode cX6_leaves 23 = .ok (.imul, 1) := by decide +kernel
theorem dX6_leaves_24 : decode cX6_leaves 24 = .ok (.iload_n 2, 1) := by decide +kernel
theorem dX6_leaves_25 : decode cX6_leaves 25 = .ok (.iadd, 1) := by decide +kernel
theorem dX6_leaves_26 : decode cX6_leaves 26 = .ok (.caload, 1) := by decide +kernel
theorem dX6_leaves_27 : decode cX6_leaves 27 = .ok (.istore 4, 2) := by decide +kernel
theorem dX6_leaves_29 : decode cX6_leaves 29 = .ok (.aload_n 0, 1) := by decide +kernel
theorem dX6_leaves_30 : decode cX6_leaves 30 = .ok (.iload_n 1, 1) := by decide +kernel
theorem dX6_leaves_31 : decode cX6_leaves 31 = .ok (.iload 4, 2) := by decide +kernel
theorem dX6_leaves_33 : decode cX6_leaves 33 = .ok (.iload_n 3, 1) := by decide +kernel
theorem dX6_leaves_34 : decode cX6_leaves 34 = .ok (.if_icmp .eq 7, 3) := by decide +kernel
theorem dX6_leaves_37 : decode cX6_leaves 37 = .ok (.iconst 1, 1) := by decide +kernel
theorem dX6_leaves_38 : decode cX6_leaves 38 = .ok (.goto 4, 3) := by decide +kernel
theorem dX6_leaves_41 : decode cX6_leaves 41 = .ok (.iconst 0, 1) := by decide +kernel
theorem dX6_leaves_42 : decode cX6_leaves 42 = .ok (.invokevirtual 129, 3) := by decide +kernel
theorem dX6_leaves_45 : decode cX6_leaves 45 = .ok (.aload_n 0, 1) := by decide +kernel
theorem dX6_leaves_46 : decode cX6_leaves 46 = .ok (.getfield 45, 3) := by decide +kernel
theorem dX6_leaves_49 : decode cX6_leaves 49 = .ok (.iconst 4, 1) := by decide +kernel
theorem dX6_leaves_50 : decode cX6_leaves 50 = .ok (.iload_n 1, 1) := by decide +kernel
theorem dX6_leaves_51 : decode cX6_leaves 51 = .ok (.imul, 1) := by decide +kernel
theorem dX6_leaves_52 : decode cX6_leaves 52 = .ok (.iload_n 2, 1) := by decide +kernel
theorem dX6_leaves_53 : decode cX6_leaves 53 = .ok (.iadd, 1) := by decide +kernel
theorem dX6_leaves_54 : decode cX6_leaves 54 = .ok (.iload_n 3, 1) := by decide +kernel
theorem dX6_leaves_55 : decode cX6_leaves 55 = .ok (.castore, 1) := by decide +kernel
theorem dX6_leaves_56 : decode cX6_leaves 56 = .ok (.iload 4, 2) := by decide +kernel
theorem dX6_leaves_58 : decode cX6_leaves 58 = .ok (.ireturn, 1) := by decide +kernel
theorem dX6_version_0 : decode cX6_version 0 = .ok (.aload_n 0, 1) := by decide +kernel
theorem dX6_version_1 : decode cX6_version 1 = .ok (.aload_n 0, 1) := by decide +kernel
theorem dX6_version_2 : decode cX6_version 2 = .ok (.iload_n 1, 1) := by decide +kernel
theorem dX6_version_3 : decode cX6_version 3 = .ok (.invokevirtual 118, 3) := by decide +kernel
theorem dX6_version_6 : decode cX6_version 6 = .ok (.ifCond .eq 7, 3) := by decide +kernel
theorem dX6_version_9 : decode cX6_version 9 = .ok (.iconst 0, 1) := by decide +kernel
theorem dX6_version_10 : decode cX6_version 10 = .ok (.goto 4, 3) := by decide +kernel
theorem dX6_version_13 : decode cX6_version 13 = .ok (.iconst 1, 1) := by decide +kernel
theorem dX6_version_14 : decode cX6_version 14 = .ok (.invokevirtual 102, 3) := by decide +kernel
theorem dX6_version_17 : decode cX6_version 17 = .ok (.ifCond .eq 7, 3) := by decide +kernel
theorem dX6_version_20 : decode cX6_version 20 = .ok (.iconst 0, 1) := by decide +kernel
theorem dX6_version_21 : decode cX6_version 21 = .ok (.goto 9, 3) := by decide +kernel
theorem dX6_version_24 : decode cX6_version 24 = .ok (.aload_n 0, 1) := by decide +kernel
theorem dX6_version_25 : decode cX6_version 25 = .ok (.getfield 23, 3) := by decide +kernel
theorem dX6_version_28 : decode cX6_version 28 = .ok (.iload_n 1, 1) := by decide +kernel
theorem dX6_version_29 : decode cX6_version 29 = .ok (.iaload, 1) := by decide +kernel
theorem dX6_version_30 : decode cX6_version 30 = .ok (.ireturn, 1) := by decide +kernel
theorem dX6_begins_0 : decode cX6_begins 0 = .ok (.iconst 0, 1) := by decide +kernel
theorem dX6_begins_1 : decode cX6_begins 1 = .ok (.istore_n 2, 1) := by decide +kernel
theorem dX6_begins_2 : decode cX6_begins 2 = .ok (.iconst 0, 1) := by decide +kernel
theorem dX6_begins_3 : decode cX6_begins 3 = .ok (.istore_n 3, 1) := by decide +kernel
theorem dX6_begins_4 : decode cX6_begins 4 = .ok (.iload_n 3, 1) := by decide +kernel
theorem dX6_begins_5 : decode cX6_begins 5 = .ok (.iload_n 1, 1) := by decide +kernel
theorem dX6_begins_6 : decode cX6_begins 6 = .ok (.if_icmp .ge 23, 3) := by decide +kernel
theorem dX6_begins_9 : decode cX6_begins 9 = .ok (.iload_n 2, 1) := by decide +kernel
theorem dX6_begins_10 : decode cX6_begins 10 = .ok (.aload_n 0, 1) := by decide +kernel
theorem dX6_begins_11 : decode cX6_begins 11 = .ok (.getfield 20, 3) := by decide +kernel
theorem dX6_begins_14 : decode cX6_begins 14 = .ok (.aload_n 0, 1) := by decide +kernel
theorem dX6_begins_15 : decode cX6_begins 15 = .ok (.getfield 7, 3) := by decide +kernel
theorem dX6_begins_18 : decode cX6_begins 18 = .ok (.iload_n 3, 1) := by decide +kernel
theorem dX6_begins_19 : decode cX6_begins 19 = .ok (.iaload, 1) := by decide +kernel
theorem dX6_begins_20 : decode cX6_begins 20 = .ok (.iaload, 1) := by decide +kernel
theorem dX6_begins_21 : decode cX6_begins 21 = .ok (.iadd, 1) := by decide +kernel
theorem dX6_begins_22 : decode cX6_begins 22 = .ok (.istore_n 2, 1) := by decide +kernel
theorem dX6_begins_23 : decode cX6_begins 23 = .ok (.iinc 3 1, 3) := by decide +kernel
theorem dX6_begins_26 : decode cX6_begins 26 = .ok (.goto (-22), 3) := by decide +kernel
theorem dX6_begins_29 : decode cX6_begins 29 = .ok (.iload_n 2, 1) := by decide +kernel
theorem dX6_begins_30 : decode cX6_begins 30 = .ok (.ireturn, 1) := by decide +kernel
theorem dX6_time_0 : decode cX6_time 0 = .ok (.aload_n 0, 1) := by decide +kernel
theorem dX6_time_1 : decode cX6_time 1 = .ok (.aload_n 0, 1) := by decide +kernel
theorem dX6_time_2 : decode cX6_time 2 = .ok (.iload_n 1, 1) := by decide +kernel
theorem dX6_time_3 : decode cX6_time 3 = .ok (.invokevirtual 118, 3) := by decide +kernel
theorem dX6_time_6 : decode cX6_time 6 = .ok (.ifCond .ne 7, 3) := by decide +kernel
theorem dX6_time_9 : decode cX6_time 9 = .ok (.iconst 1, 1) := by decide +kernel
theorem dX6_time_10 : decode cX6_time 10 = .ok (.goto 16, 3) := by decide +kernel
theorem dX6_time_13 : decode cX6_time 13 = .ok (.aload_n 0, 1) := by decide +kernel
theorem dX6_time_14 : decode cX6_time 14 = .ok (.iload_n 1, 1) := by decide +kernel
theorem dX6_time_15 : decode cX6_time 15 = .ok (.invokevirtual 121, 3) := by decide +kernel
theorem dX6_time_18 : decode cX6_time 18 = .ok (.ifCond .ge 7, 3) := by decide +kernel
theorem dX6_time_21 : decode cX6_time 21 = .ok (.iconst 2, 1) := by decide +kernel
theorem dX6_time_22 : decode cX6_time 22 = .ok (.goto 4, 3) := by decide +kernel
theorem dX6_time_25 : decode cX6_time 25 = .ok (.iconst 0, 1) := by decide +kernel
theorem dX6_time_26 : decode cX6_time 26 = .ok (.invokevirtual 102, 3) := by decide +kernel
theorem dX6_time_29 : decode cX6_time 29 = .ok (.ifCond .eq 7, 3) := by decide +kernel
theorem dX6_time_32 : decode cX6_time 32 = .ok (.iconst 0, 1) := by decide +kernel
theorem dX6_time_33 : decode cX6_time 33 = .ok (.goto 12, 3) := by decide +kernel
theorem dX6_time_36 : decode cX6_time 36 = .ok (.aload_n 0, 1) := by decide +kernel
theorem dX6_time_37 : decode cX6_time 37 = .ok (.aload_n 0, 1) := by decide +kernel
theorem dX6_time_38 : decode cX6_time 38 = .ok (.iload_n 1, 1) := by decide +kernel
theorem dX6_time_39 : decode cX6_time 39 = .ok (.invokevirtual 121, 3) := by decide +kernel
theorem dX6_time_42 : decode cX6_time 42 = .ok (.invokevirtual 147, 3) := by decide +kernel
theorem dX6_time_45 : decode cX6_time 45 = .ok (.ireturn, 1) := by decide +kernel
theorem dX6_seen_0 : decode cX6_seen 0 = .ok (.iconst (-1), 1) := by decide +kernel
theorem dX6_seen_1 : decode cX6_seen 1 = .ok (.istore_n 2, 1) := by decide +kernel
theorem dX6_seen_2 : decode cX6_seen 2 = .ok (.iconst 0, 1) := by decide +kernel
theorem dX6_seen_3 : decode cX6_seen 3 = .ok (.istore_n 3, 1) := by decide +kernel
theorem dX6_seen_4 : decode cX6_seen 4 = .ok (.iload_n 3, 1) := by decide +kernel
theorem dX6_seen_5 : decode cX6_seen 5 = .ok (.aload_n 0, 1) := by decide +kernel
theorem dX6_seen_6 : decode cX6_seen 6 = .ok (.getfield 95, 3) := by decide +kernel
theorem dX6_seen_9 : decode cX6_seen 9 = .ok (.if_icmp .ge 40, 3) := by decide +kernel
theorem dX6_seen_12 : decode cX6_seen 12 = .ok (.iload_n 1, 1) := by decide +kernel
theorem dX6_seen_13 : decode cX6_seen 13 = .ok (.aload_n 0, 1) := by decide +kernel
theorem dX6_seen_14 : decode cX6_seen 14 = .ok (.iload_n 3, 1) := by decide +kernel
theorem dX6_seen_15 : decode cX6_seen 15 = .ok (.invokevirtual 147, 3) := by decide +kernel
theorem dX6_seen_18 : decode cX6_seen 18 = .ok (.if_icmp .lt 23, 3) := by decide +kernel
theorem dX6_seen_21 : decode cX6_seen 21 = .ok (.iload_n 1, 1) := by decide +kernel
theorem dX6_seen_22 : decode cX6_seen 22 = .ok (.aload_n 0, 1) := by decide +kernel
theorem dX6_seen_23 : decode cX6_seen 23 = .ok (.iload_n 3, 1) := by decide +kernel
theorem dX6_seen_24 : decode cX6_seen 24 = .ok (.iconst 1, 1) := by decide +kernel
theorem dX6_seen_25 : decode cX6_seen 25 = .ok (.iadd, 1) := by decide +kernel
theorem dX6_seen_26 : decode cX6_seen 26 = .ok (.invokevirtual 147, 3) := by decide +kernel
theorem dX6_seen_29 : decode cX6_seen 29 = .ok (.if_icmp .ge 12, 3) := by decide +kernel
theorem dX6_seen_32 : decode cX6_seen 32 = .ok (.aload_n 0, 1) := by decide +kernel
theorem dX6_seen_33 : decode cX6_seen 33 = .ok (.getfield 7, 3) := by decide +kernel
theorem dX6_seen_36 : decode cX6_seen 36 = .ok (.iload_n 3, 1) := by decide +kernel
theorem dX6_seen_37 : decode cX6_seen 37 = .ok (.iaload, 1) := by decide +kernel
theorem dX6_seen_38 : decode cX6_seen 38 = .ok (.goto 4, 3) := by decide +kernel
theorem dX6_seen_41 : decode cX6_seen 41 = .ok (.iload_n 2, 1) := by decide +kernel
theorem dX6_seen_42 : decode cX6_seen 42 = .ok (.istore_n 2, 1) := by decide +kernel
theorem dX6_seen_43 : decode cX6_seen 43 = .ok (.iinc 3 1, 3) := by decide +kernel
theorem dX6_seen_46 : decode cX6_seen 46 = .ok (.goto (-42), 3) := by decide +kernel
theorem dX6_seen_49 : decode cX6_seen 49 = .ok (.aload_n 0, 1) := by decide +kernel
theorem dX6_seen_50 : decode cX6_seen 50 = .ok (.iload_n 2, 1) := by decide +kernel
theorem dX6_seen_51 : decode cX6_seen 51 = .ok (.iconst (-1), 1) := by decide +kernel
theorem dX6_seen_52 : decode cX6_seen 52 = .ok (.if_icmp .ne 7, 3) := by decide +kernel
theorem dX6_seen_55 : decode cX6_seen 55 = .ok (.iconst 1, 1) := by decide +kernel
theorem dX6_seen_56 : decode cX6_seen 56 = .ok (.goto 4, 3) := by decide +kernel
theorem dX6_seen_59 : decode cX6_seen 59 = .ok (.iconst 0, 1) := by decide +kernel
theorem dX6_seen_60 : decode cX6_seen 60 = .ok (.invokevirtual 102, 3) := by decide +kernel
theorem dX6_seen_63 : decode cX6_seen 63 = .ok (.ifCond .eq 7, 3) := by decide +kernel
theorem dX6_seen_66 : decode cX6_seen 66 = .ok (.iconst 0, 1) := by decide +kernel
theorem dX6_seen_67 : decode cX6_seen 67 = .ok (.goto 4, 3) := by decide +kernel
theorem dX6_seen_70 : decode cX6_seen 70 = .ok (.iload_n 2, 1) := by decide +kernel
theorem dX6_seen_71 : decode cX6_seen 71 = .ok (.ireturn, 1) := by decide +kernel
theorem dX6_ended_0 : decode cX6_ended 0 = .ok (.aload_n 0, 1) := by decide +kernel
theorem dX6_ended_1 : decode cX6_ended 1 = .ok (.iload_n 1, 1) := by decide +kernel
theorem dX6_ended_2 : decode cX6_ended 2 = .ok (.iconst 0, 1) := by decide +kernel
theorem dX6_ended_3 : decode cX6_ended 3 = .ok (.sipush 9999, 3) := by decide +kernel
theorem dX6_ended_6 : decode cX6_ended 6 = .ok (.invokestatic 91, 3) := by decide +kernel
theorem dX6_ended_9 : decode cX6_ended 9 = .ok (.ifCond .eq 7, 3) := by decide +kernel
theorem dX6_ended_12 : decode cX6_ended 12 = .ok (.iconst 0, 1) := by decide +kernel
theorem dX6_ended_13 : decode cX6_ended 13 = .ok (.goto 4, 3) := by decide +kernel
theorem dX6_ended_16 : decode cX6_ended 16 = .ok (.iconst 1, 1) := by decide +kernel
theorem dX6_ended_17 : decode cX6_ended 17 = .ok (.invokevirtual 102, 3) := by decide +kernel
theorem dX6_ended_20 : decode cX6_ended 20 = .ok (.ifCond .eq 5, 3) := by decide +kernel
theorem dX6_ended_23 : decode cX6_ended 23 = .ok (.iconst 0, 1) := by decide +kernel
theorem dX6_ended_24 : decode cX6_ended 24 = .ok (.ireturn, 1) := by decide +kernel
theorem dX6_ended_25 : decode cX6_ended 25 = .ok (.iconst 0, 1) := by decide +kernel
theorem dX6_ended_26 : decode cX6_ended 26 = .ok (.istore_n 2, 1) := by decide +kernel
theorem dX6_ended_27 : decode cX6_ended 27 = .ok (.iconst 0, 1) := by decide +kernel
theorem dX6_ended_28 : decode cX6_ended 28 = .ok (.istore_n 3, 1) := by decide +kernel
theorem dX6_ended_29 : decode cX6_ended 29 = .ok (.iload_n 3, 1) := by decide +kernel
theorem dX6_ended_30 : decode cX6_ended 30 = .ok (.aload_n 0, 1) := by decide +kernel
theorem dX6_ended_31 : decode cX6_ended 31 = .ok (.getfield 95, 3) := by decide +kernel
theorem dX6_ended_34 : decode cX6_ended 34 = .ok (.if_icmp .ge 28, 3) := by decide +kernel
theorem dX6_ended_37 : decode cX6_ended 37 = .ok (.aload_n 0, 1) := by decide +kernel
theorem dX6_ended_38 : decode cX6_ended 38 = .ok (.iload_n 3, 1) := by decide +kernel
theorem dX6_ended_39 : decode cX6_ended 39 = .ok (.iconst 1, 1) := by decide +kernel
theorem dX6_ended_40 : decode cX6_ended 40 = .ok (.iadd, 1) := by decide +kernel
theorem dX6_ended_41 : decode cX6_ended 41 = .ok (.invokevirtual 147, 3) := by decide +kernel
theorem dX6_ended_44 : decode cX6_ended 44 = .ok (.iload_n 1, 1) := by decide +kernel
theorem dX6_ended_45 : decode cX6_ended 45 = .ok (.if_icmp .gt 9, 3) := by decide +kernel
theorem dX6_ended_48 : decode cX6_ended 48 = .ok (.iload_n 2, 1) := by decide +kernel
theorem dX6_ended_49 : decode cX6_ended 49 = .ok (.iconst 1, 1) := by decide +kernel
theorem dX6_ended_50 : decode cX6_ended 50 = .ok (.iadd, 1) := by decide +kernel
theorem dX6_ended_51 : decode cX6_ended 51 = .ok (.goto 4, 3) := by decide +kernel
theorem dX6_ended_54 : decode cX6_ended 54 = .ok (.iload_n 2, 1) := by decide +kernel
theorem dX6_ended_55 : decode cX6_ended 55 = .ok (.istore_n 2, 1) := by decide +kernel
theorem dX6_ended_56 : decode cX6_ended 56 = .ok (.iinc 3 1, 3) := by decide +kernel
theorem dX6_ended_59 : decode cX6_ended 59 = .ok (.goto (-30), 3) := by decide +kernel
theorem dX6_ended_62 : decode cX6_ended 62 = .ok (.iload_n 2, 1) := by decide +kernel
theorem dX6_ended_63 : decode cX6_ended 63 = .ok (.ireturn, 1) := by decide +kernel
theorem dX6_lock_0 : decode cX6_lock 0 = .ok (.aload_n 0, 1) := by decide +kernel
theorem dX6_lock_1 : decode cX6_lock 1 = .ok (.iconst 0, 1) := by decide +kernel
theorem dX6_lock_2 : decode cX6_lock 2 = .ok (.putfield 84, 3) := by decide +kernel
theorem dX6_lock_5 : decode cX6_lock 5 = .ok (.aload_n 0, 1) := by decide +kernel
theorem dX6_lock_6 : decode cX6_lock 6 = .ok (.getfield 106, 3) := by decide +kernel
theorem dX6_lock_9 : decode cX6_lock 9 = .ok (.istore_n 1, 1) := by decide +kernel
theorem dX6_lock_10 : decode cX6_lock 10 = .ok (.iconst 0, 1) := by decide +kernel
theorem dX6_lock_11 : decode cX6_lock 11 = .ok (.istore_n 2, 1) := by decide +kernel
theorem dX6_lock_12 : decode cX6_lock 12 = .ok (.iload_n 2, 1) := by decide +kernel
theorem dX6_lock_13 : decode cX6_lock 13 = .ok (.aload_n 0, 1) := by decide +kernel
theorem dX6_lock_14 : decode cX6_lock 14 = .ok (.getfield 95, 3) := by decide +kernel
theorem dX6_lock_17 : decode cX6_lock 17 = .ok (.if_icmp .ge 40, 3) := by decide +kernel
theorem dX6_lock_20 : decode cX6_lock 20 = .ok (.iload_n 1, 1) := by decide +kernel
theorem dX6_lock_21 : decode cX6_lock 21 = .ok (.ifCond .ne 36, 3) := by decide +kernel
theorem dX6_lock_24 : decode cX6_lock 24 = .ok (.aload_n 0, 1) := by decide +kernel
theorem dX6_lock_25 : decode cX6_lock 25 = .ok (.getfield 30, 3) := by decide +kernel
theorem dX6_lock_28 : decode cX6_lock 28 = .ok (.aload_n 0, 1) := by decide +kernel
theorem dX6_lock_29 : decode cX6_lock 29 = .ok (.getfield 7, 3) := by decide +kernel
theorem dX6_lock_32 : decode cX6_lock 32 = .ok (.iload_n 2, 1) := by decide +kernel
theorem dX6_lock_33 : decode cX6_lock 33 = .ok (.iaload, 1) := by decide +kernel
theorem dX6_lock_34 : decode cX6_lock 34 = .ok (.iload_n 2, 1) := by decide +kernel
theorem dX6_lock_35 : decode cX6_lock 35 = .ok (.iconst 1, 1) := by decide +kernel
theorem dX6_lock_36 : decode cX6_lock 36 = .ok (.iadd, 1) := by decide +kernel
theorem dX6_lock_37 : decode cX6_lock 37 = .ok (.iastore, 1) := by decide +kernel
theorem dX6_lock_38 : decode cX6_lock 38 = .ok (.aload_n 0, 1) := by decide +kernel
theorem dX6_lock_39 : decode cX6_lock 39 = .ok (.getfield 33, 3) := by decide +kernel
theorem dX6_lock_42 : decode cX6_lock 42 = .ok (.aload_n 0, 1) := by decide +kernel
theorem dX6_lock_43 : decode cX6_lock 43 = .ok (.getfield 7, 3) := by decide +kernel
theorem dX6_lock_46 : decode cX6_lock 46 = .ok (.iload_n 2, 1) := by decide +kernel
theorem dX6_lock_47 : decode cX6_lock 47 = .ok (.iaload, 1) := by decide +kernel
theorem dX6_lock_48 : decode cX6_lock 48 = .ok (.bipush 45, 2) := by decide +kernel
theorem dX6_lock_50 : decode cX6_lock 50 = .ok (.castore, 1) := by decide +kernel
theorem dX6_lock_51 : decode cX6_lock 51 = .ok (.iinc 2 1, 3) := by decide +kernel
theorem dX6_lock_54 : decode cX6_lock 54 = .ok (.goto (-42), 3) := by decide +kernel
theorem dX6_lock_57 : decode cX6_lock 57 = .ok (.aload_n 0, 1) := by decide +kernel
theorem dX6_lock_58 : decode cX6_lock 58 = .ok (.iconst 1, 1) := by decide +kernel
theorem dX6_lock_59 : decode cX6_lock 59 = .ok (.putfield 106, 3) := by decide +kernel
theorem dX6_lock_62 : decode cX6_lock 62 = .ok (.iload_n 1, 1) := by decide +kernel
theorem dX6_lock_63 : decode cX6_lock 63 = .ok (.ireturn, 1) := by decide +kernel
theorem dX6_hasName_0 : decode cX6_hasName 0 = .ok (.aload_n 0, 1) := by decide +kernel
theorem dX6_hasName_1 : decode cX6_hasName 1 = .ok (.iload_n 1, 1) := by decide +kernel
theorem dX6_hasName_2 : decode cX6_hasName 2 = .ok (.invokevirtual 121, 3) := by decide +kernel
theorem dX6_hasName_5 : decode cX6_hasName 5 = .ok (.ifCond .ge 12, 3) := by decide +kernel
theorem dX6_hasName_8 : decode cX6_hasName 8 = .ok (.aload_n 0, 1) := by decide +kernel
theorem dX6_hasName_9 : decode cX6_hasName 9 = .ok (.getfield 30, 3) := by decide +kernel
theorem dX6_hasName_12 : decode cX6_hasName 12 = .ok (.iload_n 1, 1) := by decide +kernel
theorem dX6_hasName_13 : decode cX6_hasName 13 = .ok (.iaload, 1) := by decide +kernel
theorem dX6_hasName_14 : decode cX6_hasName 14 = .ok (.ifCond .lt 7, 3) := by decide +kernel
theorem dX6_hasName_17 : decode cX6_hasName 17 = .ok (.iconst 1, 1) := by decide +kernel
theorem dX6_hasName_18 : decode cX6_hasName 18 = .ok (.goto 4, 3) := by decide +kernel
theorem dX6_hasName_21 : decode cX6_hasName 21 = .ok (.iconst 0, 1) := by decide +kernel
theorem dX6_hasName_22 : decode cX6_hasName 22 = .ok (.ireturn, 1) := by decide +kernel
theorem dX6_numberOf_0 : decode cX6_numberOf 0 = .ok (.aload_n 0, 1) := by decide +kernel
theorem dX6_numberOf_1 : decode cX6_numberOf 1 = .ok (.getfield 106, 3) := by decide +kernel
theorem dX6_numberOf_4 : decode cX6_numberOf 4 = .ok (.ifCond .eq 12, 3) := by decide +kernel
theorem dX6_numberOf_7 : decode cX6_numberOf 7 = .ok (.aload_n 0, 1) := by decide +kernel
theorem dX6_numberOf_8 : decode cX6_numberOf 8 = .ok (.getfield 30, 3) := by decide +kernel
theorem dX6_numberOf_11 : decode cX6_numberOf 11 = .ok (.iload_n 1, 1) := by decide +kernel
theorem dX6_numberOf_12 : decode cX6_numberOf 12 = .ok (.iaload, 1) := by decide +kernel
theorem dX6_numberOf_13 : decode cX6_numberOf 13 = .ok (.goto 10, 3) := by decide +kernel
theorem dX6_numberOf_16 : decode cX6_numberOf 16 = .ok (.aload_n 0, 1) := by decide +kernel
theorem dX6_numberOf_17 : decode cX6_numberOf 17 = .ok (.iload_n 1, 1) := by decide +kernel
theorem dX6_numberOf_18 : decode cX6_numberOf 18 = .ok (.invokevirtual 121, 3) := by decide +kernel
theorem dX6_numberOf_21 : decode cX6_numberOf 21 = .ok (.iconst 1, 1) := by decide +kernel
theorem dX6_numberOf_22 : decode cX6_numberOf 22 = .ok (.iadd, 1) := by decide +kernel
theorem dX6_numberOf_23 : decode cX6_numberOf 23 = .ok (.ireturn, 1) := by decide +kernel
theorem dX6_number_0 : decode cX6_number 0 = .ok (.aload_n 0, 1) := by decide +kernel
theorem dX6_number_1 : decode cX6_number 1 = .ok (.aload_n 0, 1) := by decide +kernel
theorem dX6_number_2 : decode cX6_number 2 = .ok (.iload_n 1, 1) := by decide +kernel
theorem dX6_number_3 : decode cX6_number 3 = .ok (.invokevirtual 118, 3) := by decide +kernel
theorem dX6_number_6 : decode cX6_number 6 = .ok (.ifCond .ne 7, 3) := by decide +kernel
theorem dX6_number_9 : decode cX6_number 9 = .ok (.iconst 1, 1) := by decide +kernel
theorem dX6_number_10 : decode cX6_number 10 = .ok (.goto 16, 3) := by decide +kernel
theorem dX6_number_13 : decode cX6_number 13 = .ok (.aload_n 0, 1) := by decide +kernel
theorem dX6_number_14 : decode cX6_number 14 = .ok (.iload_n 1, 1) := by decide +kernel
theorem dX6_number_15 : decode cX6_number 15 = .ok (.invokevirtual 150, 3) := by decide +kernel
theorem dX6_number_18 : decode cX6_number 18 = .ok (.ifCond .ne 7, 3) := by decide +kernel
theorem dX6_number_21 : decode cX6_number 21 = .ok (.iconst 2, 1) := by decide +kernel
theorem dX6_number_22 : decode cX6_number 22 = .ok (.goto 4, 3) := by decide +kernel
theorem dX6_number_25 : decode cX6_number 25 = .ok (.iconst 0, 1) := by decide +kernel
theorem dX6_number_26 : decode cX6_number 26 = .ok (.invokevirtual 102, 3) := by decide +kernel
theorem dX6_number_29 : decode cX6_number 29 = .ok (.ifCond .eq 7, 3) := by decide +kernel
theorem dX6_number_32 : decode cX6_number 32 = .ok (.iconst 0, 1) := by decide +kernel
theorem dX6_number_33 : decode cX6_number 33 = .ok (.goto 8, 3) := by decide +kernel
theorem dX6_number_36 : decode cX6_number 36 = .ok (.aload_n 0, 1) := by decide +kernel
theorem dX6_number_37 : decode cX6_number 37 = .ok (.iload_n 1, 1) := by decide +kernel
theorem dX6_number_38 : decode cX6_number 38 = .ok (.invokevirtual 153, 3) := by decide +kernel
theorem dX6_number_41 : decode cX6_number 41 = .ok (.ireturn, 1) := by decide +kernel
theorem dX6_letter_0 : decode cX6_letter 0 = .ok (.aload_n 0, 1) := by decide +kernel
theorem dX6_letter_1 : decode cX6_letter 1 = .ok (.aload_n 0, 1) := by decide +kernel
theorem dX6_letter_2 : decode cX6_letter 2 = .ok (.iload_n 1, 1) := by decide +kernel
theorem dX6_letter_3 : decode cX6_letter 3 = .ok (.invokevirtual 118, 3) := by decide +kernel
theorem dX6_letter_6 : decode cX6_letter 6 = .ok (.ifCond .ne 7, 3) := by decide +kernel
theorem dX6_letter_9 : decode cX6_letter 9 = .ok (.iconst 1, 1) := by decide +kernel
theorem dX6_letter_10 : decode cX6_letter 10 = .ok (.goto 16, 3) := by decide +kernel
theorem dX6_letter_13 : decode cX6_letter 13 = .ok (.aload_n 0, 1) := by decide +kernel
theorem dX6_letter_14 : decode cX6_letter 14 = .ok (.iload_n 1, 1) := by decide +kernel
theorem dX6_letter_15 : decode cX6_letter 15 = .ok (.invokevirtual 150, 3) := by decide +kernel
theorem dX6_letter_18 : decode cX6_letter 18 = .ok (.ifCond .ne 7, 3) := by decide +kernel
theorem dX6_letter_21 : decode cX6_letter 21 = .ok (.iconst 2, 1) := by decide +kernel
theorem dX6_letter_22 : decode cX6_letter 22 = .ok (.goto 4, 3) := by decide +kernel
theorem dX6_letter_25 : decode cX6_letter 25 = .ok (.iconst 0, 1) := by decide +kernel
theorem dX6_letter_26 : decode cX6_letter 26 = .ok (.invokevirtual 102, 3) := by decide +kernel
theorem dX6_letter_29 : decode cX6_letter 29 = .ok (.ifCond .eq 8, 3) := by decide +kernel
theorem dX6_letter_32 : decode cX6_letter 32 = .ok (.bipush 32, 2) := by decide +kernel
theorem dX6_letter_34 : decode cX6_letter 34 = .ok (.goto 9, 3) := by decide +kernel
theorem dX6_letter_37 : decode cX6_letter 37 = .ok (.aload_n 0, 1) := by decide +kernel
theorem dX6_letter_38 : decode cX6_letter 38 = .ok (.getfield 33, 3) := by decide +kernel
theorem dX6_letter_41 : decode cX6_letter 41 = .ok (.iload_n 1, 1) := by decide +kernel
theorem dX6_letter_42 : decode cX6_letter 42 = .ok (.caload, 1) := by decide +kernel
theorem dX6_letter_43 : decode cX6_letter 43 = .ok (.ireturn, 1) := by decide +kernel
theorem dX6_named_0 : decode cX6_named 0 = .ok (.iconst (-1), 1) := by decide +kernel
theorem dX6_named_1 : decode cX6_named 1 = .ok (.istore_n 3, 1) := by decide +kernel
theorem dX6_named_2 : decode cX6_named 2 = .ok (.iconst 0, 1) := by decide +kernel
theorem dX6_named_3 : decode cX6_named 3 = .ok (.istore 4, 2) := by decide +kernel
theorem dX6_named_5 : decode cX6_named 5 = .ok (.iload 4, 2) := by decide +kernel
theorem dX6_named_7 : decode cX6_named 7 = .ok (.aload_n 0, 1) := by decide +kernel
theorem dX6_named_8 : decode cX6_named 8 = .ok (.getfield 95, 3) := by decide +kernel
theorem dX6_named_11 : decode cX6_named 11 = .ok (.if_icmp .ge 52, 3) := by decide +kernel
theorem dX6_named_14 : decode cX6_named 14 = .ok (.aload_n 0, 1) := by decide +kernel
theorem dX6_named_15 : decode cX6_named 15 = .ok (.aload_n 0, 1) := by decide +kernel
theorem dX6_named_16 : decode cX6_named 16 = .ok (.getfield 7, 3) := by decide +kernel
theorem dX6_named_19 : decode cX6_named 19 = .ok (.iload 4, 2) := by decide +kernel
theorem dX6_named_21 : decode cX6_named 21 = .ok (.iaload, 1) := by decide +kernel
theorem dX6_named_22 : decode cX6_named 22 = .ok (.invokevirtual 153, 3) := by decide +kernel
theorem dX6_named_25 : decode cX6_named 25 = .ok (.iload_n 1, 1) := by decide +kernel
theorem dX6_named_26 : decode cX6_named 26 = .ok (.if_icmp .ne 29, 3) := by decide +kernel
theorem dX6_named_29 : decode cX6_named 29 = .ok (.aload_n 0, 1) := by decide +kernel
theorem dX6_named_30 : decode cX6_named 30 = .ok (.getfield 33, 3) := by decide +kernel
theorem dX6_named_33 : decode cX6_named 33 = .ok (.aload_n 0, 1) := by decide +kernel
theorem dX6_named_34 : decode cX6_named 34 = .ok (.getfield 7, 3) := by decide +kernel
theorem dX6_named_37 : decode cX6_named 37 = .ok (.iload 4, 2) := by decide +kernel
theorem dX6_named_39 : decode cX6_named 39 = .ok (.iaload, 1) := by decide +kernel
theorem dX6_named_40 : decode cX6_named 40 = .ok (.caload, 1) := by decide +kernel
theorem dX6_named_41 : decode cX6_named 41 = .ok (.iload_n 2, 1) := by decide +kernel
theorem dX6_named_42 : decode cX6_named 42 = .ok (.if_icmp .ne 13, 3) := by decide +kernel
theorem dX6_named_45 : decode cX6_named 45 = .ok (.aload_n 0, 1) := by decide +kernel
theorem dX6_named_46 : decode cX6_named 46 = .ok (.getfield 7, 3) := by decide +kernel
theorem dX6_named_49 : decode cX6_named 49 = .ok (.iload 4, 2) := by decide +kernel
theorem dX6_named_51 : decode cX6_named 51 = .ok (.iaload, 1) := by decide +kernel
theorem dX6_named_52 : decode cX6_named 52 = .ok (.goto 4, 3) := by decide +kernel
theorem dX6_named_55 : decode cX6_named 55 = .ok (.iload_n 3, 1) := by decide +kernel
theorem dX6_named_56 : decode cX6_named 56 = .ok (.istore_n 3, 1) := by decide +kernel
theorem dX6_named_57 : decode cX6_named 57 = .ok (.iinc 4 1, 3) := by decide +kernel
theorem dX6_named_60 : decode cX6_named 60 = .ok (.goto (-55), 3) := by decide +kernel
theorem dX6_named_63 : decode cX6_named 63 = .ok (.aload_n 0, 1) := by decide +kernel
theorem dX6_named_64 : decode cX6_named 64 = .ok (.iload_n 3, 1) := by decide +kernel
theorem dX6_named_65 : decode cX6_named 65 = .ok (.iconst (-1), 1) := by decide +kernel
theorem dX6_named_66 : decode cX6_named 66 = .ok (.if_icmp .ne 7, 3) := by decide +kernel
theorem dX6_named_69 : decode cX6_named 69 = .ok (.iconst 1, 1) := by decide +kernel
theorem dX6_named_70 : decode cX6_named 70 = .ok (.goto 4, 3) := by decide +kernel
theorem dX6_named_73 : decode cX6_named 73 = .ok (.iconst 0, 1) := by decide +kernel
theorem dX6_named_74 : decode cX6_named 74 = .ok (.invokevirtual 102, 3) := by decide +kernel
theorem dX6_named_77 : decode cX6_named 77 = .ok (.ifCond .eq 7, 3) := by decide +kernel
theorem dX6_named_80 : decode cX6_named 80 = .ok (.iconst 0, 1) := by decide +kernel
theorem dX6_named_81 : decode cX6_named 81 = .ok (.goto 4, 3) := by decide +kernel
theorem dX6_named_84 : decode cX6_named 84 = .ok (.iload_n 3, 1) := by decide +kernel
theorem dX6_named_85 : decode cX6_named 85 = .ok (.ireturn, 1) := by decide +kernel
theorem dX6_isIn_0 : decode cX6_isIn 0 = .ok (.aload_n 0, 1) := by decide +kernel
theorem dX6_isIn_1 : decode cX6_isIn 1 = .ok (.getfield 36, 3) := by decide +kernel
theorem dX6_isIn_4 : decode cX6_isIn 4 = .ok (.iconst 4, 1) := by decide +kernel
theorem dX6_isIn_5 : decode cX6_isIn 5 = .ok (.iload_n 1, 1) := by decide +kernel
theorem dX6_isIn_6 : decode cX6_isIn 6 = .ok (.imul, 1) := by decide +kernel
theorem dX6_isIn_7 : decode cX6_isIn 7 = .ok (.iload_n 2, 1) := by decide +kernel
theorem dX6_isIn_8 : decode cX6_isIn 8 = .ok (.iadd, 1) := by decide +kernel
theorem dX6_isIn_9 : decode cX6_isIn 9 = .ok (.caload, 1) := by decide +kernel
theorem dX6_isIn_10 : decode cX6_isIn 10 = .ok (.bipush 45, 2) := by decide +kernel
theorem dX6_isIn_12 : decode cX6_isIn 12 = .ok (.if_icmp .eq 7, 3) := by decide +kernel
theorem dX6_isIn_15 : decode cX6_isIn 15 = .ok (.iconst 1, 1) := by decide +kernel
theorem dX6_isIn_16 : decode cX6_isIn 16 = .ok (.goto 4, 3) := by decide +kernel
theorem dX6_isIn_19 : decode cX6_isIn 19 = .ok (.iconst 0, 1) := by decide +kernel
theorem dX6_isIn_20 : decode cX6_isIn 20 = .ok (.ireturn, 1) := by decide +kernel
theorem dX6_areSame_0 : decode cX6_areSame 0 = .ok (.aload_n 0, 1) := by decide +kernel
theorem dX6_areSame_1 : decode cX6_areSame 1 = .ok (.getfield 13, 3) := by decide +kernel
theorem dX6_areSame_4 : decode cX6_areSame 4 = .ok (.iload_n 1, 1) := by decide +kernel
theorem dX6_areSame_5 : decode cX6_areSame 5 = .ok (.caload, 1) := by decide +kernel
theorem dX6_areSame_6 : decode cX6_areSame 6 = .ok (.aload_n 0, 1) := by decide +kernel
theorem dX6_areSame_7 : decode cX6_areSame 7 = .ok (.getfield 13, 3) := by decide +kernel
theorem dX6_areSame_10 : decode cX6_areSame 10 = .ok (.iload_n 2, 1) := by decide +kernel
theorem dX6_areSame_11 : decode cX6_areSame 11 = .ok (.caload, 1) := by decide +kernel
theorem dX6_areSame_12 : decode cX6_areSame 12 = .ok (.if_icmp .ne 30, 3) := by decide +kernel
theorem dX6_areSame_15 : decode cX6_areSame 15 = .ok (.aload_n 0, 1) := by decide +kernel
theorem dX6_areSame_16 : decode cX6_areSame 16 = .ok (.getfield 17, 3) := by decide +kernel
theorem dX6_areSame_19 : decode cX6_areSame 19 = .ok (.iload_n 1, 1) := by decide +kernel
theorem dX6_areSame_20 : decode cX6_areSame 20 = .ok (.iaload, 1) := by decide +kernel
theorem dX6_areSame_21 : decode cX6_areSame 21 = .ok (.aload_n 0, 1) := by decide +kernel
theorem dX6_areSame_22 : decode cX6_areSame 22 = .ok (.getfield 17, 3) := by decide +kernel
theorem dX6_areSame_25 : decode cX6_areSame 25 = .ok (.iload_n 2, 1) := by decide +kernel
theorem dX6_areSame_26 : decode cX6_areSame 26 = .ok (.iaload, 1) := by decide +kernel
theorem dX6_areSame_27 : decode cX6_areSame 27 = .ok (.if_icmp .ne 15, 3) := by decide +kernel
theorem dX6_areSame_30 : decode cX6_areSame 30 = .ok (.aload_n 0, 1) := by decide +kernel
theorem dX6_areSame_31 : decode cX6_areSame 31 = .ok (.iload_n 1, 1) := by decide +kernel
theorem dX6_areSame_32 : decode cX6_areSame 32 = .ok (.invokevirtual 137, 3) := by decide +kernel
theorem dX6_areSame_35 : decode cX6_areSame 35 = .ok (.ifCond .le 7, 3) := by decide +kernel
theorem dX6_areSame_38 : decode cX6_areSame 38 = .ok (.iconst 1, 1) := by decide +kernel
theorem dX6_areSame_39 : decode cX6_areSame 39 = .ok (.goto 4, 3) := by decide +kernel
theorem dX6_areSame_42 : decode cX6_areSame 42 = .ok (.iconst 0, 1) := by decide +kernel
theorem dX6_areSame_43 : decode cX6_areSame 43 = .ok (.istore_n 3, 1) := by decide +kernel
theorem dX6_areSame_44 : decode cX6_areSame 44 = .ok (.iconst 0, 1) := by decide +kernel
theorem dX6_areSame_45 : decode cX6_areSame 45 = .ok (.istore 4, 2) := by decide +kernel
theorem dX6_areSame_47 : decode cX6_areSame 47 = .ok (.iload 4, 2) := by decide +kernel
theorem dX6_areSame_49 : decode cX6_areSame 49 = .ok (.iconst 4, 1) := by decide +kernel
theorem dX6_areSame_50 : decode cX6_areSame 50 = .ok (.if_icmp .ge 36, 3) := by decide +kernel
theorem dX6_areSame_53 : decode cX6_areSame 53 = .ok (.iload_n 3, 1) := by decide +kernel
theorem dX6_areSame_54 : decode cX6_areSame 54 = .ok (.ifCond .eq 24, 3) := by decide +kernel
theorem dX6_areSame_57 : decode cX6_areSame 57 = .ok (.aload_n 0, 1) := by decide +kernel
theorem dX6_areSame_58 : decode cX6_areSame 58 = .ok (.iload_n 1, 1) := by decide +kernel
theorem dX6_areSame_59 : decode cX6_areSame 59 = .ok (.iload 4, 2) := by decide +kernel
theorem dX6_areSame_61 : decode cX6_areSame 61 = .ok (.invokevirtual 156, 3) := by decide +kernel
theorem dX6_areSame_64 : decode cX6_areSame 64 = .ok (.aload_n 0, 1) := by decide +kernel
theorem dX6_areSame_65 : decode cX6_areSame 65 = .ok (.iload_n 2, 1) := by decide +kernel
theorem dX6_areSame_66 : decode cX6_areSame 66 = .ok (.iload 4, 2) := by decide +kernel
theorem dX6_areSame_68 : decode cX6_areSame 68 = .ok (.invokevirtual 156, 3) := by decide +kernel
theorem dX6_areSame_71 : decode cX6_areSame 71 = .ok (.if_icmp .ne 7, 3) := by decide +kernel
theorem dX6_areSame_74 : decode cX6_areSame 74 = .ok (.iconst 1, 1) := by decide +kernel
theorem dX6_areSame_75 : decode cX6_areSame 75 = .ok (.goto 4, 3) := by decide +kernel
theorem dX6_areSame_78 : decode cX6_areSame 78 = .ok (.iconst 0, 1) := by decide +kernel
theorem dX6_areSame_79 : decode cX6_areSame 79 = .ok (.istore_n 3, 1) := by decide +kernel
theorem dX6_areSame_80 : decode cX6_areSame 80 = .ok (.iinc 4 1, 3) := by decide +kernel
theorem dX6_areSame_83 : decode cX6_areSame 83 = .ok (.goto (-36), 3) := by decide +kernel
theorem dX6_areSame_86 : decode cX6_areSame 86 = .ok (.iload_n 3, 1) := by decide +kernel
theorem dX6_areSame_87 : decode cX6_areSame 87 = .ok (.ireturn, 1) := by decide +kernel
theorem dX6_alone_0 : decode cX6_alone 0 = .ok (.iconst (-1), 1) := by decide +kernel
theorem dX6_alone_1 : decode cX6_alone 1 = .ok (.istore_n 2, 1) := by decide +kernel
theorem dX6_alone_2 : decode cX6_alone 2 = .ok (.iconst 0, 1) := by decide +kernel
theorem dX6_alone_3 : decode cX6_alone 3 = .ok (.istore_n 3, 1) := by decide +kernel
theorem dX6_alone_4 : decode cX6_alone 4 = .ok (.iload_n 3, 1) := by decide +kernel
theorem dX6_alone_5 : decode cX6_alone 5 = .ok (.iconst 4, 1) := by decide +kernel
theorem dX6_alone_6 : decode cX6_alone 6 = .ok (.if_icmp .ge 33, 3) := by decide +kernel
theorem dX6_alone_9 : decode cX6_alone 9 = .ok (.aload_n 0, 1) := by decide +kernel
theorem dX6_alone_10 : decode cX6_alone 10 = .ok (.iload_n 1, 1) := by decide +kernel
theorem dX6_alone_11 : decode cX6_alone 11 = .ok (.iload_n 3, 1) := by decide +kernel
theorem dX6_alone_12 : decode cX6_alone 12 = .ok (.invokevirtual 156, 3) := by decide +kernel
theorem dX6_alone_15 : decode cX6_alone 15 = .ok (.ifCond .eq 16, 3) := by decide +kernel
theorem dX6_alone_18 : decode cX6_alone 18 = .ok (.aload_n 0, 1) := by decide +kernel
theorem dX6_alone_19 : decode cX6_alone 19 = .ok (.iload_n 1, 1) := by decide +kernel
theorem dX6_alone_20 : decode cX6_alone 20 = .ok (.invokevirtual 137, 3) := by decide +kernel
theorem dX6_alone_23 : decode cX6_alone 23 = .ok (.iconst 1, 1) := by decide +kernel
theorem dX6_alone_24 : decode cX6_alone 24 = .ok (.if_icmp .ne 7, 3) := by decide +kernel
theorem dX6_alone_27 : decode cX6_alone 27 = .ok (.iload_n 3, 1) := by decide +kernel
theorem dX6_alone_28 : decode cX6_alone 28 = .ok (.goto 4, 3) := by decide +kernel
theorem dX6_alone_31 : decode cX6_alone 31 = .ok (.iload_n 2, 1) := by decide +kernel
theorem dX6_alone_32 : decode cX6_alone 32 = .ok (.istore_n 2, 1) := by decide +kernel
theorem dX6_alone_33 : decode cX6_alone 33 = .ok (.iinc 3 1, 3) := by decide +kernel
theorem dX6_alone_36 : decode cX6_alone 36 = .ok (.goto (-32), 3) := by decide +kernel
theorem dX6_alone_39 : decode cX6_alone 39 = .ok (.iload_n 2, 1) := by decide +kernel
theorem dX6_alone_40 : decode cX6_alone 40 = .ok (.ireturn, 1) := by decide +kernel
theorem dX6_other_0 : decode cX6_other 0 = .ok (.iload_n 0, 1) := by decide +kernel
theorem dX6_other_1 : decode cX6_other 1 = .ok (.bipush 108, 2) := by decide +kernel
theorem dX6_other_3 : decode cX6_other 3 = .ok (.if_icmp .ne 8, 3) := by decide +kernel
theorem dX6_other_6 : decode cX6_other 6 = .ok (.bipush 114, 2) := by decide +kernel
theorem dX6_other_8 : decode cX6_other 8 = .ok (.goto 5, 3) := by decide +kernel
theorem dX6_other_11 : decode cX6_other 11 = .ok (.bipush 108, 2) := by decide +kernel
theorem dX6_other_13 : decode cX6_other 13 = .ok (.ireturn, 1) := by decide +kernel
theorem dX6_areBadGazes_0 : decode cX6_areBadGazes 0 = .ok (.aload_n 0, 1) := by decide +kernel
theorem dX6_areBadGazes_1 : decode cX6_areBadGazes 1 = .ok (.iload_n 1, 1) := by decide +kernel
theorem dX6_areBadGazes_2 : decode cX6_areBadGazes 2 = .ok (.invokevirtual 160, 3) := by decide +kernel
theorem dX6_areBadGazes_5 : decode cX6_areBadGazes 5 = .ok (.istore_n 3, 1) := by decide +kernel
theorem dX6_areBadGazes_6 : decode cX6_areBadGazes 6 = .ok (.aload_n 0, 1) := by decide +kernel
theorem dX6_areBadGazes_7 : decode cX6_areBadGazes 7 = .ok (.iload_n 2, 1) := by decide +kernel
theorem dX6_areBadGazes_8 : decode cX6_areBadGazes 8 = .ok (.invokevirtual 160, 3) := by decide +kernel
theorem dX6_areBadGazes_11 : decode cX6_areBadGazes 11 = .ok (.istore 4, 2) := by decide +kernel
theorem dX6_areBadGazes_13 : decode cX6_areBadGazes 13 = .ok (.iload_n 3, 1) := by decide +kernel
theorem dX6_areBadGazes_14 : decode cX6_areBadGazes 14 = .ok (.ifCond .lt 14, 3) := by decide +kernel
theorem dX6_areBadGazes_17 : decode cX6_areBadGazes 17 = .ok (.iload 4, 2) := by decide +kernel
theorem dX6_areBadGazes_19 : decode cX6_areBadGazes 19 = .ok (.ifCond .lt 9, 3) := by decide +kernel
theorem dX6_areBadGazes_22 : decode cX6_areBadGazes 22 = .ok (.iload_n 3, 1) := by decide +kernel
theorem dX6_areBadGazes_23 : decode cX6_areBadGazes 23 = .ok (.iload 4, 2) := by decide +kernel
theorem dX6_areBadGazes_25 : decode cX6_areBadGazes 25 = .ok (.if_icmp .ne 5, 3) := by decide +kernel
theorem dX6_areBadGazes_28 : decode cX6_areBadGazes 28 = .ok (.iconst 0, 1) := by decide +kernel
theorem dX6_areBadGazes_29 : decode cX6_areBadGazes 29 = .ok (.ireturn, 1) := by decide +kernel
theorem dX6_areBadGazes_30 : decode cX6_areBadGazes 30 = .ok (.aload_n 0, 1) := by decide +kernel
theorem dX6_areBadGazes_31 : decode cX6_areBadGazes 31 = .ok (.getfield 39, 3) := by decide +kernel
theorem dX6_areBadGazes_34 : decode cX6_areBadGazes 34 = .ok (.iconst 4, 1) := by decide +kernel
theorem dX6_areBadGazes_35 : decode cX6_areBadGazes 35 = .ok (.iload_n 1, 1) := by decide +kernel
theorem dX6_areBadGazes_36 : decode cX6_areBadGazes 36 = .ok (.imul, 1) := by decide +kernel
theorem dX6_areBadGazes_37 : decode cX6_areBadGazes 37 = .ok (.iload_n 3, 1) := by decide +kernel
theorem dX6_areBadGazes_38 : decode cX6_areBadGazes 38 = .ok (.iadd, 1) := by decide +kernel
theorem dX6_areBadGazes_39 : decode cX6_areBadGazes 39 = .ok (.caload, 1) := by decide +kernel
theorem dX6_areBadGazes_40 : decode cX6_areBadGazes 40 = .ok (.istore 5, 2) := by decide +kernel
theorem dX6_areBadGazes_42 : decode cX6_areBadGazes 42 = .ok (.aload_n 0, 1) := by decide +kernel
theorem dX6_areBadGazes_43 : decode cX6_areBadGazes 43 = .ok (.getfield 39, 3) := by decide +kernel
theorem dX6_areBadGazes_46 : decode cX6_areBadGazes 46 = .ok (.iconst 4, 1) := by decide +kernel
theorem dX6_areBadGazes_47 : decode cX6_areBadGazes 47 = .ok (.iload_n 2, 1) := by decide +kernel
theorem dX6_areBadGazes_48 : decode cX6_areBadGazes 48 = .ok (.imul, 1) := by decide +kernel
theorem dX6_areBadGazes_49 : decode cX6_areBadGazes 49 = .ok (.iload 4, 2) := by decide +kernel
theorem dX6_areBadGazes_51 : decode cX6_areBadGazes 51 = .ok (.iadd, 1) := by decide +kernel
theorem dX6_areBadGazes_52 : decode cX6_areBadGazes 52 = .ok (.caload, 1) := by decide +kernel
theorem dX6_areBadGazes_53 : decode cX6_areBadGazes 53 = .ok (.istore 6, 2) := by decide +kernel
theorem dX6_areBadGazes_55 : decode cX6_areBadGazes 55 = .ok (.iload 5, 2) := by decide +kernel
theorem dX6_areBadGazes_57 : decode cX6_areBadGazes 57 = .ok (.bipush 99, 2) := by decide +kernel
theorem dX6_areBadGazes_59 : decode cX6_areBadGazes 59 = .ok (.if_icmp .eq 13, 3) := by decide +kernel
theorem dX6_areBadGazes_62 : decode cX6_areBadGazes 62 = .ok (.iload 6, 2) := by decide +kernel
theorem dX6_areBadGazes_64 : decode cX6_areBadGazes 64 = .ok (.iload 5, 2) := by decide +kernel
theorem dX6_areBadGazes_66 : decode cX6_areBadGazes 66 = .ok (.invokestatic 163, 3) := by decide +kernel
theorem dX6_areBadGazes_69 : decode cX6_areBadGazes 69 = .ok (.if_icmp .ne 20, 3) := by decide +kernel
theorem dX6_areBadGazes_72 : decode cX6_areBadGazes 72 = .ok (.iload 6, 2) := by decide +kernel
theorem dX6_areBadGazes_74 : decode cX6_areBadGazes 74 = .ok (.bipush 99, 2) := by decide +kernel
theorem dX6_areBadGazes_76 : decode cX6_areBadGazes 76 = .ok (.if_icmp .eq 17, 3) := by decide +kernel
theorem dX6_areBadGazes_79 : decode cX6_areBadGazes 79 = .ok (.iload 5, 2) := by decide +kernel
theorem dX6_areBadGazes_81 : decode cX6_areBadGazes 81 = .ok (.iload 6, 2) := by decide +kernel
theorem dX6_areBadGazes_83 : decode cX6_areBadGazes 83 = .ok (.invokestatic 163, 3) := by decide +kernel
theorem dX6_areBadGazes_86 : decode cX6_areBadGazes 86 = .ok (.if_icmp .eq 7, 3) := by decide +kernel
theorem dX6_areBadGazes_89 : decode cX6_areBadGazes 89 = .ok (.iconst 1, 1) := by decide +kernel
theorem dX6_areBadGazes_90 : decode cX6_areBadGazes 90 = .ok (.goto 4, 3) := by decide +kernel
theorem dX6_areBadGazes_93 : decode cX6_areBadGazes 93 = .ok (.iconst 0, 1) := by decide +kernel
theorem dX6_areBadGazes_94 : decode cX6_areBadGazes 94 = .ok (.ireturn, 1) := by decide +kernel
theorem dX6_isBadEdge_0 : decode cX6_isBadEdge 0 = .ok (.iconst 0, 1) := by decide +kernel
theorem dX6_isBadEdge_1 : decode cX6_isBadEdge 1 = .ok (.istore_n 3, 1) := by decide +kernel
theorem dX6_isBadEdge_2 : decode cX6_isBadEdge 2 = .ok (.iconst 0, 1) := by decide +kernel
theorem dX6_isBadEdge_3 : decode cX6_isBadEdge 3 = .ok (.istore 4, 2) := by decide +kernel
theorem dX6_isBadEdge_5 : decode cX6_isBadEdge 5 = .ok (.iload 4, 2) := by decide +kernel
theorem dX6_isBadEdge_7 : decode cX6_isBadEdge 7 = .ok (.iconst 4, 1) := by decide +kernel
theorem dX6_isBadEdge_8 : decode cX6_isBadEdge 8 = .ok (.if_icmp .ge 60, 3) := by decide +kernel
theorem dX6_isBadEdge_11 : decode cX6_isBadEdge 11 = .ok (.iload_n 3, 1) := by decide +kernel
theorem dX6_isBadEdge_12 : decode cX6_isBadEdge 12 = .ok (.ifCond .ne 44, 3) := by decide +kernel
theorem dX6_isBadEdge_15 : decode cX6_isBadEdge 15 = .ok (.aload_n 0, 1) := by decide +kernel
theorem dX6_isBadEdge_16 : decode cX6_isBadEdge 16 = .ok (.getfield 45, 3) := by decide +kernel
theorem dX6_isBadEdge_19 : decode cX6_isBadEdge 19 = .ok (.iconst 4, 1) := by decide +kernel
theorem dX6_isBadEdge_20 : decode cX6_isBadEdge 20 = .ok (.iload_n 1, 1) := by decide +kernel
theorem dX6_isBadEdge_21 : decode cX6_isBadEdge 21 = .ok (.imul, 1) := by decide +kernel
theorem dX6_isBadEdge_22 : decode cX6_isBadEdge 22 = .ok (.iload 4, 2) := by decide +kernel
theorem dX6_isBadEdge_24 : decode cX6_isBadEdge 24 = .ok (.iadd, 1) := by decide +kernel
theorem dX6_isBadEdge_25 : decode cX6_isBadEdge 25 = .ok (.caload, 1) := by decide +kernel
theorem dX6_isBadEdge_26 : decode cX6_isBadEdge 26 = .ok (.bipush 45, 2) := by decide +kernel
theorem dX6_isBadEdge_28 : decode cX6_isBadEdge 28 = .ok (.if_icmp .eq 32, 3) := by decide +kernel
theorem dX6_isBadEdge_31 : decode cX6_isBadEdge 31 = .ok (.aload_n 0, 1) := by decide +kernel
theorem dX6_isBadEdge_32 : decode cX6_isBadEdge 32 = .ok (.getfield 45, 3) := by decide +kernel
theorem dX6_isBadEdge_35 : decode cX6_isBadEdge 35 = .ok (.iconst 4, 1) := by decide +kernel
theorem dX6_isBadEdge_36 : decode cX6_isBadEdge 36 = .ok (.iload_n 1, 1) := by decide +kernel
theorem dX6_isBadEdge_37 : decode cX6_isBadEdge 37 = .ok (.imul, 1) := by decide +kernel
theorem dX6_isBadEdge_38 : decode cX6_isBadEdge 38 = .ok (.iload 4, 2) := by decide +kernel
theorem dX6_isBadEdge_40 : decode cX6_isBadEdge 40 = .ok (.iadd, 1) := by decide +kernel
theorem dX6_isBadEdge_41 : decode cX6_isBadEdge 41 = .ok (.caload, 1) := by decide +kernel
theorem dX6_isBadEdge_42 : decode cX6_isBadEdge 42 = .ok (.aload_n 0, 1) := by decide +kernel
theorem dX6_isBadEdge_43 : decode cX6_isBadEdge 43 = .ok (.getfield 42, 3) := by decide +kernel
theorem dX6_isBadEdge_46 : decode cX6_isBadEdge 46 = .ok (.iconst 4, 1) := by decide +kernel
theorem dX6_isBadEdge_47 : decode cX6_isBadEdge 47 = .ok (.iload_n 2, 1) := by decide +kernel
theorem dX6_isBadEdge_48 : decode cX6_isBadEdge 48 = .ok (.imul, 1) := by decide +kernel
theorem dX6_isBadEdge_49 : decode cX6_isBadEdge 49 = .ok (.iload 4, 2) := by decide +kernel
theorem dX6_isBadEdge_51 : decode cX6_isBadEdge 51 = .ok (.iadd, 1) := by decide +kernel
theorem dX6_isBadEdge_52 : decode cX6_isBadEdge 52 = .ok (.caload, 1) := by decide +kernel
theorem dX6_isBadEdge_53 : decode cX6_isBadEdge 53 = .ok (.if_icmp .ne 7, 3) := by decide +kernel
theorem dX6_isBadEdge_56 : decode cX6_isBadEdge 56 = .ok (.iconst 1, 1) := by decide +kernel
theorem dX6_isBadEdge_57 : decode cX6_isBadEdge 57 = .ok (.goto 4, 3) := by decide +kernel
theorem dX6_isBadEdge_60 : decode cX6_isBadEdge 60 = .ok (.iconst 0, 1) := by decide +kernel
theorem dX6_isBadEdge_61 : decode cX6_isBadEdge 61 = .ok (.istore_n 3, 1) := by decide +kernel
theorem dX6_isBadEdge_62 : decode cX6_isBadEdge 62 = .ok (.iinc 4 1, 3) := by decide +kernel
theorem dX6_isBadEdge_65 : decode cX6_isBadEdge 65 = .ok (.goto (-60), 3) := by decide +kernel
theorem dX6_isBadEdge_68 : decode cX6_isBadEdge 68 = .ok (.iload_n 3, 1) := by decide +kernel
theorem dX6_isBadEdge_69 : decode cX6_isBadEdge 69 = .ok (.ireturn, 1) := by decide +kernel
theorem dX6_isJump_0 : decode cX6_isJump 0 = .ok (.iconst 0, 1) := by decide +kernel
theorem dX6_isJump_1 : decode cX6_isJump 1 = .ok (.istore_n 3, 1) := by decide +kernel
theorem dX6_isJump_2 : decode cX6_isJump 2 = .ok (.iconst 0, 1) := by decide +kernel
theorem dX6_isJump_3 : decode cX6_isJump 3 = .ok (.istore 4, 2) := by decide +kernel
theorem dX6_isJump_5 : decode cX6_isJump 5 = .ok (.iload 4, 2) := by decide +kernel
theorem dX6_isJump_7 : decode cX6_isJump 7 = .ok (.iconst 4, 1) := by decide +kernel
theorem dX6_isJump_8 : decode cX6_isJump 8 = .ok (.if_icmp .ge 119, 3) := by decide +kernel
theorem dX6_isJump_11 : decode cX6_isJump 11 = .ok (.iconst 4, 1) := by decide +kernel
theorem dX6_isJump_12 : decode cX6_isJump 12 = .ok (.iload_n 1, 1) := by decide +kernel
theorem dX6_isJump_13 : decode cX6_isJump 13 = .ok (.imul, 1) := by decide +kernel
theorem dX6_isJump_14 : decode cX6_isJump 14 = .ok (.iload 4, 2) := by decide +kernel
theorem dX6_isJump_16 : decode cX6_isJump 16 = .ok (.iadd, 1) := by decide +kernel
theorem dX6_isJump_17 : decode cX6_isJump 17 = .ok (.istore 5, 2) := by decide +kernel
theorem dX6_isJump_19 : decode cX6_isJump 19 = .ok (.iconst 4, 1) := by decide +kernel
theorem dX6_isJump_20 : decode cX6_isJump 20 = .ok (.iload_n 2, 1) := by decide +kernel
theorem dX6_isJump_21 : decode cX6_isJump 21 = .ok (.imul, 1) := by decide +kernel
theorem dX6_isJump_22 : decode cX6_isJump 22 = .ok (.iload 4, 2) := by decide +kernel
theorem dX6_isJump_24 : decode cX6_isJump 24 = .ok (.iadd, 1) := by decide +kernel
theorem dX6_isJump_25 : decode cX6_isJump 25 = .ok (.istore 6, 2) := by decide +kernel
theorem dX6_isJump_27 : decode cX6_isJump 27 = .ok (.aload_n 0, 1) := by decide +kernel
theorem dX6_isJump_28 : decode cX6_isJump 28 = .ok (.getfield 36, 3) := by decide +kernel
theorem dX6_isJump_31 : decode cX6_isJump 31 = .ok (.iload 5, 2) := by decide +kernel
theorem dX6_isJump_33 : decode cX6_isJump 33 = .ok (.caload, 1) := by decide +kernel
theorem dX6_isJump_34 : decode cX6_isJump 34 = .ok (.bipush 108, 2) := by decide +kernel
theorem dX6_isJump_36 : decode cX6_isJump 36 = .ok (.if_icmp .ne 15, 3) := by decide +kernel
theorem dX6_isJump_39 : decode cX6_isJump 39 = .ok (.aload_n 0, 1) := by decide +kernel
theorem dX6_isJump_40 : decode cX6_isJump 40 = .ok (.getfield 36, 3) := by decide +kernel
theorem dX6_isJump_43 : decode cX6_isJump 43 = .ok (.iload 6, 2) := by decide +kernel
theorem dX6_isJump_45 : decode cX6_isJump 45 = .ok (.caload, 1) := by decide +kernel
theorem dX6_isJump_46 : decode cX6_isJump 46 = .ok (.bipush 114, 2) := by decide +kernel
theorem dX6_isJump_48 : decode cX6_isJump 48 = .ok (.if_icmp .eq 27, 3) := by decide +kernel
theorem dX6_isJump_51 : decode cX6_isJump 51 = .ok (.aload_n 0, 1) := by decide +kernel
theorem dX6_isJump_52 : decode cX6_isJump 52 = .ok (.getfield 36, 3) := by decide +kernel
theorem dX6_isJump_55 : decode cX6_isJump 55 = .ok (.iload 5, 2) := by decide +kernel
theorem dX6_isJump_57 : decode cX6_isJump 57 = .ok (.caload, 1) := by decide +kernel
theorem dX6_isJump_58 : decode cX6_isJump 58 = .ok (.bipush 114, 2) := by decide +kernel
theorem dX6_isJump_60 : decode cX6_isJump 60 = .ok (.if_icmp .ne 19, 3) := by decide +kernel
theorem dX6_isJump_63 : decode cX6_isJump 63 = .ok (.aload_n 0, 1) := by decide +kernel
theorem dX6_isJump_64 : decode cX6_isJump 64 = .ok (.getfield 36, 3) := by decide +kernel
theorem dX6_isJump_67 : decode cX6_isJump 67 = .ok (.iload 6, 2) := by decide +kernel
theorem dX6_isJump_69 : decode cX6_isJump 69 = .ok (.caload, 1) := by decide +kernel
theorem dX6_isJump_70 : decode cX6_isJump 70 = .ok (.bipush 108, 2) := by decide +kernel
theorem dX6_isJump_72 : decode cX6_isJump 72 = .ok (.if_icmp .ne 7, 3) := by decide +kernel
theorem dX6_isJump_75 : decode cX6_isJump 75 = .ok (.iconst 1, 1) := by decide +kernel
theorem dX6_isJump_76 : decode cX6_isJump 76 = .ok (.goto 4, 3) := by decide +kernel
theorem dX6_isJump_79 : decode cX6_isJump 79 = .ok (.iconst 0, 1) := by decide +kernel
theorem dX6_isJump_80 : decode cX6_isJump 80 = .ok (.istore 7, 2) := by decide +kernel
theorem dX6_isJump_82 : decode cX6_isJump 82 = .ok (.iload_n 3, 1) := by decide +kernel
theorem dX6_isJump_83 : decode cX6_isJump 83 = .ok (.ifCond .ne 32, 3) := by decide +kernel
theorem dX6_isJump_86 : decode cX6_isJump 86 = .ok (.iload 7, 2) := by decide +kernel
theorem dX6_isJump_88 : decode cX6_isJump 88 = .ok (.ifCond .eq 31, 3) := by decide +kernel
theorem dX6_isJump_91 : decode cX6_isJump 91 = .ok (.aload_n 0, 1) := by decide +kernel
theorem dX6_isJump_92 : decode cX6_isJump 92 = .ok (.getfield 45, 3) := by decide +kernel
theorem dX6_isJump_95 : decode cX6_isJump 95 = .ok (.iload 5, 2) := by decide +kernel
theorem dX6_isJump_97 : decode cX6_isJump 97 = .ok (.caload, 1) := by decide +kernel
theorem dX6_isJump_98 : decode cX6_isJump 98 = .ok (.bipush 45, 2) := by decide +kernel
theorem dX6_isJump_100 : decode cX6_isJump 100 = .ok (.if_icmp .ne 19, 3) := by decide +kernel
theorem dX6_isJump_103 : decode cX6_isJump 103 = .ok (.aload_n 0, 1) := by decide +kernel
theorem dX6_isJump_104 : decode cX6_isJump 104 = .ok (.getfield 42, 3) := by decide +kernel
theorem dX6_isJump_107 : decode cX6_isJump 107 = .ok (.iload 6, 2) := by decide +kernel
theorem dX6_isJump_109 : decode cX6_isJump 109 = .ok (.caload, 1) := by decide +kernel
theorem dX6_isJump_110 : decode cX6_isJump 110 = .ok (.bipush 45, 2) := by decide +kernel
theorem dX6_isJump_112 : decode cX6_isJump 112 = .ok (.if_icmp .ne 7, 3) := by decide +kernel
theorem dX6_isJump_115 : decode cX6_isJump 115 = .ok (.iconst 1, 1) := by decide +kernel
theorem dX6_isJump_116 : decode cX6_isJump 116 = .ok (.goto 4, 3) := by decide +kernel
theorem dX6_isJump_119 : decode cX6_isJump 119 = .ok (.iconst 0, 1) := by decide +kernel
theorem dX6_isJump_120 : decode cX6_isJump 120 = .ok (.istore_n 3, 1) := by decide +kernel
theorem dX6_isJump_121 : decode cX6_isJump 121 = .ok (.iinc 4 1, 3) := by decide +kernel
theorem dX6_isJump_124 : decode cX6_isJump 124 = .ok (.goto (-119), 3) := by decide +kernel
theorem dX6_isJump_127 : decode cX6_isJump 127 = .ok (.iload_n 3, 1) := by decide +kernel
theorem dX6_isJump_128 : decode cX6_isJump 128 = .ok (.ireturn, 1) := by decide +kernel
theorem dX6_wrongWith_0 : decode cX6_wrongWith 0 = .ok (.aload_n 0, 1) := by decide +kernel
theorem dX6_wrongWith_1 : decode cX6_wrongWith 1 = .ok (.getfield 13, 3) := by decide +kernel
theorem dX6_wrongWith_4 : decode cX6_wrongWith 4 = .ok (.iload_n 1, 1) := by decide +kernel
theorem dX6_wrongWith_5 : decode cX6_wrongWith 5 = .ok (.caload, 1) := by decide +kernel
theorem dX6_wrongWith_6 : decode cX6_wrongWith 6 = .ok (.bipush 115, 2) := by decide +kernel
theorem dX6_wrongWith_8 : decode cX6_wrongWith 8 = .ok (.if_icmp .ne 14, 3) := by decide +kernel
theorem dX6_wrongWith_11 : decode cX6_wrongWith 11 = .ok (.aload_n 0, 1) := by decide +kernel
theorem dX6_wrongWith_12 : decode cX6_wrongWith 12 = .ok (.getfield 13, 3) := by decide +kernel
theorem dX6_wrongWith_15 : decode cX6_wrongWith 15 = .ok (.iload_n 2, 1) := by decide +kernel
theorem dX6_wrongWith_16 : decode cX6_wrongWith 16 = .ok (.caload, 1) := by decide +kernel
theorem dX6_wrongWith_17 : decode cX6_wrongWith 17 = .ok (.bipush 110, 2) := by decide +kernel
theorem dX6_wrongWith_19 : decode cX6_wrongWith 19 = .ok (.if_icmp .eq 25, 3) := by decide +kernel
theorem dX6_wrongWith_22 : decode cX6_wrongWith 22 = .ok (.aload_n 0, 1) := by decide +kernel
theorem dX6_wrongWith_23 : decode cX6_wrongWith 23 = .ok (.getfield 13, 3) := by decide +kernel
theorem dX6_wrongWith_26 : decode cX6_wrongWith 26 = .ok (.iload_n 1, 1) := by decide +kernel
theorem dX6_wrongWith_27 : decode cX6_wrongWith 27 = .ok (.caload, 1) := by decide +kernel
theorem dX6_wrongWith_28 : decode cX6_wrongWith 28 = .ok (.bipush 110, 2) := by decide +kernel
theorem dX6_wrongWith_30 : decode cX6_wrongWith 30 = .ok (.if_icmp .ne 18, 3) := by decide +kernel
theorem dX6_wrongWith_33 : decode cX6_wrongWith 33 = .ok (.aload_n 0, 1) := by decide +kernel
theorem dX6_wrongWith_34 : decode cX6_wrongWith 34 = .ok (.getfield 13, 3) := by decide +kernel
theorem dX6_wrongWith_37 : decode cX6_wrongWith 37 = .ok (.iload_n 2, 1) := by decide +kernel
theorem dX6_wrongWith_38 : decode cX6_wrongWith 38 = .ok (.caload, 1) := by decide +kernel
theorem dX6_wrongWith_39 : decode cX6_wrongWith 39 = .ok (.bipush 115, 2) := by decide +kernel
theorem dX6_wrongWith_41 : decode cX6_wrongWith 41 = .ok (.if_icmp .ne 7, 3) := by decide +kernel
theorem dX6_wrongWith_44 : decode cX6_wrongWith 44 = .ok (.iconst 1, 1) := by decide +kernel
theorem dX6_wrongWith_45 : decode cX6_wrongWith 45 = .ok (.goto 4, 3) := by decide +kernel
theorem dX6_wrongWith_48 : decode cX6_wrongWith 48 = .ok (.iconst 0, 1) := by decide +kernel
theorem dX6_wrongWith_49 : decode cX6_wrongWith 49 = .ok (.istore_n 3, 1) := by decide +kernel
theorem dX6_wrongWith_50 : decode cX6_wrongWith 50 = .ok (.iload_n 3, 1) := by decide +kernel
theorem dX6_wrongWith_51 : decode cX6_wrongWith 51 = .ok (.ifCond .eq 8, 3) := by decide +kernel
theorem dX6_wrongWith_54 : decode cX6_wrongWith 54 = .ok (.bipush 120, 2) := by decide +kernel
theorem dX6_wrongWith_56 : decode cX6_wrongWith 56 = .ok (.goto 61, 3) := by decide +kernel
theorem dX6_wrongWith_59 : decode cX6_wrongWith 59 = .ok (.aload_n 0, 1) := by decide +kernel
theorem dX6_wrongWith_60 : decode cX6_wrongWith 60 = .ok (.iload_n 1, 1) := by decide +kernel
theorem dX6_wrongWith_61 : decode cX6_wrongWith 61 = .ok (.iload_n 2, 1) := by decide +kernel
theorem dX6_wrongWith_62 : decode cX6_wrongWith 62 = .ok (.invokevirtual 167, 3) := by decide +kernel
theorem dX6_wrongWith_65 : decode cX6_wrongWith 65 = .ok (.ifCond .eq 8, 3) := by decide +kernel
theorem dX6_wrongWith_68 : decode cX6_wrongWith 68 = .ok (.bipush 106, 2) := by decide +kernel
theorem dX6_wrongWith_70 : decode cX6_wrongWith 70 = .ok (.goto 47, 3) := by decide +kernel
theorem dX6_wrongWith_73 : decode cX6_wrongWith 73 = .ok (.aload_n 0, 1) := by decide +kernel
theorem dX6_wrongWith_74 : decode cX6_wrongWith 74 = .ok (.iload_n 1, 1) := by decide +kernel
theorem dX6_wrongWith_75 : decode cX6_wrongWith 75 = .ok (.iload_n 2, 1) := by decide +kernel
theorem dX6_wrongWith_76 : decode cX6_wrongWith 76 = .ok (.invokevirtual 170, 3) := by decide +kernel
theorem dX6_wrongWith_79 : decode cX6_wrongWith 79 = .ok (.ifCond .eq 8, 3) := by decide +kernel
theorem dX6_wrongWith_82 : decode cX6_wrongWith 82 = .ok (.bipush 103, 2) := by decide +kernel
theorem dX6_wrongWith_84 : decode cX6_wrongWith 84 = .ok (.goto 33, 3) := by decide +kernel
theorem dX6_wrongWith_87 : decode cX6_wrongWith 87 = .ok (.aload_n 0, 1) := by decide +kernel
theorem dX6_wrongWith_88 : decode cX6_wrongWith 88 = .ok (.iload_n 1, 1) := by decide +kernel
theorem dX6_wrongWith_89 : decode cX6_wrongWith 89 = .ok (.iload_n 2, 1) := by decide +kernel
theorem dX6_wrongWith_90 : decode cX6_wrongWith 90 = .ok (.invokevirtual 173, 3) := by decide +kernel
theorem dX6_wrongWith_93 : decode cX6_wrongWith 93 = .ok (.ifCond .eq 8, 3) := by decide +kernel
theorem dX6_wrongWith_96 : decode cX6_wrongWith 96 = .ok (.bipush 101, 2) := by decide +kernel
theorem dX6_wrongWith_98 : decode cX6_wrongWith 98 = .ok (.goto 19, 3) := by decide +kernel
theorem dX6_wrongWith_101 : decode cX6_wrongWith 101 = .ok (.aload_n 0, 1) := by decide +kernel
theorem dX6_wrongWith_102 : decode cX6_wrongWith 102 = .ok (.iload_n 1, 1) := by decide +kernel
theorem dX6_wrongWith_103 : decode cX6_wrongWith 103 = .ok (.iload_n 2, 1) := by decide +kernel
theorem dX6_wrongWith_104 : decode cX6_wrongWith 104 = .ok (.invokevirtual 176, 3) := by decide +kernel
theorem dX6_wrongWith_107 : decode cX6_wrongWith 107 = .ok (.ifCond .eq 8, 3) := by decide +kernel
theorem dX6_wrongWith_110 : decode cX6_wrongWith 110 = .ok (.bipush 109, 2) := by decide +kernel
theorem dX6_wrongWith_112 : decode cX6_wrongWith 112 = .ok (.goto 5, 3) := by decide +kernel
theorem dX6_wrongWith_115 : decode cX6_wrongWith 115 = .ok (.bipush 45, 2) := by decide +kernel
theorem dX6_wrongWith_117 : decode cX6_wrongWith 117 = .ok (.ireturn, 1) := by decide +kernel
theorem dX6_wrong_0 : decode cX6_wrong 0 = .ok (.aload_n 0, 1) := by decide +kernel
theorem dX6_wrong_1 : decode cX6_wrong 1 = .ok (.iload_n 1, 1) := by decide +kernel
theorem dX6_wrong_2 : decode cX6_wrong 2 = .ok (.iconst 1, 1) := by decide +kernel
theorem dX6_wrong_3 : decode cX6_wrong 3 = .ok (.aload_n 0, 1) := by decide +kernel
theorem dX6_wrong_4 : decode cX6_wrong 4 = .ok (.getfield 95, 3) := by decide +kernel
theorem dX6_wrong_7 : decode cX6_wrong 7 = .ok (.iconst 1, 1) := by decide +kernel
theorem dX6_wrong_8 : decode cX6_wrong 8 = .ok (.isub, 1) := by decide +kernel
theorem dX6_wrong_9 : decode cX6_wrong 9 = .ok (.invokestatic 91, 3) := by decide +kernel
theorem dX6_wrong_12 : decode cX6_wrong 12 = .ok (.ifCond .eq 7, 3) := by decide +kernel
theorem dX6_wrong_15 : decode cX6_wrong 15 = .ok (.iconst 0, 1) := by decide +kernel
theorem dX6_wrong_16 : decode cX6_wrong 16 = .ok (.goto 4, 3) := by decide +kernel
theorem dX6_wrong_19 : decode cX6_wrong 19 = .ok (.iconst 1, 1) := by decide +kernel
theorem dX6_wrong_20 : decode cX6_wrong 20 = .ok (.invokevirtual 102, 3) := by decide +kernel
theorem dX6_wrong_23 : decode cX6_wrong 23 = .ok (.ifCond .eq 8, 3) := by decide +kernel
theorem dX6_wrong_26 : decode cX6_wrong 26 = .ok (.bipush 32, 2) := by decide +kernel
theorem dX6_wrong_28 : decode cX6_wrong 28 = .ok (.goto 21, 3) := by decide +kernel
theorem dX6_wrong_31 : decode cX6_wrong 31 = .ok (.aload_n 0, 1) := by decide +kernel
theorem dX6_wrong_32 : decode cX6_wrong 32 = .ok (.aload_n 0, 1) := by decide +kernel
theorem dX6_wrong_33 : decode cX6_wrong 33 = .ok (.getfield 7, 3) := by decide +kernel
theorem dX6_wrong_36 : decode cX6_wrong 36 = .ok (.iload_n 1, 1) := by decide +kernel
theorem dX6_wrong_37 : decode cX6_wrong 37 = .ok (.iconst 1, 1) := by decide +kernel
theorem dX6_wrong_38 : decode cX6_wrong 38 = .ok (.isub, 1) := by decide +kernel
theorem dX6_wrong_39 : decode cX6_wrong 39 = .ok (.iaload, 1) := by decide +kernel
theorem dX6_wrong_40 : decode cX6_wrong 40 = .ok (.aload_n 0, 1) := by decide +kernel
theorem dX6_wrong_41 : decode cX6_wrong 41 = .ok (.getfield 7, 3) := by decide +kernel
theorem dX6_wrong_44 : decode cX6_wrong 44 = .ok (.iload_n 1, 1) := by decide +kernel
theorem dX6_wrong_45 : decode cX6_wrong 45 = .ok (.iaload, 1) := by decide +kernel
theorem dX6_wrong_46 : decode cX6_wrong 46 = .ok (.invokevirtual 179, 3) := by decide +kernel
theorem dX6_wrong_49 : decode cX6_wrong 49 = .ok (.ireturn, 1) := by decide +kernel
theorem dX6_excuseAt_0 : decode cX6_excuseAt 0 = .ok (.aload_n 0, 1) := by decide +kernel
theorem dX6_excuseAt_1 : decode cX6_excuseAt 1 = .ok (.getfield 7, 3) := by decide +kernel
theorem dX6_excuseAt_4 : decode cX6_excuseAt 4 = .ok (.iload_n 1, 1) := by decide +kernel
theorem dX6_excuseAt_5 : decode cX6_excuseAt 5 = .ok (.iaload, 1) := by decide +kernel
theorem dX6_excuseAt_6 : decode cX6_excuseAt 6 = .ok (.istore_n 2, 1) := by decide +kernel
theorem dX6_excuseAt_7 : decode cX6_excuseAt 7 = .ok (.aload_n 0, 1) := by decide +kernel
theorem dX6_excuseAt_8 : decode cX6_excuseAt 8 = .ok (.getfield 7, 3) := by decide +kernel
theorem dX6_excuseAt_11 : decode cX6_excuseAt 11 = .ok (.iload_n 1, 1) := by decide +kernel
theorem dX6_excuseAt_12 : decode cX6_excuseAt 12 = .ok (.iconst 1, 1) := by decide +kernel
theorem dX6_excuseAt_13 : decode cX6_excuseAt 13 = .ok (.isub, 1) := by decide +kernel
theorem dX6_excuseAt_14 : decode cX6_excuseAt 14 = .ok (.iaload, 1) := by decide +kernel
theorem dX6_excuseAt_15 : decode cX6_excuseAt 15 = .ok (.istore_n 3, 1) := by decide +kernel
theorem dX6_excuseAt_16 : decode cX6_excuseAt 16 = .ok (.aload_n 0, 1) := by decide +kernel
theorem dX6_excuseAt_17 : decode cX6_excuseAt 17 = .ok (.getfield 51, 3) := by decide +kernel
theorem dX6_excuseAt_20 : decode cX6_excuseAt 20 = .ok (.iload_n 2, 1) := by decide +kernel
theorem dX6_excuseAt_21 : decode cX6_excuseAt 21 = .ok (.iaload, 1) := by decide +kernel
theorem dX6_excuseAt_22 : decode cX6_excuseAt 22 = .ok (.aload_n 0, 1) := by decide +kernel
theorem dX6_excuseAt_23 : decode cX6_excuseAt 23 = .ok (.getfield 23, 3) := by decide +kernel
theorem dX6_excuseAt_26 : decode cX6_excuseAt 26 = .ok (.iload_n 2, 1) := by decide +kernel
theorem dX6_excuseAt_27 : decode cX6_excuseAt 27 = .ok (.iaload, 1) := by decide +kernel
theorem dX6_excuseAt_28 : decode cX6_excuseAt 28 = .ok (.if_icmp .ne 32, 3) := by decide +kernel
theorem dX6_excuseAt_31 : decode cX6_excuseAt 31 = .ok (.aload_n 0, 1) := by decide +kernel
theorem dX6_excuseAt_32 : decode cX6_excuseAt 32 = .ok (.getfield 54, 3) := by decide +kernel
theorem dX6_excuseAt_35 : decode cX6_excuseAt 35 = .ok (.iload_n 2, 1) := by decide +kernel
theorem dX6_excuseAt_36 : decode cX6_excuseAt 36 = .ok (.iaload, 1) := by decide +kernel
theorem dX6_excuseAt_37 : decode cX6_excuseAt 37 = .ok (.iload_n 3, 1) := by decide +kernel
theorem dX6_excuseAt_38 : decode cX6_excuseAt 38 = .ok (.if_icmp .ne 22, 3) := by decide +kernel
theorem dX6_excuseAt_41 : decode cX6_excuseAt 41 = .ok (.aload_n 0, 1) := by decide +kernel
theorem dX6_excuseAt_42 : decode cX6_excuseAt 42 = .ok (.getfield 57, 3) := by decide +kernel
theorem dX6_excuseAt_45 : decode cX6_excuseAt 45 = .ok (.iload_n 2, 1) := by decide +kernel
theorem dX6_excuseAt_46 : decode cX6_excuseAt 46 = .ok (.iaload, 1) := by decide +kernel
theorem dX6_excuseAt_47 : decode cX6_excuseAt 47 = .ok (.aload_n 0, 1) := by decide +kernel
theorem dX6_excuseAt_48 : decode cX6_excuseAt 48 = .ok (.getfield 23, 3) := by decide +kernel
theorem dX6_excuseAt_51 : decode cX6_excuseAt 51 = .ok (.iload_n 3, 1) := by decide +kernel
theorem dX6_excuseAt_52 : decode cX6_excuseAt 52 = .ok (.iaload, 1) := by decide +kernel
theorem dX6_excuseAt_53 : decode cX6_excuseAt 53 = .ok (.if_icmp .ne 7, 3) := by decide +kernel
theorem dX6_excuseAt_56 : decode cX6_excuseAt 56 = .ok (.iconst 1, 1) := by decide +kernel
theorem dX6_excuseAt_57 : decode cX6_excuseAt 57 = .ok (.goto 4, 3) := by decide +kernel
theorem dX6_excuseAt_60 : decode cX6_excuseAt 60 = .ok (.iconst 0, 1) := by decide +kernel
theorem dX6_excuseAt_61 : decode cX6_excuseAt 61 = .ok (.istore 4, 2) := by decide +kernel
theorem dX6_excuseAt_63 : decode cX6_excuseAt 63 = .ok (.iload 4, 2) := by decide +kernel
theorem dX6_excuseAt_65 : decode cX6_excuseAt 65 = .ok (.ifCond .eq 12, 3) := by decide +kernel
theorem dX6_excuseAt_68 : decode cX6_excuseAt 68 = .ok (.aload_n 0, 1) := by decide +kernel
theorem dX6_excuseAt_69 : decode cX6_excuseAt 69 = .ok (.getfield 48, 3) := by decide +kernel
theorem dX6_excuseAt_72 : decode cX6_excuseAt 72 = .ok (.iload_n 2, 1) := by decide +kernel
theorem dX6_excuseAt_73 : decode cX6_excuseAt 73 = .ok (.caload, 1) := by decide +kernel
theorem dX6_excuseAt_74 : decode cX6_excuseAt 74 = .ok (.goto 5, 3) := by decide +kernel
theorem dX6_excuseAt_77 : decode cX6_excuseAt 77 = .ok (.bipush 45, 2) := by decide +kernel
theorem dX6_excuseAt_79 : decode cX6_excuseAt 79 = .ok (.ireturn, 1) := by decide +kernel
theorem dX6_isFault_0 : decode cX6_isFault 0 = .ok (.iload_n 0, 1) := by decide +kernel
theorem dX6_isFault_1 : decode cX6_isFault 1 = .ok (.bipush 120, 2) := by decide +kernel
theorem dX6_isFault_3 : decode cX6_isFault 3 = .ok (.if_icmp .eq 27, 3) := by decide +kernel
theorem dX6_isFault_6 : decode cX6_isFault 6 = .ok (.iload_n 0, 1) := by decide +kernel
theorem dX6_isFault_7 : decode cX6_isFault 7 = .ok (.bipush 106, 2) := by decide +kernel
theorem dX6_isFault_9 : decode cX6_isFault 9 = .ok (.if_icmp .eq 21, 3) := by decide +kernel
theorem dX6_isFault_12 : decode cX6_isFault 12 = .ok (.iload_n 0, 1) := by decide +kernel
theorem dX6_isFault_13 : decode cX6_isFault 13 = .ok (.bipush 103, 2) := by decide +kernel
theorem dX6_isFault_15 : decode cX6_isFault 15 = .ok (.if_icmp .eq 15, 3) := by decide +kernel
theorem dX6_isFault_18 : decode cX6_isFault 18 = .ok (.iload_n 0, 1) := by decide +kernel
theorem dX6_isFault_19 : decode cX6_isFault 19 = .ok (.bipush 101, 2) := by decide +kernel
theorem dX6_isFault_21 : decode cX6_isFault 21 = .ok (.if_icmp .eq 9, 3) := by decide +kernel
theorem dX6_isFault_24 : decode cX6_isFault 24 = .ok (.iload_n 0, 1) := by decide +kernel
theorem dX6_isFault_25 : decode cX6_isFault 25 = .ok (.bipush 109, 2) := by decide +kernel
theorem dX6_isFault_27 : decode cX6_isFault 27 = .ok (.if_icmp .ne 7, 3) := by decide +kernel
theorem dX6_isFault_30 : decode cX6_isFault 30 = .ok (.iconst 1, 1) := by decide +kernel
theorem dX6_isFault_31 : decode cX6_isFault 31 = .ok (.goto 4, 3) := by decide +kernel
theorem dX6_isFault_34 : decode cX6_isFault 34 = .ok (.iconst 0, 1) := by decide +kernel
theorem dX6_isFault_35 : decode cX6_isFault 35 = .ok (.ireturn, 1) := by decide +kernel
theorem dX6_excuse_0 : decode cX6_excuse 0 = .ok (.aload_n 0, 1) := by decide +kernel
theorem dX6_excuse_1 : decode cX6_excuse 1 = .ok (.iload_n 2, 1) := by decide +kernel
theorem dX6_excuse_2 : decode cX6_excuse 2 = .ok (.invokestatic 183, 3) := by decide +kernel
theorem dX6_excuse_5 : decode cX6_excuse 5 = .ok (.ifCond .ne 7, 3) := by decide +kernel
theorem dX6_excuse_8 : decode cX6_excuse 8 = .ok (.iconst 1, 1) := by decide +kernel
theorem dX6_excuse_9 : decode cX6_excuse 9 = .ok (.goto 22, 3) := by decide +kernel
theorem dX6_excuse_12 : decode cX6_excuse 12 = .ok (.iload_n 1, 1) := by decide +kernel
theorem dX6_excuse_13 : decode cX6_excuse 13 = .ok (.iconst 1, 1) := by decide +kernel
theorem dX6_excuse_14 : decode cX6_excuse 14 = .ok (.aload_n 0, 1) := by decide +kernel
theorem dX6_excuse_15 : decode cX6_excuse 15 = .ok (.getfield 95, 3) := by decide +kernel
theorem dX6_excuse_18 : decode cX6_excuse 18 = .ok (.iconst 1, 1) := by decide +kernel
theorem dX6_excuse_19 : decode cX6_excuse 19 = .ok (.isub, 1) := by decide +kernel
theorem dX6_excuse_20 : decode cX6_excuse 20 = .ok (.invokestatic 91, 3) := by decide +kernel
theorem dX6_excuse_23 : decode cX6_excuse 23 = .ok (.ifCond .eq 7, 3) := by decide +kernel
theorem dX6_excuse_26 : decode cX6_excuse 26 = .ok (.iconst 0, 1) := by decide +kernel
theorem dX6_excuse_27 : decode cX6_excuse 27 = .ok (.goto 4, 3) := by decide +kernel
theorem dX6_excuse_30 : decode cX6_excuse 30 = .ok (.iconst 2, 1) := by decide +kernel
theorem dX6_excuse_31 : decode cX6_excuse 31 = .ok (.invokevirtual 102, 3) := by decide +kernel
theorem dX6_excuse_34 : decode cX6_excuse 34 = .ok (.ifCond .eq 6, 3) := by decide +kernel
theorem dX6_excuse_37 : decode cX6_excuse 37 = .ok (.bipush 32, 2) := by decide +kernel
theorem dX6_excuse_39 : decode cX6_excuse 39 = .ok (.ireturn, 1) := by decide +kernel
theorem dX6_excuse_40 : decode cX6_excuse 40 = .ok (.aload_n 0, 1) := by decide +kernel
theorem dX6_excuse_41 : decode cX6_excuse 41 = .ok (.iload_n 1, 1) := by decide +kernel
theorem dX6_excuse_42 : decode cX6_excuse 42 = .ok (.invokevirtual 186, 3) := by decide +kernel
theorem dX6_excuse_45 : decode cX6_excuse 45 = .ok (.istore_n 3, 1) := by decide +kernel
theorem dX6_excuse_46 : decode cX6_excuse 46 = .ok (.aload_n 0, 1) := by decide +kernel
theorem dX6_excuse_47 : decode cX6_excuse 47 = .ok (.getfield 7, 3) := by decide +kernel
theorem dX6_excuse_50 : decode cX6_excuse 50 = .ok (.iload_n 1, 1) := by decide +kernel
theorem dX6_excuse_51 : decode cX6_excuse 51 = .ok (.iaload, 1) := by decide +kernel
theorem dX6_excuse_52 : decode cX6_excuse 52 = .ok (.istore 4, 2) := by decide +kernel
theorem dX6_excuse_54 : decode cX6_excuse 54 = .ok (.aload_n 0, 1) := by decide +kernel
theorem dX6_excuse_55 : decode cX6_excuse 55 = .ok (.getfield 48, 3) := by decide +kernel
theorem dX6_excuse_58 : decode cX6_excuse 58 = .ok (.iload 4, 2) := by decide +kernel
theorem dX6_excuse_60 : decode cX6_excuse 60 = .ok (.iload_n 2, 1) := by decide +kernel
theorem dX6_excuse_61 : decode cX6_excuse 61 = .ok (.castore, 1) := by decide +kernel
theorem dX6_excuse_62 : decode cX6_excuse 62 = .ok (.aload_n 0, 1) := by decide +kernel
theorem dX6_excuse_63 : decode cX6_excuse 63 = .ok (.getfield 51, 3) := by decide +kernel
theorem dX6_excuse_66 : decode cX6_excuse 66 = .ok (.iload 4, 2) := by decide +kernel
theorem dX6_excuse_68 : decode cX6_excuse 68 = .ok (.aload_n 0, 1) := by decide +kernel
theorem dX6_excuse_69 : decode cX6_excuse 69 = .ok (.getfield 23, 3) := by decide +kernel
theorem dX6_excuse_72 : decode cX6_excuse 72 = .ok (.iload 4, 2) := by decide +kernel
theorem dX6_excuse_74 : decode cX6_excuse 74 = .ok (.iaload, 1) := by decide +kernel
theorem dX6_excuse_75 : decode cX6_excuse 75 = .ok (.iastore, 1) := by decide +kernel
theorem dX6_excuse_76 : decode cX6_excuse 76 = .ok (.aload_n 0, 1) := by decide +kernel
theorem dX6_excuse_77 : decode cX6_excuse 77 = .ok (.getfield 54, 3) := by decide +kernel
theorem dX6_excuse_80 : decode cX6_excuse 80 = .ok (.iload 4, 2) := by decide +kernel
theorem dX6_excuse_82 : decode cX6_excuse 82 = .ok (.aload_n 0, 1) := by decide +kernel
theorem dX6_excuse_83 : decode cX6_excuse 83 = .ok (.getfield 7, 3) := by decide +kernel
theorem dX6_excuse_86 : decode cX6_excuse 86 = .ok (.iload_n 1, 1) := by decide +kernel
theorem dX6_excuse_87 : decode cX6_excuse 87 = .ok (.iconst 1, 1) := by decide +kernel
theorem dX6_excuse_88 : decode cX6_excuse 88 = .ok (.isub, 1) := by decide +kernel
theorem dX6_excuse_89 : decode cX6_excuse 89 = .ok (.iaload, 1) := by decide +kernel
theorem dX6_excuse_90 : decode cX6_excuse 90 = .ok (.iastore, 1) := by decide +kernel
theorem dX6_excuse_91 : decode cX6_excuse 91 = .ok (.aload_n 0, 1) := by decide +kernel
theorem dX6_excuse_92 : decode cX6_excuse 92 = .ok (.getfield 57, 3) := by decide +kernel
theorem dX6_excuse_95 : decode cX6_excuse 95 = .ok (.iload 4, 2) := by decide +kernel
theorem dX6_excuse_97 : decode cX6_excuse 97 = .ok (.aload_n 0, 1) := by decide +kernel
theorem dX6_excuse_98 : decode cX6_excuse 98 = .ok (.getfield 23, 3) := by decide +kernel
theorem dX6_excuse_101 : decode cX6_excuse 101 = .ok (.aload_n 0, 1) := by decide +kernel
theorem dX6_excuse_102 : decode cX6_excuse 102 = .ok (.getfield 7, 3) := by decide +kernel
theorem dX6_excuse_105 : decode cX6_excuse 105 = .ok (.iload_n 1, 1) := by decide +kernel
theorem dX6_excuse_106 : decode cX6_excuse 106 = .ok (.iconst 1, 1) := by decide +kernel
theorem dX6_excuse_107 : decode cX6_excuse 107 = .ok (.isub, 1) := by decide +kernel
theorem dX6_excuse_108 : decode cX6_excuse 108 = .ok (.iaload, 1) := by decide +kernel
theorem dX6_excuse_109 : decode cX6_excuse 109 = .ok (.iaload, 1) := by decide +kernel
theorem dX6_excuse_110 : decode cX6_excuse 110 = .ok (.iastore, 1) := by decide +kernel
theorem dX6_excuse_111 : decode cX6_excuse 111 = .ok (.iload_n 3, 1) := by decide +kernel
theorem dX6_excuse_112 : decode cX6_excuse 112 = .ok (.ireturn, 1) := by decide +kernel
theorem dX6_isBrokenAt_0 : decode cX6_isBrokenAt 0 = .ok (.aload_n 0, 1) := by decide +kernel
theorem dX6_isBrokenAt_1 : decode cX6_isBrokenAt 1 = .ok (.aload_n 0, 1) := by decide +kernel
theorem dX6_isBrokenAt_2 : decode cX6_isBrokenAt 2 = .ok (.getfield 7, 3) := by decide +kernel
theorem dX6_isBrokenAt_5 : decode cX6_isBrokenAt 5 = .ok (.iload_n 1, 1) := by decide +kernel
theorem dX6_isBrokenAt_6 : decode cX6_isBrokenAt 6 = .ok (.iconst 1, 1) := by decide +kernel
theorem dX6_isBrokenAt_7 : decode cX6_isBrokenAt 7 = .ok (.isub, 1) := by decide +kernel
theorem dX6_isBrokenAt_8 : decode cX6_isBrokenAt 8 = .ok (.iaload, 1) := by decide +kernel
theorem dX6_isBrokenAt_9 : decode cX6_isBrokenAt 9 = .ok (.aload_n 0, 1) := by decide +kernel
theorem dX6_isBrokenAt_10 : decode cX6_isBrokenAt 10 = .ok (.getfield 7, 3) := by decide +kernel
theorem dX6_isBrokenAt_13 : decode cX6_isBrokenAt 13 = .ok (.iload_n 1, 1) := by decide +kernel
theorem dX6_isBrokenAt_14 : decode cX6_isBrokenAt 14 = .ok (.iaload, 1) := by decide +kernel
theorem dX6_isBrokenAt_15 : decode cX6_isBrokenAt 15 = .ok (.invokevirtual 179, 3) := by decide +kernel
theorem dX6_isBrokenAt_18 : decode cX6_isBrokenAt 18 = .ok (.istore_n 2, 1) := by decide +kernel
theorem dX6_isBrokenAt_19 : decode cX6_isBrokenAt 19 = .ok (.iload_n 2, 1) := by decide +kernel
theorem dX6_isBrokenAt_20 : decode cX6_isBrokenAt 20 = .ok (.bipush 45, 2) := by decide +kernel
theorem dX6_isBrokenAt_22 : decode cX6_isBrokenAt 22 = .ok (.if_icmp .eq 16, 3) := by decide +kernel
theorem dX6_isBrokenAt_25 : decode cX6_isBrokenAt 25 = .ok (.aload_n 0, 1) := by decide +kernel
theorem dX6_isBrokenAt_26 : decode cX6_isBrokenAt 26 = .ok (.iload_n 1, 1) := by decide +kernel
theorem dX6_isBrokenAt_27 : decode cX6_isBrokenAt 27 = .ok (.invokevirtual 186, 3) := by decide +kernel
theorem dX6_isBrokenAt_30 : decode cX6_isBrokenAt 30 = .ok (.iload_n 2, 1) := by decide +kernel
theorem dX6_isBrokenAt_31 : decode cX6_isBrokenAt 31 = .ok (.if_icmp .eq 7, 3) := by decide +kernel
theorem dX6_isBrokenAt_34 : decode cX6_isBrokenAt 34 = .ok (.iconst 1, 1) := by decide +kernel
theorem dX6_isBrokenAt_35 : decode cX6_isBrokenAt 35 = .ok (.goto 4, 3) := by decide +kernel
theorem dX6_isBrokenAt_38 : decode cX6_isBrokenAt 38 = .ok (.iconst 0, 1) := by decide +kernel
theorem dX6_isBrokenAt_39 : decode cX6_isBrokenAt 39 = .ok (.ireturn, 1) := by decide +kernel
theorem dX6_isBroken_0 : decode cX6_isBroken 0 = .ok (.aload_n 0, 1) := by decide +kernel
theorem dX6_isBroken_1 : decode cX6_isBroken 1 = .ok (.iload_n 1, 1) := by decide +kernel
theorem dX6_isBroken_2 : decode cX6_isBroken 2 = .ok (.iconst 1, 1) := by decide +kernel
theorem dX6_isBroken_3 : decode cX6_isBroken 3 = .ok (.aload_n 0, 1) := by decide +kernel
theorem dX6_isBroken_4 : decode cX6_isBroken 4 = .ok (.getfield 95, 3) := by decide +kernel
theorem dX6_isBroken_7 : decode cX6_isBroken 7 = .ok (.iconst 1, 1) := by decide +kernel
theorem dX6_isBroken_8 : decode cX6_isBroken 8 = .ok (.isub, 1) := by decide +kernel
theorem dX6_isBroken_9 : decode cX6_isBroken 9 = .ok (.invokestatic 91, 3) := by decide +kernel
theorem dX6_isBroken_12 : decode cX6_isBroken 12 = .ok (.ifCond .eq 7, 3) := by decide +kernel
theorem dX6_isBroken_15 : decode cX6_isBroken 15 = .ok (.iconst 0, 1) := by decide +kernel
theorem dX6_isBroken_16 : decode cX6_isBroken 16 = .ok (.goto 4, 3) := by decide +kernel
theorem dX6_isBroken_19 : decode cX6_isBroken 19 = .ok (.iconst 1, 1) := by decide +kernel
theorem dX6_isBroken_20 : decode cX6_isBroken 20 = .ok (.invokevirtual 102, 3) := by decide +kernel
theorem dX6_isBroken_23 : decode cX6_isBroken 23 = .ok (.ifCond .ne 15, 3) := by decide +kernel
theorem dX6_isBroken_26 : decode cX6_isBroken 26 = .ok (.aload_n 0, 1) := by decide +kernel
theorem dX6_isBroken_27 : decode cX6_isBroken 27 = .ok (.iload_n 1, 1) := by decide +kernel
theorem dX6_isBroken_28 : decode cX6_isBroken 28 = .ok (.invokevirtual 189, 3) := by decide +kernel
theorem dX6_isBroken_31 : decode cX6_isBroken 31 = .ok (.ifCond .eq 7, 3) := by decide +kernel
theorem dX6_isBroken_34 : decode cX6_isBroken 34 = .ok (.iconst 1, 1) := by decide +kernel
theorem dX6_isBroken_35 : decode cX6_isBroken 35 = .ok (.goto 4, 3) := by decide +kernel
theorem dX6_isBroken_38 : decode cX6_isBroken 38 = .ok (.iconst 0, 1) := by decide +kernel
theorem dX6_isBroken_39 : decode cX6_isBroken 39 = .ok (.ireturn, 1) := by decide +kernel
theorem dX6_countBroken_0 : decode cX6_countBroken 0 = .ok (.iconst 0, 1) := by decide +kernel
theorem dX6_countBroken_1 : decode cX6_countBroken 1 = .ok (.istore_n 1, 1) := by decide +kernel
theorem dX6_countBroken_2 : decode cX6_countBroken 2 = .ok (.iconst 1, 1) := by decide +kernel
theorem dX6_countBroken_3 : decode cX6_countBroken 3 = .ok (.istore_n 2, 1) := by decide +kernel
theorem dX6_countBroken_4 : decode cX6_countBroken 4 = .ok (.iload_n 2, 1) := by decide +kernel
theorem dX6_countBroken_5 : decode cX6_countBroken 5 = .ok (.aload_n 0, 1) := by decide +kernel
theorem dX6_countBroken_6 : decode cX6_countBroken 6 = .ok (.getfield 95, 3) := by decide +kernel
theorem dX6_countBroken_9 : decode cX6_countBroken 9 = .ok (.if_icmp .ge 25, 3) := by decide +kernel
theorem dX6_countBroken_12 : decode cX6_countBroken 12 = .ok (.aload_n 0, 1) := by decide +kernel
theorem dX6_countBroken_13 : decode cX6_countBroken 13 = .ok (.iload_n 2, 1) := by decide +kernel
theorem dX6_countBroken_14 : decode cX6_countBroken 14 = .ok (.invokevirtual 189, 3) := by decide +kernel
theorem dX6_countBroken_17 : decode cX6_countBroken 17 = .ok (.ifCond .eq 9, 3) := by decide +kernel
theorem dX6_countBroken_20 : decode cX6_countBroken 20 = .ok (.iload_n 1, 1) := by decide +kernel
theorem dX6_countBroken_21 : decode cX6_countBroken 21 = .ok (.iconst 1, 1) := by decide +kernel
theorem dX6_countBroken_22 : decode cX6_countBroken 22 = .ok (.iadd, 1) := by decide +kernel
theorem dX6_countBroken_23 : decode cX6_countBroken 23 = .ok (.goto 4, 3) := by decide +kernel
theorem dX6_countBroken_26 : decode cX6_countBroken 26 = .ok (.iload_n 1, 1) := by decide +kernel
theorem dX6_countBroken_27 : decode cX6_countBroken 27 = .ok (.istore_n 1, 1) := by decide +kernel
theorem dX6_countBroken_28 : decode cX6_countBroken 28 = .ok (.iinc 2 1, 3) := by decide +kernel
theorem dX6_countBroken_31 : decode cX6_countBroken 31 = .ok (.goto (-27), 3) := by decide +kernel
theorem dX6_countBroken_34 : decode cX6_countBroken 34 = .ok (.iload_n 1, 1) := by decide +kernel
theorem dX6_countBroken_35 : decode cX6_countBroken 35 = .ok (.ireturn, 1) := by decide +kernel
theorem dX6_broken_0 : decode cX6_broken 0 = .ok (.aload_n 0, 1) := by decide +kernel
theorem dX6_broken_1 : decode cX6_broken 1 = .ok (.iconst 0, 1) := by decide +kernel
theorem dX6_broken_2 : decode cX6_broken 2 = .ok (.putfield 84, 3) := by decide +kernel
theorem dX6_broken_5 : decode cX6_broken 5 = .ok (.aload_n 0, 1) := by decide +kernel
theorem dX6_broken_6 : decode cX6_broken 6 = .ok (.invokevirtual 192, 3) := by decide +kernel
theorem dX6_broken_9 : decode cX6_broken 9 = .ok (.ireturn, 1) := by decide +kernel
theorem dX6_hand_0 : decode cX6_hand 0 = .ok (.aload_n 0, 1) := by decide +kernel
theorem dX6_hand_1 : decode cX6_hand 1 = .ok (.aload_n 0, 1) := by decide +kernel
theorem dX6_hand_2 : decode cX6_hand 2 = .ok (.iload_n 1, 1) := by decide +kernel
theorem dX6_hand_3 : decode cX6_hand 3 = .ok (.invokevirtual 118, 3) := by decide +kernel
theorem dX6_hand_6 : decode cX6_hand 6 = .ok (.ifCond .ne 7, 3) := by decide +kernel
theorem dX6_hand_9 : decode cX6_hand 9 = .ok (.iconst 1, 1) := by decide +kernel
theorem dX6_hand_10 : decode cX6_hand 10 = .ok (.goto 39, 3) := by decide +kernel
theorem dX6_hand_13 : decode cX6_hand 13 = .ok (.iload_n 2, 1) := by decide +kernel
theorem dX6_hand_14 : decode cX6_hand 14 = .ok (.iconst 0, 1) := by decide +kernel
theorem dX6_hand_15 : decode cX6_hand 15 = .ok (.iconst 3, 1) := by decide +kernel
theorem dX6_hand_16 : decode cX6_hand 16 = .ok (.invokestatic 91, 3) := by decide +kernel
theorem dX6_hand_19 : decode cX6_hand 19 = .ok (.ifCond .ne 7, 3) := by decide +kernel
theorem dX6_hand_22 : decode cX6_hand 22 = .ok (.iconst 2, 1) := by decide +kernel
theorem dX6_hand_23 : decode cX6_hand 23 = .ok (.goto 26, 3) := by decide +kernel
theorem dX6_hand_26 : decode cX6_hand 26 = .ok (.aload_n 0, 1) := by decide +kernel
theorem dX6_hand_27 : decode cX6_hand 27 = .ok (.iload_n 1, 1) := by decide +kernel
theorem dX6_hand_28 : decode cX6_hand 28 = .ok (.invokevirtual 121, 3) := by decide +kernel
theorem dX6_hand_31 : decode cX6_hand 31 = .ok (.ifCond .lt 13, 3) := by decide +kernel
theorem dX6_hand_34 : decode cX6_hand 34 = .ok (.aload_n 0, 1) := by decide +kernel
theorem dX6_hand_35 : decode cX6_hand 35 = .ok (.getfield 60, 3) := by decide +kernel
theorem dX6_hand_38 : decode cX6_hand 38 = .ok (.iload_n 1, 1) := by decide +kernel
theorem dX6_hand_39 : decode cX6_hand 39 = .ok (.iaload, 1) := by decide +kernel
theorem dX6_hand_40 : decode cX6_hand 40 = .ok (.iconst (-1), 1) := by decide +kernel
theorem dX6_hand_41 : decode cX6_hand 41 = .ok (.if_icmp .eq 7, 3) := by decide +kernel
theorem dX6_hand_44 : decode cX6_hand 44 = .ok (.iconst 3, 1) := by decide +kernel
theorem dX6_hand_45 : decode cX6_hand 45 = .ok (.goto 4, 3) := by decide +kernel
theorem dX6_hand_48 : decode cX6_hand 48 = .ok (.iconst 0, 1) := by decide +kernel
theorem dX6_hand_49 : decode cX6_hand 49 = .ok (.invokevirtual 102, 3) := by decide +kernel
theorem dX6_hand_52 : decode cX6_hand 52 = .ok (.ifCond .eq 5, 3) := by decide +kernel
theorem dX6_hand_55 : decode cX6_hand 55 = .ok (.iconst 0, 1) := by decide +kernel
theorem dX6_hand_56 : decode cX6_hand 56 = .ok (.ireturn, 1) := by decide +kernel
theorem dX6_hand_57 : decode cX6_hand 57 = .ok (.aload_n 0, 1) := by decide +kernel
theorem dX6_hand_58 : decode cX6_hand 58 = .ok (.getfield 60, 3) := by decide +kernel
theorem dX6_hand_61 : decode cX6_hand 61 = .ok (.iload_n 1, 1) := by decide +kernel
theorem dX6_hand_62 : decode cX6_hand 62 = .ok (.iload_n 2, 1) := by decide +kernel
theorem dX6_hand_63 : decode cX6_hand 63 = .ok (.iastore, 1) := by decide +kernel
theorem dX6_hand_64 : decode cX6_hand 64 = .ok (.aload_n 0, 1) := by decide +kernel
theorem dX6_hand_65 : decode cX6_hand 65 = .ok (.getfield 63, 3) := by decide +kernel
theorem dX6_hand_68 : decode cX6_hand 68 = .ok (.iload_n 1, 1) := by decide +kernel
theorem dX6_hand_69 : decode cX6_hand 69 = .ok (.aload_n 0, 1) := by decide +kernel
theorem dX6_hand_70 : decode cX6_hand 70 = .ok (.getfield 23, 3) := by decide +kernel
theorem dX6_hand_73 : decode cX6_hand 73 = .ok (.iload_n 1, 1) := by decide +kernel
theorem dX6_hand_74 : decode cX6_hand 74 = .ok (.iaload, 1) := by decide +kernel
theorem dX6_hand_75 : decode cX6_hand 75 = .ok (.iastore, 1) := by decide +kernel
theorem dX6_hand_76 : decode cX6_hand 76 = .ok (.iconst 0, 1) := by decide +kernel
theorem dX6_hand_77 : decode cX6_hand 77 = .ok (.istore_n 3, 1) := by decide +kernel
theorem dX6_hand_78 : decode cX6_hand 78 = .ok (.iconst 0, 1) := by decide +kernel
theorem dX6_hand_79 : decode cX6_hand 79 = .ok (.istore 4, 2) := by decide +kernel
theorem dX6_hand_81 : decode cX6_hand 81 = .ok (.iload 4, 2) := by decide +kernel
theorem dX6_hand_83 : decode cX6_hand 83 = .ok (.aload_n 0, 1) := by decide +kernel
theorem dX6_hand_84 : decode cX6_hand 84 = .ok (.getfield 88, 3) := by decide +kernel
theorem dX6_hand_87 : decode cX6_hand 87 = .ok (.if_icmp .ge 28, 3) := by decide +kernel
theorem dX6_hand_90 : decode cX6_hand 90 = .ok (.aload_n 0, 1) := by decide +kernel
theorem dX6_hand_91 : decode cX6_hand 91 = .ok (.getfield 60, 3) := by decide +kernel
theorem dX6_hand_94 : decode cX6_hand 94 = .ok (.iload 4, 2) := by decide +kernel
theorem dX6_hand_96 : decode cX6_hand 96 = .ok (.iaload, 1) := by decide +kernel
theorem dX6_hand_97 : decode cX6_hand 97 = .ok (.iload_n 2, 1) := by decide +kernel
theorem dX6_hand_98 : decode cX6_hand 98 = .ok (.if_icmp .ne 9, 3) := by decide +kernel
theorem dX6_hand_101 : decode cX6_hand 101 = .ok (.iload_n 3, 1) := by decide +kernel
theorem dX6_hand_102 : decode cX6_hand 102 = .ok (.iconst 1, 1) := by decide +kernel
theorem dX6_hand_103 : decode cX6_hand 103 = .ok (.iadd, 1) := by decide +kernel
theorem dX6_hand_104 : decode cX6_hand 104 = .ok (.goto 4, 3) := by decide +kernel
theorem dX6_hand_107 : decode cX6_hand 107 = .ok (.iload_n 3, 1) := by decide +kernel
theorem dX6_hand_108 : decode cX6_hand 108 = .ok (.istore_n 3, 1) := by decide +kernel
theorem dX6_hand_109 : decode cX6_hand 109 = .ok (.iinc 4 1, 3) := by decide +kernel
theorem dX6_hand_112 : decode cX6_hand 112 = .ok (.goto (-31), 3) := by decide +kernel
theorem dX6_hand_115 : decode cX6_hand 115 = .ok (.iload_n 3, 1) := by decide +kernel
theorem dX6_hand_116 : decode cX6_hand 116 = .ok (.ireturn, 1) := by decide +kernel
theorem dX6_bring_0 : decode cX6_bring 0 = .ok (.aload_n 0, 1) := by decide +kernel
theorem dX6_bring_1 : decode cX6_bring 1 = .ok (.aload_n 0, 1) := by decide +kernel
theorem dX6_bring_2 : decode cX6_bring 2 = .ok (.iload_n 1, 1) := by decide +kernel
theorem dX6_bring_3 : decode cX6_bring 3 = .ok (.invokevirtual 118, 3) := by decide +kernel
theorem dX6_bring_6 : decode cX6_bring 6 = .ok (.ifCond .ne 7, 3) := by decide +kernel
theorem dX6_bring_9 : decode cX6_bring 9 = .ok (.iconst 1, 1) := by decide +kernel
theorem dX6_bring_10 : decode cX6_bring 10 = .ok (.goto 33, 3) := by decide +kernel
theorem dX6_bring_13 : decode cX6_bring 13 = .ok (.iload_n 2, 1) := by decide +kernel
theorem dX6_bring_14 : decode cX6_bring 14 = .ok (.iconst 1, 1) := by decide +kernel
theorem dX6_bring_15 : decode cX6_bring 15 = .ok (.sipush 240, 3) := by decide +kernel
theorem dX6_bring_18 : decode cX6_bring 18 = .ok (.invokestatic 91, 3) := by decide +kernel
theorem dX6_bring_21 : decode cX6_bring 21 = .ok (.ifCond .ne 7, 3) := by decide +kernel
theorem dX6_bring_24 : decode cX6_bring 24 = .ok (.iconst 2, 1) := by decide +kernel
theorem dX6_bring_25 : decode cX6_bring 25 = .ok (.goto 18, 3) := by decide +kernel
theorem dX6_bring_28 : decode cX6_bring 28 = .ok (.aload_n 0, 1) := by decide +kernel
theorem dX6_bring_29 : decode cX6_bring 29 = .ok (.getfield 60, 3) := by decide +kernel
theorem dX6_bring_32 : decode cX6_bring 32 = .ok (.iload_n 1, 1) := by decide +kernel
theorem dX6_bring_33 : decode cX6_bring 33 = .ok (.iaload, 1) := by decide +kernel
theorem dX6_bring_34 : decode cX6_bring 34 = .ok (.iconst (-1), 1) := by decide +kernel
theorem dX6_bring_35 : decode cX6_bring 35 = .ok (.if_icmp .ne 7, 3) := by decide +kernel
theorem dX6_bring_38 : decode cX6_bring 38 = .ok (.iconst 3, 1) := by decide +kernel
theorem dX6_bring_39 : decode cX6_bring 39 = .ok (.goto 4, 3) := by decide +kernel
theorem dX6_bring_42 : decode cX6_bring 42 = .ok (.iconst 0, 1) := by decide +kernel
theorem dX6_bring_43 : decode cX6_bring 43 = .ok (.invokevirtual 102, 3) := by decide +kernel
theorem dX6_bring_46 : decode cX6_bring 46 = .ok (.ifCond .eq 5, 3) := by decide +kernel
theorem dX6_bring_49 : decode cX6_bring 49 = .ok (.iconst 0, 1) := by decide +kernel
theorem dX6_bring_50 : decode cX6_bring 50 = .ok (.ireturn, 1) := by decide +kernel
theorem dX6_bring_51 : decode cX6_bring 51 = .ok (.aload_n 0, 1) := by decide +kernel
theorem dX6_bring_52 : decode cX6_bring 52 = .ok (.getfield 63, 3) := by decide +kernel
theorem dX6_bring_55 : decode cX6_bring 55 = .ok (.iload_n 1, 1) := by decide +kernel
theorem dX6_bring_56 : decode cX6_bring 56 = .ok (.iaload, 1) := by decide +kernel
theorem dX6_bring_57 : decode cX6_bring 57 = .ok (.aload_n 0, 1) := by decide +kernel
theorem dX6_bring_58 : decode cX6_bring 58 = .ok (.getfield 23, 3) := by decide +kernel
theorem dX6_bring_61 : decode cX6_bring 61 = .ok (.iload_n 1, 1) := by decide +kernel
theorem dX6_bring_62 : decode cX6_bring 62 = .ok (.iaload, 1) := by decide +kernel
theorem dX6_bring_63 : decode cX6_bring 63 = .ok (.if_icmp .ne 7, 3) := by decide +kernel
theorem dX6_bring_66 : decode cX6_bring 66 = .ok (.iconst 1, 1) := by decide +kernel
theorem dX6_bring_67 : decode cX6_bring 67 = .ok (.goto 4, 3) := by decide +kernel
theorem dX6_bring_70 : decode cX6_bring 70 = .ok (.iconst 0, 1) := by decide +kernel
theorem dX6_bring_71 : decode cX6_bring 71 = .ok (.istore_n 3, 1) := by decide +kernel
theorem dX6_bring_72 : decode cX6_bring 72 = .ok (.aload_n 0, 1) := by decide +kernel
theorem dX6_bring_73 : decode cX6_bring 73 = .ok (.getfield 60, 3) := by decide +kernel
theorem dX6_bring_76 : decode cX6_bring 76 = .ok (.iload_n 1, 1) := by decide +kernel
theorem dX6_bring_77 : decode cX6_bring 77 = .ok (.iconst (-1), 1) := by decide +kernel
theorem dX6_bring_78 : decode cX6_bring 78 = .ok (.iastore, 1) := by decide +kernel
theorem dX6_bring_79 : decode cX6_bring 79 = .ok (.aload_n 0, 1) := by decide +kernel
theorem dX6_bring_80 : decode cX6_bring 80 = .ok (.iload_n 3, 1) := by decide +kernel
theorem dX6_bring_81 : decode cX6_bring 81 = .ok (.ifCond .eq 10, 3) := by decide +kernel
theorem dX6_bring_84 : decode cX6_bring 84 = .ok (.aload_n 0, 1) := by decide +kernel
theorem dX6_bring_85 : decode cX6_bring 85 = .ok (.getfield 196, 3) := by decide +kernel
theorem dX6_bring_88 : decode cX6_bring 88 = .ok (.goto 9, 3) := by decide +kernel
theorem dX6_bring_91 : decode cX6_bring 91 = .ok (.aload_n 0, 1) := by decide +kernel
theorem dX6_bring_92 : decode cX6_bring 92 = .ok (.getfield 196, 3) := by decide +kernel
theorem dX6_bring_95 : decode cX6_bring 95 = .ok (.iconst 1, 1) := by decide +kernel
theorem dX6_bring_96 : decode cX6_bring 96 = .ok (.iadd, 1) := by decide +kernel
theorem dX6_bring_97 : decode cX6_bring 97 = .ok (.putfield 196, 3) := by decide +kernel
theorem dX6_bring_100 : decode cX6_bring 100 = .ok (.aload_n 0, 1) := by decide +kernel
theorem dX6_bring_101 : decode cX6_bring 101 = .ok (.iload_n 1, 1) := by decide +kernel
theorem dX6_bring_102 : decode cX6_bring 102 = .ok (.iload_n 3, 1) := by decide +kernel
theorem dX6_bring_103 : decode cX6_bring 103 = .ok (.ifCond .eq 17, 3) := by decide +kernel
theorem dX6_bring_106 : decode cX6_bring 106 = .ok (.aload_n 0, 1) := by decide +kernel
theorem dX6_bring_107 : decode cX6_bring 107 = .ok (.getfield 20, 3) := by decide +kernel
theorem dX6_bring_110 : decode cX6_bring 110 = .ok (.iload_n 1, 1) := by decide +kernel
theorem dX6_bring_111 : decode cX6_bring 111 = .ok (.iaload, 1) := by decide +kernel
theorem dX6_bring_112 : decode cX6_bring 112 = .ok (.iload_n 2, 1) := by decide +kernel
theorem dX6_bring_113 : decode cX6_bring 113 = .ok (.if_icmp .eq 7, 3) := by decide +kernel
theorem dX6_bring_116 : decode cX6_bring 116 = .ok (.iconst 1, 1) := by decide +kernel
theorem dX6_bring_117 : decode cX6_bring 117 = .ok (.goto 4, 3) := by decide +kernel
theorem dX6_bring_120 : decode cX6_bring 120 = .ok (.iconst 0, 1) := by decide +kernel
theorem dX6_bring_121 : decode cX6_bring 121 = .ok (.invokevirtual 129, 3) := by decide +kernel
theorem dX6_bring_124 : decode cX6_bring 124 = .ok (.aload_n 0, 1) := by decide +kernel
theorem dX6_bring_125 : decode cX6_bring 125 = .ok (.getfield 20, 3) := by decide +kernel
theorem dX6_bring_128 : decode cX6_bring 128 = .ok (.iload_n 1, 1) := by decide +kernel
theorem dX6_bring_129 : decode cX6_bring 129 = .ok (.iload_n 3, 1) := by decide +kernel
theorem dX6_bring_130 : decode cX6_bring 130 = .ok (.ifCond .eq 7, 3) := by decide +kernel
theorem dX6_bring_133 : decode cX6_bring 133 = .ok (.iload_n 2, 1) := by decide +kernel
theorem dX6_bring_134 : decode cX6_bring 134 = .ok (.goto 9, 3) := by decide +kernel
theorem dX6_bring_137 : decode cX6_bring 137 = .ok (.aload_n 0, 1) := by decide +kernel
theorem dX6_bring_138 : decode cX6_bring 138 = .ok (.getfield 20, 3) := by decide +kernel
theorem dX6_bring_141 : decode cX6_bring 141 = .ok (.iload_n 1, 1) := by decide +kernel
theorem dX6_bring_142 : decode cX6_bring 142 = .ok (.iaload, 1) := by decide +kernel
theorem dX6_bring_143 : decode cX6_bring 143 = .ok (.iastore, 1) := by decide +kernel
theorem dX6_bring_144 : decode cX6_bring 144 = .ok (.iload_n 3, 1) := by decide +kernel
theorem dX6_bring_145 : decode cX6_bring 145 = .ok (.ireturn, 1) := by decide +kernel
theorem dX6_with_0 : decode cX6_with 0 = .ok (.aload_n 0, 1) := by decide +kernel
theorem dX6_with_1 : decode cX6_with 1 = .ok (.aload_n 0, 1) := by decide +kernel
theorem dX6_with_2 : decode cX6_with 2 = .ok (.iload_n 1, 1) := by decide +kernel
theorem dX6_with_3 : decode cX6_with 3 = .ok (.invokevirtual 118, 3) := by decide +kernel
theorem dX6_with_6 : decode cX6_with 6 = .ok (.ifCond .ne 7, 3) := by decide +kernel
theorem dX6_with_9 : decode cX6_with 9 = .ok (.iconst 1, 1) := by decide +kernel
theorem dX6_with_10 : decode cX6_with 10 = .ok (.goto 18, 3) := by decide +kernel
theorem dX6_with_13 : decode cX6_with 13 = .ok (.aload_n 0, 1) := by decide +kernel
theorem dX6_with_14 : decode cX6_with 14 = .ok (.getfield 60, 3) := by decide +kernel
theorem dX6_with_17 : decode cX6_with 17 = .ok (.iload_n 1, 1) := by decide +kernel
theorem dX6_with_18 : decode cX6_with 18 = .ok (.iaload, 1) := by decide +kernel
theorem dX6_with_19 : decode cX6_with 19 = .ok (.iconst (-1), 1) := by decide +kernel
theorem dX6_with_20 : decode cX6_with 20 = .ok (.if_icmp .ne 7, 3) := by decide +kernel
theorem dX6_with_23 : decode cX6_with 23 = .ok (.iconst 2, 1) := by decide +kernel
theorem dX6_with_24 : decode cX6_with 24 = .ok (.goto 4, 3) := by decide +kernel
theorem dX6_with_27 : decode cX6_with 27 = .ok (.iconst 0, 1) := by decide +kernel
theorem dX6_with_28 : decode cX6_with 28 = .ok (.invokevirtual 102, 3) := by decide +kernel
theorem dX6_with_31 : decode cX6_with 31 = .ok (.ifCond .eq 7, 3) := by decide +kernel
theorem dX6_with_34 : decode cX6_with 34 = .ok (.iconst 0, 1) := by decide +kernel
theorem dX6_with_35 : decode cX6_with 35 = .ok (.goto 9, 3) := by decide +kernel
theorem dX6_with_38 : decode cX6_with 38 = .ok (.aload_n 0, 1) := by decide +kernel
theorem dX6_with_39 : decode cX6_with 39 = .ok (.getfield 60, 3) := by decide +kernel
theorem dX6_with_42 : decode cX6_with 42 = .ok (.iload_n 1, 1) := by decide +kernel
theorem dX6_with_43 : decode cX6_with 43 = .ok (.iaload, 1) := by decide +kernel
theorem dX6_with_44 : decode cX6_with 44 = .ok (.ireturn, 1) := by decide +kernel
theorem dX6_conflicts_0 : decode cX6_conflicts 0 = .ok (.aload_n 0, 1) := by decide +kernel
theorem dX6_conflicts_1 : decode cX6_conflicts 1 = .ok (.iconst 0, 1) := by decide +kernel
theorem dX6_conflicts_2 : decode cX6_conflicts 2 = .ok (.putfield 84, 3) := by decide +kernel
theorem dX6_conflicts_5 : decode cX6_conflicts 5 = .ok (.aload_n 0, 1) := by decide +kernel
theorem dX6_conflicts_6 : decode cX6_conflicts 6 = .ok (.getfield 196, 3) := by decide +kernel
theorem dX6_conflicts_9 : decode cX6_conflicts 9 = .ok (.ireturn, 1) := by decide +kernel
theorem dX6_note_0 : decode cX6_note 0 = .ok (.aload_n 0, 1) := by decide +kernel
theorem dX6_note_1 : decode cX6_note 1 = .ok (.aload_n 0, 1) := by decide +kernel
theorem dX6_note_2 : decode cX6_note 2 = .ok (.iload_n 1, 1) := by decide +kernel
theorem dX6_note_3 : decode cX6_note 3 = .ok (.invokevirtual 118, 3) := by decide +kernel
theorem dX6_note_6 : decode cX6_note 6 = .ok (.ifCond .ne 7, 3) := by decide +kernel
theorem dX6_note_9 : decode cX6_note 9 = .ok (.iconst 1, 1) := by decide +kernel
theorem dX6_note_10 : decode cX6_note 10 = .ok (.goto 29, 3) := by decide +kernel
theorem dX6_note_13 : decode cX6_note 13 = .ok (.aload_n 0, 1) := by decide +kernel
theorem dX6_note_14 : decode cX6_note 14 = .ok (.iload_n 1, 1) := by decide +kernel
theorem dX6_note_15 : decode cX6_note 15 = .ok (.invokevirtual 121, 3) := by decide +kernel
theorem dX6_note_18 : decode cX6_note 18 = .ok (.ifCond .ge 7, 3) := by decide +kernel
theorem dX6_note_21 : decode cX6_note 21 = .ok (.iconst 2, 1) := by decide +kernel
theorem dX6_note_22 : decode cX6_note 22 = .ok (.goto 17, 3) := by decide +kernel
theorem dX6_note_25 : decode cX6_note 25 = .ok (.aload_n 0, 1) := by decide +kernel
theorem dX6_note_26 : decode cX6_note 26 = .ok (.getfield 199, 3) := by decide +kernel
theorem dX6_note_29 : decode cX6_note 29 = .ok (.bipush 40, 2) := by decide +kernel
theorem dX6_note_31 : decode cX6_note 31 = .ok (.if_icmp .ne 7, 3) := by decide +kernel
theorem dX6_note_34 : decode cX6_note 34 = .ok (.iconst 3, 1) := by decide +kernel
theorem dX6_note_35 : decode cX6_note 35 = .ok (.goto 4, 3) := by decide +kernel
theorem dX6_note_38 : decode cX6_note 38 = .ok (.iconst 0, 1) := by decide +kernel
theorem dX6_note_39 : decode cX6_note 39 = .ok (.invokevirtual 102, 3) := by decide +kernel
theorem dX6_note_42 : decode cX6_note 42 = .ok (.ifCond .eq 5, 3) := by decide +kernel
theorem dX6_note_45 : decode cX6_note 45 = .ok (.iconst 0, 1) := by decide +kernel
theorem dX6_note_46 : decode cX6_note 46 = .ok (.ireturn, 1) := by decide +kernel
theorem dX6_note_47 : decode cX6_note 47 = .ok (.aload_n 0, 1) := by decide +kernel
theorem dX6_note_48 : decode cX6_note 48 = .ok (.getfield 66, 3) := by decide +kernel
theorem dX6_note_51 : decode cX6_note 51 = .ok (.aload_n 0, 1) := by decide +kernel
theorem dX6_note_52 : decode cX6_note 52 = .ok (.getfield 199, 3) := by decide +kernel
theorem dX6_note_55 : decode cX6_note 55 = .ok (.iload_n 1, 1) := by decide +kernel
theorem dX6_note_56 : decode cX6_note 56 = .ok (.iastore, 1) := by decide +kernel
theorem dX6_note_57 : decode cX6_note 57 = .ok (.aload_n 0, 1) := by decide +kernel
theorem dX6_note_58 : decode cX6_note 58 = .ok (.getfield 69, 3) := by decide +kernel
theorem dX6_note_61 : decode cX6_note 61 = .ok (.aload_n 0, 1) := by decide +kernel
theorem dX6_note_62 : decode cX6_note 62 = .ok (.getfield 199, 3) := by decide +kernel
theorem dX6_note_65 : decode cX6_note 65 = .ok (.aload_n 0, 1) := by decide +kernel
theorem dX6_note_66 : decode cX6_note 66 = .ok (.getfield 23, 3) := by decide +kernel
theorem dX6_note_69 : decode cX6_note 69 = .ok (.iload_n 1, 1) := by decide +kernel
theorem dX6_note_70 : decode cX6_note 70 = .ok (.iaload, 1) := by decide +kernel
theorem dX6_note_71 : decode cX6_note 71 = .ok (.iastore, 1) := by decide +kernel
theorem dX6_note_72 : decode cX6_note 72 = .ok (.aload_n 0, 1) := by decide +kernel
theorem dX6_note_73 : decode cX6_note 73 = .ok (.getfield 72, 3) := by decide +kernel
theorem dX6_note_76 : decode cX6_note 76 = .ok (.aload_n 0, 1) := by decide +kernel
theorem dX6_note_77 : decode cX6_note 77 = .ok (.getfield 199, 3) := by decide +kernel
theorem dX6_note_80 : decode cX6_note 80 = .ok (.bipush 111, 2) := by decide +kernel
theorem dX6_note_82 : decode cX6_note 82 = .ok (.castore, 1) := by decide +kernel
theorem dX6_note_83 : decode cX6_note 83 = .ok (.aload_n 0, 1) := by decide +kernel
theorem dX6_note_84 : decode cX6_note 84 = .ok (.dup, 1) := by decide +kernel
theorem dX6_note_85 : decode cX6_note 85 = .ok (.getfield 199, 3) := by decide +kernel
theorem dX6_note_88 : decode cX6_note 88 = .ok (.iconst 1, 1) := by decide +kernel
theorem dX6_note_89 : decode cX6_note 89 = .ok (.iadd, 1) := by decide +kernel
theorem dX6_note_90 : decode cX6_note 90 = .ok (.putfield 199, 3) := by decide +kernel
theorem dX6_note_93 : decode cX6_note 93 = .ok (.aload_n 0, 1) := by decide +kernel
theorem dX6_note_94 : decode cX6_note 94 = .ok (.getfield 199, 3) := by decide +kernel
theorem dX6_note_97 : decode cX6_note 97 = .ok (.iconst 1, 1) := by decide +kernel
theorem dX6_note_98 : decode cX6_note 98 = .ok (.isub, 1) := by decide +kernel
theorem dX6_note_99 : decode cX6_note 99 = .ok (.ireturn, 1) := by decide +kernel
theorem dX6_isNow_0 : decode cX6_isNow 0 = .ok (.aload_n 0, 1) := by decide +kernel
theorem dX6_isNow_1 : decode cX6_isNow 1 = .ok (.getfield 72, 3) := by decide +kernel
theorem dX6_isNow_4 : decode cX6_isNow 4 = .ok (.iload_n 1, 1) := by decide +kernel
theorem dX6_isNow_5 : decode cX6_isNow 5 = .ok (.caload, 1) := by decide +kernel
theorem dX6_isNow_6 : decode cX6_isNow 6 = .ok (.bipush 111, 2) := by decide +kernel
theorem dX6_isNow_8 : decode cX6_isNow 8 = .ok (.if_icmp .ne 28, 3) := by decide +kernel
theorem dX6_isNow_11 : decode cX6_isNow 11 = .ok (.aload_n 0, 1) := by decide +kernel
theorem dX6_isNow_12 : decode cX6_isNow 12 = .ok (.getfield 69, 3) := by decide +kernel
theorem dX6_isNow_15 : decode cX6_isNow 15 = .ok (.iload_n 1, 1) := by decide +kernel
theorem dX6_isNow_16 : decode cX6_isNow 16 = .ok (.iaload, 1) := by decide +kernel
theorem dX6_isNow_17 : decode cX6_isNow 17 = .ok (.aload_n 0, 1) := by decide +kernel
theorem dX6_isNow_18 : decode cX6_isNow 18 = .ok (.getfield 23, 3) := by decide +kernel
theorem dX6_isNow_21 : decode cX6_isNow 21 = .ok (.aload_n 0, 1) := by decide +kernel
theorem dX6_isNow_22 : decode cX6_isNow 22 = .ok (.getfield 66, 3) := by decide +kernel
theorem dX6_isNow_25 : decode cX6_isNow 25 = .ok (.iload_n 1, 1) := by decide +kernel
theorem dX6_isNow_26 : decode cX6_isNow 26 = .ok (.iaload, 1) := by decide +kernel
theorem dX6_isNow_27 : decode cX6_isNow 27 = .ok (.iaload, 1) := by decide +kernel
theorem dX6_isNow_28 : decode cX6_isNow 28 = .ok (.if_icmp .eq 8, 3) := by decide +kernel
theorem dX6_isNow_31 : decode cX6_isNow 31 = .ok (.bipush 115, 2) := by decide +kernel
theorem dX6_isNow_33 : decode cX6_isNow 33 = .ok (.goto 9, 3) := by decide +kernel
theorem dX6_isNow_36 : decode cX6_isNow 36 = .ok (.aload_n 0, 1) := by decide +kernel
theorem dX6_isNow_37 : decode cX6_isNow 37 = .ok (.getfield 72, 3) := by decide +kernel
theorem dX6_isNow_40 : decode cX6_isNow 40 = .ok (.iload_n 1, 1) := by decide +kernel
theorem dX6_isNow_41 : decode cX6_isNow 41 = .ok (.caload, 1) := by decide +kernel
theorem dX6_isNow_42 : decode cX6_isNow 42 = .ok (.ireturn, 1) := by decide +kernel
theorem dX6_isNote_0 : decode cX6_isNote 0 = .ok (.iload_n 1, 1) := by decide +kernel
theorem dX6_isNote_1 : decode cX6_isNote 1 = .ok (.iconst 0, 1) := by decide +kernel
theorem dX6_isNote_2 : decode cX6_isNote 2 = .ok (.aload_n 0, 1) := by decide +kernel
theorem dX6_isNote_3 : decode cX6_isNote 3 = .ok (.getfield 199, 3) := by decide +kernel
theorem dX6_isNote_6 : decode cX6_isNote 6 = .ok (.iconst 1, 1) := by decide +kernel
theorem dX6_isNote_7 : decode cX6_isNote 7 = .ok (.isub, 1) := by decide +kernel
theorem dX6_isNote_8 : decode cX6_isNote 8 = .ok (.invokestatic 91, 3) := by decide +kernel
theorem dX6_isNote_11 : decode cX6_isNote 11 = .ok (.ireturn, 1) := by decide +kernel
theorem dX6_noteIs_0 : decode cX6_noteIs 0 = .ok (.aload_n 0, 1) := by decide +kernel
theorem dX6_noteIs_1 : decode cX6_noteIs 1 = .ok (.aload_n 0, 1) := by decide +kernel
theorem dX6_noteIs_2 : decode cX6_noteIs 2 = .ok (.iload_n 1, 1) := by decide +kernel
theorem dX6_noteIs_3 : decode cX6_noteIs 3 = .ok (.invokevirtual 202, 3) := by decide +kernel
theorem dX6_noteIs_6 : decode cX6_noteIs 6 = .ok (.ifCond .eq 7, 3) := by decide +kernel
theorem dX6_noteIs_9 : decode cX6_noteIs 9 = .ok (.iconst 0, 1) := by decide +kernel
theorem dX6_noteIs_10 : decode cX6_noteIs 10 = .ok (.goto 4, 3) := by decide +kernel
theorem dX6_noteIs_13 : decode cX6_noteIs 13 = .ok (.iconst 1, 1) := by decide +kernel
theorem dX6_noteIs_14 : decode cX6_noteIs 14 = .ok (.invokevirtual 102, 3) := by decide +kernel
theorem dX6_noteIs_17 : decode cX6_noteIs 17 = .ok (.ifCond .eq 8, 3) := by decide +kernel
theorem dX6_noteIs_20 : decode cX6_noteIs 20 = .ok (.bipush 32, 2) := by decide +kernel
theorem dX6_noteIs_22 : decode cX6_noteIs 22 = .ok (.goto 8, 3) := by decide +kernel
theorem dX6_noteIs_25 : decode cX6_noteIs 25 = .ok (.aload_n 0, 1) := by decide +kernel
theorem dX6_noteIs_26 : decode cX6_noteIs 26 = .ok (.iload_n 1, 1) := by decide +kernel
theorem dX6_noteIs_27 : decode cX6_noteIs 27 = .ok (.invokevirtual 205, 3) := by decide +kernel
theorem dX6_noteIs_30 : decode cX6_noteIs 30 = .ok (.ireturn, 1) := by decide +kernel
theorem dX6_close_0 : decode cX6_close 0 = .ok (.aload_n 0, 1) := by decide +kernel
theorem dX6_close_1 : decode cX6_close 1 = .ok (.aload_n 0, 1) := by decide +kernel
theorem dX6_close_2 : decode cX6_close 2 = .ok (.iload_n 1, 1) := by decide +kernel
theorem dX6_close_3 : decode cX6_close 3 = .ok (.invokevirtual 202, 3) := by decide +kernel
theorem dX6_close_6 : decode cX6_close 6 = .ok (.ifCond .ne 7, 3) := by decide +kernel
theorem dX6_close_9 : decode cX6_close 9 = .ok (.iconst 1, 1) := by decide +kernel
theorem dX6_close_10 : decode cX6_close 10 = .ok (.goto 18, 3) := by decide +kernel
theorem dX6_close_13 : decode cX6_close 13 = .ok (.aload_n 0, 1) := by decide +kernel
theorem dX6_close_14 : decode cX6_close 14 = .ok (.iload_n 1, 1) := by decide +kernel
theorem dX6_close_15 : decode cX6_close 15 = .ok (.invokevirtual 205, 3) := by decide +kernel
theorem dX6_close_18 : decode cX6_close 18 = .ok (.bipush 111, 2) := by decide +kernel
theorem dX6_close_20 : decode cX6_close 20 = .ok (.if_icmp .eq 7, 3) := by decide +kernel
theorem dX6_close_23 : decode cX6_close 23 = .ok (.iconst 2, 1) := by decide +kernel
theorem dX6_close_24 : decode cX6_close 24 = .ok (.goto 4, 3) := by decide +kernel
theorem dX6_close_27 : decode cX6_close 27 = .ok (.iconst 0, 1) := by decide +kernel
theorem dX6_close_28 : decode cX6_close 28 = .ok (.invokevirtual 102, 3) := by decide +kernel
theorem dX6_close_31 : decode cX6_close 31 = .ok (.ifCond .eq 5, 3) := by decide +kernel
theorem dX6_close_34 : decode cX6_close 34 = .ok (.iconst 0, 1) := by decide +kernel
theorem dX6_close_35 : decode cX6_close 35 = .ok (.ireturn, 1) := by decide +kernel
theorem dX6_close_36 : decode cX6_close 36 = .ok (.aload_n 0, 1) := by decide +kernel
theorem dX6_close_37 : decode cX6_close 37 = .ok (.getfield 72, 3) := by decide +kernel
theorem dX6_close_40 : decode cX6_close 40 = .ok (.iload_n 1, 1) := by decide +kernel
theorem dX6_close_41 : decode cX6_close 41 = .ok (.iload_n 2, 1) := by decide +kernel
theorem dX6_close_42 : decode cX6_close 42 = .ok (.ifCond .eq 8, 3) := by decide +kernel
theorem dX6_close_45 : decode cX6_close 45 = .ok (.bipush 100, 2) := by decide +kernel
theorem dX6_close_47 : decode cX6_close 47 = .ok (.goto 5, 3) := by decide +kernel
theorem dX6_close_50 : decode cX6_close 50 = .ok (.bipush 114, 2) := by decide +kernel
theorem dX6_close_52 : decode cX6_close 52 = .ok (.castore, 1) := by decide +kernel
theorem dX6_close_53 : decode cX6_close 53 = .ok (.iconst 1, 1) := by decide +kernel
theorem dX6_close_54 : decode cX6_close 54 = .ok (.ireturn, 1) := by decide +kernel
theorem dX6_renew_0 : decode cX6_renew 0 = .ok (.aload_n 0, 1) := by decide +kernel
theorem dX6_renew_1 : decode cX6_renew 1 = .ok (.aload_n 0, 1) := by decide +kernel
theorem dX6_renew_2 : decode cX6_renew 2 = .ok (.iload_n 1, 1) := by decide +kernel
theorem dX6_renew_3 : decode cX6_renew 3 = .ok (.invokevirtual 202, 3) := by decide +kernel
theorem dX6_renew_6 : decode cX6_renew 6 = .ok (.ifCond .ne 7, 3) := by decide +kernel
theorem dX6_renew_9 : decode cX6_renew 9 = .ok (.iconst 1, 1) := by decide +kernel
theorem dX6_renew_10 : decode cX6_renew 10 = .ok (.goto 31, 3) := by decide +kernel
theorem dX6_renew_13 : decode cX6_renew 13 = .ok (.aload_n 0, 1) := by decide +kernel
theorem dX6_renew_14 : decode cX6_renew 14 = .ok (.iload_n 1, 1) := by decide +kernel
theorem dX6_renew_15 : decode cX6_renew 15 = .ok (.invokevirtual 205, 3) := by decide +kernel
theorem dX6_renew_18 : decode cX6_renew 18 = .ok (.bipush 115, 2) := by decide +kernel
theorem dX6_renew_20 : decode cX6_renew 20 = .ok (.if_icmp .ne 16, 3) := by decide +kernel
theorem dX6_renew_23 : decode cX6_renew 23 = .ok (.aload_n 0, 1) := by decide +kernel
theorem dX6_renew_24 : decode cX6_renew 24 = .ok (.aload_n 0, 1) := by decide +kernel
theorem dX6_renew_25 : decode cX6_renew 25 = .ok (.getfield 66, 3) := by decide +kernel
theorem dX6_renew_28 : decode cX6_renew 28 = .ok (.iload_n 1, 1) := by decide +kernel
theorem dX6_renew_29 : decode cX6_renew 29 = .ok (.iaload, 1) := by decide +kernel
theorem dX6_renew_30 : decode cX6_renew 30 = .ok (.invokevirtual 121, 3) := by decide +kernel
theorem dX6_renew_33 : decode cX6_renew 33 = .ok (.ifCond .ge 7, 3) := by decide +kernel
theorem dX6_renew_36 : decode cX6_renew 36 = .ok (.iconst 2, 1) := by decide +kernel
theorem dX6_renew_37 : decode cX6_renew 37 = .ok (.goto 4, 3) := by decide +kernel
theorem dX6_renew_40 : decode cX6_renew 40 = .ok (.iconst 0, 1) := by decide +kernel
theorem dX6_renew_41 : decode cX6_renew 41 = .ok (.invokevirtual 102, 3) := by decide +kernel
theorem dX6_renew_44 : decode cX6_renew 44 = .ok (.ifCond .eq 5, 3) := by decide +kernel
theorem dX6_renew_47 : decode cX6_renew 47 = .ok (.iconst 0, 1) := by decide +kernel
theorem dX6_renew_48 : decode cX6_renew 48 = .ok (.ireturn, 1) := by decide +kernel
theorem dX6_renew_49 : decode cX6_renew 49 = .ok (.aload_n 0, 1) := by decide +kernel
theorem dX6_renew_50 : decode cX6_renew 50 = .ok (.getfield 69, 3) := by decide +kernel
theorem dX6_renew_53 : decode cX6_renew 53 = .ok (.iload_n 1, 1) := by decide +kernel
theorem dX6_renew_54 : decode cX6_renew 54 = .ok (.aload_n 0, 1) := by decide +kernel
theorem dX6_renew_55 : decode cX6_renew 55 = .ok (.getfield 23, 3) := by decide +kernel
theorem dX6_renew_58 : decode cX6_renew 58 = .ok (.aload_n 0, 1) := by decide +kernel
theorem dX6_renew_59 : decode cX6_renew 59 = .ok (.getfield 66, 3) := by decide +kernel
theorem dX6_renew_62 : decode cX6_renew 62 = .ok (.iload_n 1, 1) := by decide +kernel
theorem dX6_renew_63 : decode cX6_renew 63 = .ok (.iaload, 1) := by decide +kernel
theorem dX6_renew_64 : decode cX6_renew 64 = .ok (.iaload, 1) := by decide +kernel
theorem dX6_renew_65 : decode cX6_renew 65 = .ok (.iastore, 1) := by decide +kernel
theorem dX6_renew_66 : decode cX6_renew 66 = .ok (.aload_n 0, 1) := by decide +kernel
theorem dX6_renew_67 : decode cX6_renew 67 = .ok (.getfield 69, 3) := by decide +kernel
theorem dX6_renew_70 : decode cX6_renew 70 = .ok (.iload_n 1, 1) := by decide +kernel
theorem dX6_renew_71 : decode cX6_renew 71 = .ok (.iaload, 1) := by decide +kernel
theorem dX6_renew_72 : decode cX6_renew 72 = .ok (.ireturn, 1) := by decide +kernel
theorem dX6_notes_0 : decode cX6_notes 0 = .ok (.aload_n 0, 1) := by decide +kernel
theorem dX6_notes_1 : decode cX6_notes 1 = .ok (.iload_n 1, 1) := by decide +kernel
theorem dX6_notes_2 : decode cX6_notes 2 = .ok (.bipush 111, 2) := by decide +kernel
theorem dX6_notes_4 : decode cX6_notes 4 = .ok (.if_icmp .eq 21, 3) := by decide +kernel
theorem dX6_notes_7 : decode cX6_notes 7 = .ok (.iload_n 1, 1) := by decide +kernel
theorem dX6_notes_8 : decode cX6_notes 8 = .ok (.bipush 100, 2) := by decide +kernel
theorem dX6_notes_10 : decode cX6_notes 10 = .ok (.if_icmp .eq 15, 3) := by decide +kernel
theorem dX6_notes_13 : decode cX6_notes 13 = .ok (.iload_n 1, 1) := by decide +kernel
theorem dX6_notes_14 : decode cX6_notes 14 = .ok (.bipush 114, 2) := by decide +kernel
theorem dX6_notes_16 : decode cX6_notes 16 = .ok (.if_icmp .eq 9, 3) := by decide +kernel
theorem dX6_notes_19 : decode cX6_notes 19 = .ok (.iload_n 1, 1) := by decide +kernel
theorem dX6_notes_20 : decode cX6_notes 20 = .ok (.bipush 115, 2) := by decide +kernel
theorem dX6_notes_22 : decode cX6_notes 22 = .ok (.if_icmp .ne 7, 3) := by decide +kernel
theorem dX6_notes_25 : decode cX6_notes 25 = .ok (.iconst 0, 1) := by decide +kernel
theorem dX6_notes_26 : decode cX6_notes 26 = .ok (.goto 4, 3) := by decide +kernel
theorem dX6_notes_29 : decode cX6_notes 29 = .ok (.iconst 1, 1) := by decide +kernel
theorem dX6_notes_30 : decode cX6_notes 30 = .ok (.invokevirtual 102, 3) := by decide +kernel
theorem dX6_notes_33 : decode cX6_notes 33 = .ok (.ifCond .eq 5, 3) := by decide +kernel
theorem dX6_notes_36 : decode cX6_notes 36 = .ok (.iconst 0, 1) := by decide +kernel
theorem dX6_notes_37 : decode cX6_notes 37 = .ok (.ireturn, 1) := by decide +kernel
theorem dX6_notes_38 : decode cX6_notes 38 = .ok (.iconst 0, 1) := by decide +kernel
theorem dX6_notes_39 : decode cX6_notes 39 = .ok (.istore_n 2, 1) := by decide +kernel
theorem dX6_notes_40 : decode cX6_notes 40 = .ok (.iconst 0, 1) := by decide +kernel
theorem dX6_notes_41 : decode cX6_notes 41 = .ok (.istore_n 3, 1) := by decide +kernel
theorem dX6_notes_42 : decode cX6_notes 42 = .ok (.iload_n 3, 1) := by decide +kernel
theorem dX6_notes_43 : decode cX6_notes 43 = .ok (.aload_n 0, 1) := by decide +kernel
theorem dX6_notes_44 : decode cX6_notes 44 = .ok (.getfield 199, 3) := by decide +kernel
theorem dX6_notes_47 : decode cX6_notes 47 = .ok (.if_icmp .ge 26, 3) := by decide +kernel
theorem dX6_notes_50 : decode cX6_notes 50 = .ok (.aload_n 0, 1) := by decide +kernel
theorem dX6_notes_51 : decode cX6_notes 51 = .ok (.iload_n 3, 1) := by decide +kernel
theorem dX6_notes_52 : decode cX6_notes 52 = .ok (.invokevirtual 205, 3) := by decide +kernel
theorem dX6_notes_55 : decode cX6_notes 55 = .ok (.iload_n 1, 1) := by decide +kernel
theorem dX6_notes_56 : decode cX6_notes 56 = .ok (.if_icmp .ne 9, 3) := by decide +kernel
theorem dX6_notes_59 : decode cX6_notes 59 = .ok (.iload_n 2, 1) := by decide +kernel
theorem dX6_notes_60 : decode cX6_notes 60 = .ok (.iconst 1, 1) := by decide +kernel
theorem dX6_notes_61 : decode cX6_notes 61 = .ok (.iadd, 1) := by decide +kernel
theorem dX6_notes_62 : decode cX6_notes 62 = .ok (.goto 4, 3) := by decide +kernel
theorem dX6_notes_65 : decode cX6_notes 65 = .ok (.iload_n 2, 1) := by decide +kernel
theorem dX6_notes_66 : decode cX6_notes 66 = .ok (.istore_n 2, 1) := by decide +kernel
theorem dX6_notes_67 : decode cX6_notes 67 = .ok (.iinc 3 1, 3) := by decide +kernel
theorem dX6_notes_70 : decode cX6_notes 70 = .ok (.goto (-28), 3) := by decide +kernel
theorem dX6_notes_73 : decode cX6_notes 73 = .ok (.iload_n 2, 1) := by decide +kernel
theorem dX6_notes_74 : decode cX6_notes 74 = .ok (.ireturn, 1) := by decide +kernel
theorem dX6_dear_0 : decode cX6_dear 0 = .ok (.aload_n 0, 1) := by decide +kernel
theorem dX6_dear_1 : decode cX6_dear 1 = .ok (.aload_n 0, 1) := by decide +kernel
theorem dX6_dear_2 : decode cX6_dear 2 = .ok (.iload_n 1, 1) := by decide +kernel
theorem dX6_dear_3 : decode cX6_dear 3 = .ok (.invokevirtual 118, 3) := by decide +kernel
theorem dX6_dear_6 : decode cX6_dear 6 = .ok (.ifCond .eq 7, 3) := by decide +kernel
theorem dX6_dear_9 : decode cX6_dear 9 = .ok (.iconst 0, 1) := by decide +kernel
theorem dX6_dear_10 : decode cX6_dear 10 = .ok (.goto 4, 3) := by decide +kernel
theorem dX6_dear_13 : decode cX6_dear 13 = .ok (.iconst 1, 1) := by decide +kernel
theorem dX6_dear_14 : decode cX6_dear 14 = .ok (.invokevirtual 102, 3) := by decide +kernel
theorem dX6_dear_17 : decode cX6_dear 17 = .ok (.ifCond .eq 5, 3) := by decide +kernel
theorem dX6_dear_20 : decode cX6_dear 20 = .ok (.iconst 0, 1) := by decide +kernel
theorem dX6_dear_21 : decode cX6_dear 21 = .ok (.ireturn, 1) := by decide +kernel
theorem dX6_dear_22 : decode cX6_dear 22 = .ok (.aload_n 0, 1) := by decide +kernel
theorem dX6_dear_23 : decode cX6_dear 23 = .ok (.getfield 26, 3) := by decide +kernel
theorem dX6_dear_26 : decode cX6_dear 26 = .ok (.iload_n 1, 1) := by decide +kernel
theorem dX6_dear_27 : decode cX6_dear 27 = .ok (.baload, 1) := by decide +kernel
theorem dX6_dear_28 : decode cX6_dear 28 = .ok (.istore_n 3, 1) := by decide +kernel
theorem dX6_dear_29 : decode cX6_dear 29 = .ok (.aload_n 0, 1) := by decide +kernel
theorem dX6_dear_30 : decode cX6_dear 30 = .ok (.getfield 26, 3) := by decide +kernel
theorem dX6_dear_33 : decode cX6_dear 33 = .ok (.iload_n 1, 1) := by decide +kernel
theorem dX6_dear_34 : decode cX6_dear 34 = .ok (.iload_n 2, 1) := by decide +kernel
theorem dX6_dear_35 : decode cX6_dear 35 = .ok (.bastore, 1) := by decide +kernel
theorem dX6_dear_36 : decode cX6_dear 36 = .ok (.iload_n 3, 1) := by decide +kernel
theorem dX6_dear_37 : decode cX6_dear 37 = .ok (.ireturn, 1) := by decide +kernel
theorem dX6_countSetups_0 : decode cX6_countSetups 0 = .ok (.iconst 0, 1) := by decide +kernel
theorem dX6_countSetups_1 : decode cX6_countSetups 1 = .ok (.istore_n 2, 1) := by decide +kernel
theorem dX6_countSetups_2 : decode cX6_countSetups 2 = .ok (.iconst 0, 1) := by decide +kernel
theorem dX6_countSetups_3 : decode cX6_countSetups 3 = .ok (.istore_n 3, 1) := by decide +kernel
theorem dX6_countSetups_4 : decode cX6_countSetups 4 = .ok (.iload_n 3, 1) := by decide +kernel
theorem dX6_countSetups_5 : decode cX6_countSetups 5 = .ok (.aload_n 0, 1) := by decide +kernel
theorem dX6_countSetups_6 : decode cX6_countSetups 6 = .ok (.getfield 95, 3) := by decide +kernel
theorem dX6_countSetups_9 : decode cX6_countSetups 9 = .ok (.if_icmp .ge 169, 3) := by decide +kernel
theorem dX6_countSetups_12 : decode cX6_countSetups 12 = .ok (.iconst 1, 1) := by decide +kernel
theorem dX6_countSetups_13 : decode cX6_countSetups 13 = .ok (.istore 4, 2) := by decide +kernel
theorem dX6_countSetups_15 : decode cX6_countSetups 15 = .ok (.iconst 0, 1) := by decide +kernel
theorem dX6_countSetups_16 : decode cX6_countSetups 16 = .ok (.istore 5, 2) := by decide +kernel
theorem dX6_countSetups_18 : decode cX6_countSetups 18 = .ok (.iconst 0, 1) := by decide +kernel
theorem dX6_countSetups_19 : decode cX6_countSetups 19 = .ok (.istore 6, 2) := by decide +kernel
theorem dX6_countSetups_21 : decode cX6_countSetups 21 = .ok (.iload 6, 2) := by decide +kernel
theorem dX6_countSetups_23 : decode cX6_countSetups 23 = .ok (.aload_n 0, 1) := by decide +kernel
theorem dX6_countSetups_24 : decode cX6_countSetups 24 = .ok (.getfield 95, 3) := by decide +kernel
theorem dX6_countSetups_27 : decode cX6_countSetups 27 = .ok (.if_icmp .ge 123, 3) := by decide +kernel
theorem dX6_countSetups_30 : decode cX6_countSetups 30 = .ok (.aload_n 0, 1) := by decide +kernel
theorem dX6_countSetups_31 : decode cX6_countSetups 31 = .ok (.getfield 13, 3) := by decide +kernel
theorem dX6_countSetups_34 : decode cX6_countSetups 34 = .ok (.aload_n 0, 1) := by decide +kernel
theorem dX6_countSetups_35 : decode cX6_countSetups 35 = .ok (.getfield 7, 3) := by decide +kernel
theorem dX6_countSetups_38 : decode cX6_countSetups 38 = .ok (.iload 6, 2) := by decide +kernel
theorem dX6_countSetups_40 : decode cX6_countSetups 40 = .ok (.iaload, 1) := by decide +kernel
theorem dX6_countSetups_41 : decode cX6_countSetups 41 = .ok (.caload, 1) := by decide +kernel
theorem dX6_countSetups_42 : decode cX6_countSetups 42 = .ok (.aload_n 0, 1) := by decide +kernel
theorem dX6_countSetups_43 : decode cX6_countSetups 43 = .ok (.getfield 13, 3) := by decide +kernel
theorem dX6_countSetups_46 : decode cX6_countSetups 46 = .ok (.aload_n 0, 1) := by decide +kernel
theorem dX6_countSetups_47 : decode cX6_countSetups 47 = .ok (.getfield 7, 3) := by decide +kernel
theorem dX6_countSetups_50 : decode cX6_countSetups 50 = .ok (.iload_n 3, 1) := by decide +kernel
theorem dX6_countSetups_51 : decode cX6_countSetups 51 = .ok (.iaload, 1) := by decide +kernel
theorem dX6_countSetups_52 : decode cX6_countSetups 52 = .ok (.caload, 1) := by decide +kernel
theorem dX6_countSetups_53 : decode cX6_countSetups 53 = .ok (.if_icmp .ne 33, 3) := by decide +kernel
theorem dX6_countSetups_56 : decode cX6_countSetups 56 = .ok (.aload_n 0, 1) := by decide +kernel
theorem dX6_countSetups_57 : decode cX6_countSetups 57 = .ok (.getfield 17, 3) := by decide +kernel
theorem dX6_countSetups_60 : decode cX6_countSetups 60 = .ok (.aload_n 0, 1) := by decide +kernel
theorem dX6_countSetups_61 : decode cX6_countSetups 61 = .ok (.getfield 7, 3) := by decide +kernel
theorem dX6_countSetups_64 : decode cX6_countSetups 64 = .ok (.iload 6, 2) := by decide +kernel
theorem dX6_countSetups_66 : decode cX6_countSetups 66 = .ok (.iaload, 1) := by decide +kernel
theorem dX6_countSetups_67 : decode cX6_countSetups 67 = .ok (.iaload, 1) := by decide +kernel
theorem dX6_countSetups_68 : decode cX6_countSetups 68 = .ok (.aload_n 0, 1) := by decide +kernel
theorem dX6_countSetups_69 : decode cX6_countSetups 69 = .ok (.getfield 17, 3) := by decide +kernel
theorem dX6_countSetups_72 : decode cX6_countSetups 72 = .ok (.aload_n 0, 1) := by decide +kernel
theorem dX6_countSetups_73 : decode cX6_countSetups 73 = .ok (.getfield 7, 3) := by decide +kernel
theorem dX6_countSetups_76 : decode cX6_countSetups 76 = .ok (.iload_n 3, 1) := by decide +kernel
theorem dX6_countSetups_77 : decode cX6_countSetups 77 = .ok (.iaload, 1) := by decide +kernel
theorem dX6_countSetups_78 : decode cX6_countSetups 78 = .ok (.iaload, 1) := by decide +kernel
theorem dX6_countSetups_79 : decode cX6_countSetups 79 = .ok (.if_icmp .ne 7, 3) := by decide +kernel
theorem dX6_countSetups_82 : decode cX6_countSetups 82 = .ok (.iconst 1, 1) := by decide +kernel
theorem dX6_countSetups_83 : decode cX6_countSetups 83 = .ok (.goto 4, 3) := by decide +kernel
theorem dX6_countSetups_86 : decode cX6_countSetups 86 = .ok (.iconst 0, 1) := by decide +kernel
theorem dX6_countSetups_87 : decode cX6_countSetups 87 = .ok (.istore 7, 2) := by decide +kernel
theorem dX6_countSetups_89 : decode cX6_countSetups 89 = .ok (.iload 4, 2) := by decide +kernel
theorem dX6_countSetups_91 : decode cX6_countSetups 91 = .ok (.ifCond .eq 18, 3) := by decide +kernel
theorem dX6_countSetups_94 : decode cX6_countSetups 94 = .ok (.iload 7, 2) := by decide +kernel
theorem dX6_countSetups_96 : decode cX6_countSetups 96 = .ok (.ifCond .eq 9, 3) := by decide +kernel
theorem dX6_countSetups_99 : decode cX6_countSetups 99 = .ok (.iload 6, 2) := by decide +kernel
theorem dX6_countSetups_101 : decode cX6_countSetups 101 = .ok (.iload_n 3, 1) := by decide +kernel
theorem dX6_countSetups_102 : decode cX6_countSetups 102 = .ok (.if_icmp .lt 7, 3) := by decide +kernel
theorem dX6_countSetups_105 : decode cX6_countSetups 105 = .ok (.iconst 1, 1) := by decide +kernel
theorem dX6_countSetups_106 : decode cX6_countSetups 106 = .ok (.goto 4, 3) := by decide +kernel
theorem dX6_countSetups_109 : decode cX6_countSetups 109 = .ok (.iconst 0, 1) := by decide +kernel
theorem dX6_countSetups_110 : decode cX6_countSetups 110 = .ok (.istore 4, 2) := by decide +kernel
theorem dX6_countSetups_112 : decode cX6_countSetups 112 = .ok (.iload 5, 2) := by decide +kernel
theorem dX6_countSetups_114 : decode cX6_countSetups 114 = .ok (.ifCond .ne 23, 3) := by decide +kernel
theorem dX6_countSetups_117 : decode cX6_countSetups 117 = .ok (.iload 7, 2) := by decide +kernel
theorem dX6_countSetups_119 : decode cX6_countSetups 119 = .ok (.ifCond .eq 22, 3) := by decide +kernel
theorem dX6_countSetups_122 : decode cX6_countSetups 122 = .ok (.aload_n 0, 1) := by decide +kernel
theorem dX6_countSetups_123 : decode cX6_countSetups 123 = .ok (.getfield 26, 3) := by decide +kernel
theorem dX6_countSetups_126 : decode cX6_countSetups 126 = .ok (.aload_n 0, 1) := by decide +kernel
theorem dX6_countSetups_127 : decode cX6_countSetups 127 = .ok (.getfield 7, 3) := by decide +kernel
theorem dX6_countSetups_130 : decode cX6_countSetups 130 = .ok (.iload 6, 2) := by decide +kernel
theorem dX6_countSetups_132 : decode cX6_countSetups 132 = .ok (.iaload, 1) := by decide +kernel
theorem dX6_countSetups_133 : decode cX6_countSetups 133 = .ok (.baload, 1) := by decide +kernel
theorem dX6_countSetups_134 : decode cX6_countSetups 134 = .ok (.ifCond .eq 7, 3) := by decide +kernel
theorem dX6_countSetups_137 : decode cX6_countSetups 137 = .ok (.iconst 1, 1) := by decide +kernel
theorem dX6_countSetups_138 : decode cX6_countSetups 138 = .ok (.goto 4, 3) := by decide +kernel
theorem dX6_countSetups_141 : decode cX6_countSetups 141 = .ok (.iconst 0, 1) := by decide +kernel
theorem dX6_countSetups_142 : decode cX6_countSetups 142 = .ok (.istore 5, 2) := by decide +kernel
theorem dX6_countSetups_144 : decode cX6_countSetups 144 = .ok (.iinc 6 1, 3) := by decide +kernel
theorem dX6_countSetups_147 : decode cX6_countSetups 147 = .ok (.goto (-126), 3) := by decide +kernel
theorem dX6_countSetups_150 : decode cX6_countSetups 150 = .ok (.iload 4, 2) := by decide +kernel
theorem dX6_countSetups_152 : decode cX6_countSetups 152 = .ok (.ifCond .eq 18, 3) := by decide +kernel
theorem dX6_countSetups_155 : decode cX6_countSetups 155 = .ok (.iload 5, 2) := by decide +kernel
theorem dX6_countSetups_157 : decode cX6_countSetups 157 = .ok (.ifCond .ne 7, 3) := by decide +kernel
theorem dX6_countSetups_160 : decode cX6_countSetups 160 = .ok (.iload_n 1, 1) := by decide +kernel
theorem dX6_countSetups_161 : decode cX6_countSetups 161 = .ok (.ifCond .ne 9, 3) := by decide +kernel
theorem dX6_countSetups_164 : decode cX6_countSetups 164 = .ok (.iload_n 2, 1) := by decide +kernel
theorem dX6_countSetups_165 : decode cX6_countSetups 165 = .ok (.iconst 1, 1) := by decide +kernel
theorem dX6_countSetups_166 : decode cX6_countSetups 166 = .ok (.iadd, 1) := by decide +kernel
theorem dX6_countSetups_167 : decode cX6_countSetups 167 = .ok (.goto 4, 3) := by decide +kernel
theorem dX6_countSetups_170 : decode cX6_countSetups 170 = .ok (.iload_n 2, 1) := by decide +kernel
theorem dX6_countSetups_171 : decode cX6_countSetups 171 = .ok (.istore_n 2, 1) := by decide +kernel
theorem dX6_countSetups_172 : decode cX6_countSetups 172 = .ok (.iinc 3 1, 3) := by decide +kernel
theorem dX6_countSetups_175 : decode cX6_countSetups 175 = .ok (.goto (-171), 3) := by decide +kernel
theorem dX6_countSetups_178 : decode cX6_countSetups 178 = .ok (.iload_n 2, 1) := by decide +kernel
theorem dX6_countSetups_179 : decode cX6_countSetups 179 = .ok (.ireturn, 1) := by decide +kernel
theorem dX6_setups_0 : decode cX6_setups 0 = .ok (.aload_n 0, 1) := by decide +kernel
theorem dX6_setups_1 : decode cX6_setups 1 = .ok (.iconst 0, 1) := by decide +kernel
theorem dX6_setups_2 : decode cX6_setups 2 = .ok (.putfield 84, 3) := by decide +kernel
theorem dX6_setups_5 : decode cX6_setups 5 = .ok (.aload_n 0, 1) := by decide +kernel
theorem dX6_setups_6 : decode cX6_setups 6 = .ok (.iconst 0, 1) := by decide +kernel
theorem dX6_setups_7 : decode cX6_setups 7 = .ok (.invokevirtual 208, 3) := by decide +kernel
theorem dX6_setups_10 : decode cX6_setups 10 = .ok (.ireturn, 1) := by decide +kernel
theorem dX6_first_0 : decode cX6_first 0 = .ok (.aload_n 0, 1) := by decide +kernel
theorem dX6_first_1 : decode cX6_first 1 = .ok (.iconst 0, 1) := by decide +kernel
theorem dX6_first_2 : decode cX6_first 2 = .ok (.putfield 84, 3) := by decide +kernel
theorem dX6_first_5 : decode cX6_first 5 = .ok (.aload_n 0, 1) := by decide +kernel
theorem dX6_first_6 : decode cX6_first 6 = .ok (.iconst 1, 1) := by decide +kernel
theorem dX6_first_7 : decode cX6_first 7 = .ok (.invokevirtual 208, 3) := by decide +kernel
theorem dX6_first_10 : decode cX6_first 10 = .ok (.ireturn, 1) := by decide +kernel
theorem dX6_days_0 : decode cX6_days 0 = .ok (.aload_n 0, 1) := by decide +kernel
theorem dX6_days_1 : decode cX6_days 1 = .ok (.iconst 0, 1) := by decide +kernel
theorem dX6_days_2 : decode cX6_days 2 = .ok (.putfield 84, 3) := by decide +kernel
theorem dX6_days_5 : decode cX6_days 5 = .ok (.aload_n 0, 1) := by decide +kernel
theorem dX6_days_6 : decode cX6_days 6 = .ok (.getfield 95, 3) := by decide +kernel
theorem dX6_days_9 : decode cX6_days 9 = .ok (.bipush 19, 2) := by decide +kernel
theorem dX6_days_11 : decode cX6_days 11 = .ok (.iadd, 1) := by decide +kernel
theorem dX6_days_12 : decode cX6_days 12 = .ok (.bipush 20, 2) := by decide +kernel
theorem dX6_days_14 : decode cX6_days 14 = .ok (.idiv, 1) := by decide +kernel
theorem dX6_days_15 : decode cX6_days 15 = .ok (.istore_n 1, 1) := by decide +kernel
theorem dX6_days_16 : decode cX6_days 16 = .ok (.aload_n 0, 1) := by decide +kernel
theorem dX6_days_17 : decode cX6_days 17 = .ok (.iconst 0, 1) := by decide +kernel
theorem dX6_days_18 : decode cX6_days 18 = .ok (.invokevirtual 208, 3) := by decide +kernel
theorem dX6_days_21 : decode cX6_days 21 = .ok (.iconst 3, 1) := by decide +kernel
theorem dX6_days_22 : decode cX6_days 22 = .ok (.iadd, 1) := by decide +kernel
theorem dX6_days_23 : decode cX6_days 23 = .ok (.iconst 4, 1) := by decide +kernel
theorem dX6_days_24 : decode cX6_days 24 = .ok (.idiv, 1) := by decide +kernel
theorem dX6_days_25 : decode cX6_days 25 = .ok (.istore_n 2, 1) := by decide +kernel
theorem dX6_days_26 : decode cX6_days 26 = .ok (.iload_n 2, 1) := by decide +kernel
theorem dX6_days_27 : decode cX6_days 27 = .ok (.iload_n 1, 1) := by decide +kernel
theorem dX6_days_28 : decode cX6_days 28 = .ok (.if_icmp .le 7, 3) := by decide +kernel
theorem dX6_days_31 : decode cX6_days 31 = .ok (.iload_n 2, 1) := by decide +kernel
theorem dX6_days_32 : decode cX6_days 32 = .ok (.goto 4, 3) := by decide +kernel
theorem dX6_days_35 : decode cX6_days 35 = .ok (.iload_n 1, 1) := by decide +kernel
theorem dX6_days_36 : decode cX6_days 36 = .ok (.ireturn, 1) := by decide +kernel
theorem dX6_countWrong_0 : decode cX6_countWrong 0 = .ok (.iconst 0, 1) := by decide +kernel
theorem dX6_countWrong_1 : decode cX6_countWrong 1 = .ok (.istore_n 1, 1) := by decide +kernel
theorem dX6_countWrong_2 : decode cX6_countWrong 2 = .ok (.iconst 1, 1) := by decide +kernel
theorem dX6_countWrong_3 : decode cX6_countWrong 3 = .ok (.istore_n 2, 1) := by decide +kernel
theorem dX6_countWrong_4 : decode cX6_countWrong 4 = .ok (.iload_n 2, 1) := by decide +kernel
theorem dX6_countWrong_5 : decode cX6_countWrong 5 = .ok (.aload_n 0, 1) := by decide +kernel
theorem dX6_countWrong_6 : decode cX6_countWrong 6 = .ok (.getfield 95, 3) := by decide +kernel
theorem dX6_countWrong_9 : decode cX6_countWrong 9 = .ok (.if_icmp .ge 50, 3) := by decide +kernel
theorem dX6_countWrong_12 : decode cX6_countWrong 12 = .ok (.aload_n 0, 1) := by decide +kernel
theorem dX6_countWrong_13 : decode cX6_countWrong 13 = .ok (.aload_n 0, 1) := by decide +kernel
theorem dX6_countWrong_14 : decode cX6_countWrong 14 = .ok (.getfield 7, 3) := by decide +kernel
theorem dX6_countWrong_17 : decode cX6_countWrong 17 = .ok (.aload_n 0, 1) := by decide +kernel
theorem dX6_countWrong_18 : decode cX6_countWrong 18 = .ok (.getfield 75, 3) := by decide +kernel
theorem dX6_countWrong_21 : decode cX6_countWrong 21 = .ok (.iload_n 2, 1) := by decide +kernel
theorem dX6_countWrong_22 : decode cX6_countWrong 22 = .ok (.iconst 1, 1) := by decide +kernel
theorem dX6_countWrong_23 : decode cX6_countWrong 23 = .ok (.isub, 1) := by decide +kernel
theorem dX6_countWrong_24 : decode cX6_countWrong 24 = .ok (.iaload, 1) := by decide +kernel
theorem dX6_countWrong_25 : decode cX6_countWrong 25 = .ok (.iaload, 1) := by decide +kernel
theorem dX6_countWrong_26 : decode cX6_countWrong 26 = .ok (.aload_n 0, 1) := by decide +kernel
theorem dX6_countWrong_27 : decode cX6_countWrong 27 = .ok (.getfield 7, 3) := by decide +kernel
theorem dX6_countWrong_30 : decode cX6_countWrong 30 = .ok (.aload_n 0, 1) := by decide +kernel
theorem dX6_countWrong_31 : decode cX6_countWrong 31 = .ok (.getfield 75, 3) := by decide +kernel
theorem dX6_countWrong_34 : decode cX6_countWrong 34 = .ok (.iload_n 2, 1) := by decide +kernel
theorem dX6_countWrong_35 : decode cX6_countWrong 35 = .ok (.iaload, 1) := by decide +kernel
theorem dX6_countWrong_36 : decode cX6_countWrong 36 = .ok (.iaload, 1) := by decide +kernel
theorem dX6_countWrong_37 : decode cX6_countWrong 37 = .ok (.invokevirtual 179, 3) := by decide +kernel
theorem dX6_countWrong_40 : decode cX6_countWrong 40 = .ok (.bipush 45, 2) := by decide +kernel
theorem dX6_countWrong_42 : decode cX6_countWrong 42 = .ok (.if_icmp .eq 9, 3) := by decide +kernel
theorem dX6_countWrong_45 : decode cX6_countWrong 45 = .ok (.iload_n 1, 1) := by decide +kernel
theorem dX6_countWrong_46 : decode cX6_countWrong 46 = .ok (.iconst 1, 1) := by decide +kernel
theorem dX6_countWrong_47 : decode cX6_countWrong 47 = .ok (.iadd, 1) := by decide +kernel
theorem dX6_countWrong_48 : decode cX6_countWrong 48 = .ok (.goto 4, 3) := by decide +kernel
theorem dX6_countWrong_51 : decode cX6_countWrong 51 = .ok (.iload_n 1, 1) := by decide +kernel
theorem dX6_countWrong_52 : decode cX6_countWrong 52 = .ok (.istore_n 1, 1) := by decide +kernel
theorem dX6_countWrong_53 : decode cX6_countWrong 53 = .ok (.iinc 2 1, 3) := by decide +kernel
theorem dX6_countWrong_56 : decode cX6_countWrong 56 = .ok (.goto (-52), 3) := by decide +kernel
theorem dX6_countWrong_59 : decode cX6_countWrong 59 = .ok (.iload_n 1, 1) := by decide +kernel
theorem dX6_countWrong_60 : decode cX6_countWrong 60 = .ok (.ireturn, 1) := by decide +kernel
theorem dX6_goThrough_0 : decode cX6_goThrough 0 = .ok (.iconst 0, 1) := by decide +kernel
theorem dX6_goThrough_1 : decode cX6_goThrough 1 = .ok (.istore_n 2, 1) := by decide +kernel
theorem dX6_goThrough_2 : decode cX6_goThrough 2 = .ok (.aload_n 0, 1) := by decide +kernel
theorem dX6_goThrough_3 : decode cX6_goThrough 3 = .ok (.getfield 95, 3) := by decide +kernel
theorem dX6_goThrough_6 : decode cX6_goThrough 6 = .ok (.istore_n 3, 1) := by decide +kernel
theorem dX6_goThrough_7 : decode cX6_goThrough 7 = .ok (.iconst 0, 1) := by decide +kernel
theorem dX6_goThrough_8 : decode cX6_goThrough 8 = .ok (.istore 4, 2) := by decide +kernel
theorem dX6_goThrough_10 : decode cX6_goThrough 10 = .ok (.aload_n 0, 1) := by decide +kernel
theorem dX6_goThrough_11 : decode cX6_goThrough 11 = .ok (.getfield 78, 3) := by decide +kernel
theorem dX6_goThrough_14 : decode cX6_goThrough 14 = .ok (.iconst 0, 1) := by decide +kernel
theorem dX6_goThrough_15 : decode cX6_goThrough 15 = .ok (.iconst 0, 1) := by decide +kernel
theorem dX6_goThrough_16 : decode cX6_goThrough 16 = .ok (.iastore, 1) := by decide +kernel
theorem dX6_goThrough_17 : decode cX6_goThrough 17 = .ok (.iload 4, 2) := by decide +kernel
theorem dX6_goThrough_19 : decode cX6_goThrough 19 = .ok (.ifCond .lt 148, 3) := by decide +kernel
theorem dX6_goThrough_22 : decode cX6_goThrough 22 = .ok (.aload_n 0, 1) := by decide +kernel
theorem dX6_goThrough_23 : decode cX6_goThrough 23 = .ok (.getfield 78, 3) := by decide +kernel
theorem dX6_goThrough_26 : decode cX6_goThrough 26 = .ok (.iload 4, 2) := by decide +kernel
theorem dX6_goThrough_28 : decode cX6_goThrough 28 = .ok (.iaload, 1) := by decide +kernel
theorem dX6_goThrough_29 : decode cX6_goThrough 29 = .ok (.aload_n 0, 1) := by decide +kernel
theorem dX6_goThrough_30 : decode cX6_goThrough 30 = .ok (.getfield 95, 3) := by decide +kernel
theorem dX6_goThrough_33 : decode cX6_goThrough 33 = .ok (.if_icmp .ne 27, 3) := by decide +kernel
theorem dX6_goThrough_36 : decode cX6_goThrough 36 = .ok (.iinc 4 (-1), 3) := by decide +kernel
theorem dX6_goThrough_39 : decode cX6_goThrough 39 = .ok (.iload 4, 2) := by decide +kernel
theorem dX6_goThrough_41 : decode cX6_goThrough 41 = .ok (.ifCond .lt (-24), 3) := by decide +kernel
theorem dX6_goThrough_44 : decode cX6_goThrough 44 = .ok (.aload_n 0, 1) := by decide +kernel
theorem dX6_goThrough_45 : decode cX6_goThrough 45 = .ok (.getfield 81, 3) := by decide +kernel
theorem dX6_goThrough_48 : decode cX6_goThrough 48 = .ok (.aload_n 0, 1) := by decide +kernel
theorem dX6_goThrough_49 : decode cX6_goThrough 49 = .ok (.getfield 75, 3) := by decide +kernel
theorem dX6_goThrough_52 : decode cX6_goThrough 52 = .ok (.iload 4, 2) := by decide +kernel
theorem dX6_goThrough_54 : decode cX6_goThrough 54 = .ok (.iaload, 1) := by decide +kernel
theorem dX6_goThrough_55 : decode cX6_goThrough 55 = .ok (.iconst 0, 1) := by decide +kernel
theorem dX6_goThrough_56 : decode cX6_goThrough 56 = .ok (.bastore, 1) := by decide +kernel
theorem dX6_goThrough_57 : decode cX6_goThrough 57 = .ok (.goto (-40), 3) := by decide +kernel
theorem dX6_goThrough_60 : decode cX6_goThrough 60 = .ok (.aload_n 0, 1) := by decide +kernel
theorem dX6_goThrough_61 : decode cX6_goThrough 61 = .ok (.getfield 78, 3) := by decide +kernel
theorem dX6_goThrough_64 : decode cX6_goThrough 64 = .ok (.iload 4, 2) := by decide +kernel
theorem dX6_goThrough_66 : decode cX6_goThrough 66 = .ok (.iaload, 1) := by decide +kernel
theorem dX6_goThrough_67 : decode cX6_goThrough 67 = .ok (.istore 5, 2) := by decide +kernel
theorem dX6_goThrough_69 : decode cX6_goThrough 69 = .ok (.aload_n 0, 1) := by decide +kernel
theorem dX6_goThrough_70 : decode cX6_goThrough 70 = .ok (.getfield 78, 3) := by decide +kernel
theorem dX6_goThrough_73 : decode cX6_goThrough 73 = .ok (.iload 4, 2) := by decide +kernel
theorem dX6_goThrough_75 : decode cX6_goThrough 75 = .ok (.iload 5, 2) := by decide +kernel
theorem dX6_goThrough_77 : decode cX6_goThrough 77 = .ok (.iconst 1, 1) := by decide +kernel
theorem dX6_goThrough_78 : decode cX6_goThrough 78 = .ok (.iadd, 1) := by decide +kernel
theorem dX6_goThrough_79 : decode cX6_goThrough 79 = .ok (.iastore, 1) := by decide +kernel
theorem dX6_goThrough_80 : decode cX6_goThrough 80 = .ok (.aload_n 0, 1) := by decide +kernel
theorem dX6_goThrough_81 : decode cX6_goThrough 81 = .ok (.getfield 81, 3) := by decide +kernel
theorem dX6_goThrough_84 : decode cX6_goThrough 84 = .ok (.iload 5, 2) := by decide +kernel
theorem dX6_goThrough_86 : decode cX6_goThrough 86 = .ok (.baload, 1) := by decide +kernel
theorem dX6_goThrough_87 : decode cX6_goThrough 87 = .ok (.ifCond .ne 77, 3) := by decide +kernel
theorem dX6_goThrough_90 : decode cX6_goThrough 90 = .ok (.aload_n 0, 1) := by decide +kernel
theorem dX6_goThrough_91 : decode cX6_goThrough 91 = .ok (.getfield 75, 3) := by decide +kernel
theorem dX6_goThrough_94 : decode cX6_goThrough 94 = .ok (.iload 4, 2) := by decide +kernel
theorem dX6_goThrough_96 : decode cX6_goThrough 96 = .ok (.iload 5, 2) := by decide +kernel
theorem dX6_goThrough_98 : decode cX6_goThrough 98 = .ok (.iastore, 1) := by decide +kernel
theorem dX6_goThrough_99 : decode cX6_goThrough 99 = .ok (.iload 4, 2) := by decide +kernel
theorem dX6_goThrough_101 : decode cX6_goThrough 101 = .ok (.iconst 1, 1) := by decide +kernel
theorem dX6_goThrough_102 : decode cX6_goThrough 102 = .ok (.iadd, 1) := by decide +kernel
theorem dX6_goThrough_103 : decode cX6_goThrough 103 = .ok (.aload_n 0, 1) := by decide +kernel
theorem dX6_goThrough_104 : decode cX6_goThrough 104 = .ok (.getfield 95, 3) := by decide +kernel
theorem dX6_goThrough_107 : decode cX6_goThrough 107 = .ok (.if_icmp .ne 38, 3) := by decide +kernel
theorem dX6_goThrough_110 : decode cX6_goThrough 110 = .ok (.aload_n 0, 1) := by decide +kernel
theorem dX6_goThrough_111 : decode cX6_goThrough 111 = .ok (.invokevirtual 212, 3) := by decide +kernel
theorem dX6_goThrough_114 : decode cX6_goThrough 114 = .ok (.istore 6, 2) := by decide +kernel
theorem dX6_goThrough_116 : decode cX6_goThrough 116 = .ok (.iload 6, 2) := by decide +kernel
theorem dX6_goThrough_118 : decode cX6_goThrough 118 = .ok (.ifCond .ne 9, 3) := by decide +kernel
theorem dX6_goThrough_121 : decode cX6_goThrough 121 = .ok (.iload_n 2, 1) := by decide +kernel
theorem dX6_goThrough_122 : decode cX6_goThrough 122 = .ok (.iconst 1, 1) := by decide +kernel
theorem dX6_goThrough_123 : decode cX6_goThrough 123 = .ok (.iadd, 1) := by decide +kernel
theorem dX6_goThrough_124 : decode cX6_goThrough 124 = .ok (.goto 4, 3) := by decide +kernel
theorem dX6_goThrough_127 : decode cX6_goThrough 127 = .ok (.iload_n 2, 1) := by decide +kernel
theorem dX6_goThrough_128 : decode cX6_goThrough 128 = .ok (.istore_n 2, 1) := by decide +kernel
theorem dX6_goThrough_129 : decode cX6_goThrough 129 = .ok (.iload 6, 2) := by decide +kernel
theorem dX6_goThrough_131 : decode cX6_goThrough 131 = .ok (.iload_n 3, 1) := by decide +kernel
theorem dX6_goThrough_132 : decode cX6_goThrough 132 = .ok (.if_icmp .ge 8, 3) := by decide +kernel
theorem dX6_goThrough_135 : decode cX6_goThrough 135 = .ok (.iload 6, 2) := by decide +kernel
theorem dX6_goThrough_137 : decode cX6_goThrough 137 = .ok (.goto 4, 3) := by decide +kernel
theorem dX6_goThrough_140 : decode cX6_goThrough 140 = .ok (.iload_n 3, 1) := by decide +kernel
theorem dX6_goThrough_141 : decode cX6_goThrough 141 = .ok (.istore_n 3, 1) := by decide +kernel
theorem dX6_goThrough_142 : decode cX6_goThrough 142 = .ok (.goto 22, 3) := by decide +kernel
theorem dX6_goThrough_145 : decode cX6_goThrough 145 = .ok (.aload_n 0, 1) := by decide +kernel
theorem dX6_goThrough_146 : decode cX6_goThrough 146 = .ok (.getfield 81, 3) := by decide +kernel
theorem dX6_goThrough_149 : decode cX6_goThrough 149 = .ok (.iload 5, 2) := by decide +kernel
theorem dX6_goThrough_151 : decode cX6_goThrough 151 = .ok (.iconst 1, 1) := by decide +kernel
theorem dX6_goThrough_152 : decode cX6_goThrough 152 = .ok (.bastore, 1) := by decide +kernel
theorem dX6_goThrough_153 : decode cX6_goThrough 153 = .ok (.iinc 4 1, 3) := by decide +kernel
theorem dX6_goThrough_156 : decode cX6_goThrough 156 = .ok (.aload_n 0, 1) := by decide +kernel
theorem dX6_goThrough_157 : decode cX6_goThrough 157 = .ok (.getfield 78, 3) := by decide +kernel
theorem dX6_goThrough_160 : decode cX6_goThrough 160 = .ok (.iload 4, 2) := by decide +kernel
theorem dX6_goThrough_162 : decode cX6_goThrough 162 = .ok (.iconst 0, 1) := by decide +kernel
theorem dX6_goThrough_163 : decode cX6_goThrough 163 = .ok (.iastore, 1) := by decide +kernel
theorem dX6_goThrough_164 : decode cX6_goThrough 164 = .ok (.goto (-147), 3) := by decide +kernel
theorem dX6_goThrough_167 : decode cX6_goThrough 167 = .ok (.iload_n 1, 1) := by decide +kernel
theorem dX6_goThrough_168 : decode cX6_goThrough 168 = .ok (.ifCond .eq 7, 3) := by decide +kernel
theorem dX6_goThrough_171 : decode cX6_goThrough 171 = .ok (.iload_n 3, 1) := by decide +kernel
theorem dX6_goThrough_172 : decode cX6_goThrough 172 = .ok (.goto 4, 3) := by decide +kernel
theorem dX6_goThrough_175 : decode cX6_goThrough 175 = .ok (.iload_n 2, 1) := by decide +kernel
theorem dX6_goThrough_176 : decode cX6_goThrough 176 = .ok (.ireturn, 1) := by decide +kernel
theorem dX6_orders_0 : decode cX6_orders 0 = .ok (.aload_n 0, 1) := by decide +kernel
theorem dX6_orders_1 : decode cX6_orders 1 = .ok (.aload_n 0, 1) := by decide +kernel
theorem dX6_orders_2 : decode cX6_orders 2 = .ok (.getfield 95, 3) := by decide +kernel
theorem dX6_orders_5 : decode cX6_orders 5 = .ok (.ifCond .eq 12, 3) := by decide +kernel
theorem dX6_orders_8 : decode cX6_orders 8 = .ok (.aload_n 0, 1) := by decide +kernel
theorem dX6_orders_9 : decode cX6_orders 9 = .ok (.getfield 95, 3) := by decide +kernel
theorem dX6_orders_12 : decode cX6_orders 12 = .ok (.bipush 6, 2) := by decide +kernel
theorem dX6_orders_14 : decode cX6_orders 14 = .ok (.if_icmp .le 7, 3) := by decide +kernel
theorem dX6_orders_17 : decode cX6_orders 17 = .ok (.iconst 1, 1) := by decide +kernel
theorem dX6_orders_18 : decode cX6_orders 18 = .ok (.goto 4, 3) := by decide +kernel
theorem dX6_orders_21 : decode cX6_orders 21 = .ok (.iconst 0, 1) := by decide +kernel
theorem dX6_orders_22 : decode cX6_orders 22 = .ok (.invokevirtual 102, 3) := by decide +kernel
theorem dX6_orders_25 : decode cX6_orders 25 = .ok (.ifCond .eq 7, 3) := by decide +kernel
theorem dX6_orders_28 : decode cX6_orders 28 = .ok (.iconst 0, 1) := by decide +kernel
theorem dX6_orders_29 : decode cX6_orders 29 = .ok (.goto 8, 3) := by decide +kernel
theorem dX6_orders_32 : decode cX6_orders 32 = .ok (.aload_n 0, 1) := by decide +kernel
theorem dX6_orders_33 : decode cX6_orders 33 = .ok (.iconst 0, 1) := by decide +kernel
theorem dX6_orders_34 : decode cX6_orders 34 = .ok (.invokevirtual 215, 3) := by decide +kernel
theorem dX6_orders_37 : decode cX6_orders 37 = .ok (.ireturn, 1) := by decide +kernel
theorem dX6_best_0 : decode cX6_best 0 = .ok (.aload_n 0, 1) := by decide +kernel
theorem dX6_best_1 : decode cX6_best 1 = .ok (.aload_n 0, 1) := by decide +kernel
theorem dX6_best_2 : decode cX6_best 2 = .ok (.getfield 95, 3) := by decide +kernel
theorem dX6_best_5 : decode cX6_best 5 = .ok (.ifCond .eq 12, 3) := by decide +kernel
theorem dX6_best_8 : decode cX6_best 8 = .ok (.aload_n 0, 1) := by decide +kernel
theorem dX6_best_9 : decode cX6_best 9 = .ok (.getfield 95, 3) := by decide +kernel
theorem dX6_best_12 : decode cX6_best 12 = .ok (.bipush 6, 2) := by decide +kernel
theorem dX6_best_14 : decode cX6_best 14 = .ok (.if_icmp .le 7, 3) := by decide +kernel
theorem dX6_best_17 : decode cX6_best 17 = .ok (.iconst 1, 1) := by decide +kernel
theorem dX6_best_18 : decode cX6_best 18 = .ok (.goto 4, 3) := by decide +kernel
theorem dX6_best_21 : decode cX6_best 21 = .ok (.iconst 0, 1) := by decide +kernel
theorem dX6_best_22 : decode cX6_best 22 = .ok (.invokevirtual 102, 3) := by decide +kernel
theorem dX6_best_25 : decode cX6_best 25 = .ok (.ifCond .eq 7, 3) := by decide +kernel
theorem dX6_best_28 : decode cX6_best 28 = .ok (.iconst 0, 1) := by decide +kernel
theorem dX6_best_29 : decode cX6_best 29 = .ok (.goto 8, 3) := by decide +kernel
theorem dX6_best_32 : decode cX6_best 32 = .ok (.aload_n 0, 1) := by decide +kernel
theorem dX6_best_33 : decode cX6_best 33 = .ok (.iconst 1, 1) := by decide +kernel
theorem dX6_best_34 : decode cX6_best 34 = .ok (.invokevirtual 215, 3) := by decide +kernel
theorem dX6_best_37 : decode cX6_best 37 = .ok (.ireturn, 1) := by decide +kernel
theorem dX6_checksum_0 : decode cX6_checksum 0 = .ok (.aload_n 0, 1) := by decide +kernel
theorem dX6_checksum_1 : decode cX6_checksum 1 = .ok (.iconst 0, 1) := by decide +kernel
theorem dX6_checksum_2 : decode cX6_checksum 2 = .ok (.putfield 84, 3) := by decide +kernel
theorem dX6_checksum_5 : decode cX6_checksum 5 = .ok (.ldc2_w 218, 3) := by decide +kernel
theorem dX6_checksum_8 : decode cX6_checksum 8 = .ok (.lstore_n 1, 1) := by decide +kernel
theorem dX6_checksum_9 : decode cX6_checksum 9 = .ok (.iconst 0, 1) := by decide +kernel
theorem dX6_checksum_10 : decode cX6_checksum 10 = .ok (.istore_n 3, 1) := by decide +kernel
theorem dX6_checksum_11 : decode cX6_checksum 11 = .ok (.iload_n 3, 1) := by decide +kernel
theorem dX6_checksum_12 : decode cX6_checksum 12 = .ok (.aload_n 0, 1) := by decide +kernel
theorem dX6_checksum_13 : decode cX6_checksum 13 = .ok (.getfield 95, 3) := by decide +kernel
theorem dX6_checksum_16 : decode cX6_checksum 16 = .ok (.if_icmp .ge 57, 3) := by decide +kernel
theorem dX6_checksum_19 : decode cX6_checksum 19 = .ok (.ldc2_w 220, 3) := by decide +kernel
theorem dX6_checksum_22 : decode cX6_checksum 22 = .ok (.ldc2_w 220, 3) := by decide +kernel
theorem dX6_checksum_25 : decode cX6_checksum 25 = .ok (.ldc2_w 220, 3) := by decide +kernel
theorem dX6_checksum_28 : decode cX6_checksum 28 = .ok (.lload_n 1, 1) := by decide +kernel
theorem dX6_checksum_29 : decode cX6_checksum 29 = .ok (.lmul, 1) := by decide +kernel
theorem dX6_checksum_30 : decode cX6_checksum 30 = .ok (.aload_n 0, 1) := by decide +kernel
theorem dX6_checksum_31 : decode cX6_checksum 31 = .ok (.getfield 7, 3) := by decide +kernel
theorem dX6_checksum_34 : decode cX6_checksum 34 = .ok (.iload_n 3, 1) := by decide +kernel
theorem dX6_checksum_35 : decode cX6_checksum 35 = .ok (.iaload, 1) := by decide +kernel
theorem dX6_checksum_36 : decode cX6_checksum 36 = .ok (.i2l, 1) := by decide +kernel
theorem dX6_checksum_37 : decode cX6_checksum 37 = .ok (.ladd, 1) := by decide +kernel
theorem dX6_checksum_38 : decode cX6_checksum 38 = .ok (.lmul, 1) := by decide +kernel
theorem dX6_checksum_39 : decode cX6_checksum 39 = .ok (.aload_n 0, 1) := by decide +kernel
theorem dX6_checksum_40 : decode cX6_checksum 40 = .ok (.getfield 20, 3) := by decide +kernel
theorem dX6_checksum_43 : decode cX6_checksum 43 = .ok (.aload_n 0, 1) := by decide +kernel
theorem dX6_checksum_44 : decode cX6_checksum 44 = .ok (.getfield 7, 3) := by decide +kernel
theorem dX6_checksum_47 : decode cX6_checksum 47 = .ok (.iload_n 3, 1) := by decide +kernel
theorem dX6_checksum_48 : decode cX6_checksum 48 = .ok (.iaload, 1) := by decide +kernel
theorem dX6_checksum_49 : decode cX6_checksum 49 = .ok (.iaload, 1) := by decide +kernel
theorem dX6_checksum_50 : decode cX6_checksum 50 = .ok (.i2l, 1) := by decide +kernel
theorem dX6_checksum_51 : decode cX6_checksum 51 = .ok (.ladd, 1) := by decide +kernel
theorem dX6_checksum_52 : decode cX6_checksum 52 = .ok (.lmul, 1) := by decide +kernel
theorem dX6_checksum_53 : decode cX6_checksum 53 = .ok (.aload_n 0, 1) := by decide +kernel
theorem dX6_checksum_54 : decode cX6_checksum 54 = .ok (.getfield 23, 3) := by decide +kernel
theorem dX6_checksum_57 : decode cX6_checksum 57 = .ok (.aload_n 0, 1) := by decide +kernel
theorem dX6_checksum_58 : decode cX6_checksum 58 = .ok (.getfield 7, 3) := by decide +kernel
theorem dX6_checksum_61 : decode cX6_checksum 61 = .ok (.iload_n 3, 1) := by decide +kernel
theorem dX6_checksum_62 : decode cX6_checksum 62 = .ok (.iaload, 1) := by decide +kernel
theorem dX6_checksum_63 : decode cX6_checksum 63 = .ok (.iaload, 1) := by decide +kernel
theorem dX6_checksum_64 : decode cX6_checksum 64 = .ok (.i2l, 1) := by decide +kernel
theorem dX6_checksum_65 : decode cX6_checksum 65 = .ok (.ladd, 1) := by decide +kernel
theorem dX6_checksum_66 : decode cX6_checksum 66 = .ok (.lstore_n 1, 1) := by decide +kernel
theorem dX6_checksum_67 : decode cX6_checksum 67 = .ok (.iinc 3 1, 3) := by decide +kernel
theorem dX6_checksum_70 : decode cX6_checksum 70 = .ok (.goto (-59), 3) := by decide +kernel
theorem dX6_checksum_73 : decode cX6_checksum 73 = .ok (.iconst 0, 1) := by decide +kernel
theorem dX6_checksum_74 : decode cX6_checksum 74 = .ok (.istore_n 3, 1) := by decide +kernel
theorem dX6_checksum_75 : decode cX6_checksum 75 = .ok (.iload_n 3, 1) := by decide +kernel
theorem dX6_checksum_76 : decode cX6_checksum 76 = .ok (.aload_n 0, 1) := by decide +kernel
theorem dX6_checksum_77 : decode cX6_checksum 77 = .ok (.getfield 199, 3) := by decide +kernel
theorem dX6_checksum_80 : decode cX6_checksum 80 = .ok (.if_icmp .ge 22, 3) := by decide +kernel
theorem dX6_checksum_83 : decode cX6_checksum 83 = .ok (.ldc2_w 220, 3) := by decide +kernel
theorem dX6_checksum_86 : decode cX6_checksum 86 = .ok (.lload_n 1, 1) := by decide +kernel
theorem dX6_checksum_87 : decode cX6_checksum 87 = .ok (.lmul, 1) := by decide +kernel
theorem dX6_checksum_88 : decode cX6_checksum 88 = .ok (.aload_n 0, 1) := by decide +kernel
theorem dX6_checksum_89 : decode cX6_checksum 89 = .ok (.iload_n 3, 1) := by decide +kernel
theorem dX6_checksum_90 : decode cX6_checksum 90 = .ok (.invokevirtual 205, 3) := by decide +kernel
theorem dX6_checksum_93 : decode cX6_checksum 93 = .ok (.i2l, 1) := by decide +kernel
theorem dX6_checksum_94 : decode cX6_checksum 94 = .ok (.ladd, 1) := by decide +kernel
theorem dX6_checksum_95 : decode cX6_checksum 95 = .ok (.lstore_n 1, 1) := by decide +kernel
theorem dX6_checksum_96 : decode cX6_checksum 96 = .ok (.iinc 3 1, 3) := by decide +kernel
theorem dX6_checksum_99 : decode cX6_checksum 99 = .ok (.goto (-24), 3) := by decide +kernel
theorem dX6_checksum_102 : decode cX6_checksum 102 = .ok (.lload_n 1, 1) := by decide +kernel
theorem dX6_checksum_103 : decode cX6_checksum 103 = .ok (.lreturn, 1) := by decide +kernel
theorem dX6_brokenShare_0 : decode cX6_brokenShare 0 = .ok (.aload_n 0, 1) := by decide +kernel
theorem dX6_brokenShare_1 : decode cX6_brokenShare 1 = .ok (.aload_n 0, 1) := by decide +kernel
theorem dX6_brokenShare_2 : decode cX6_brokenShare 2 = .ok (.getfield 95, 3) := by decide +kernel
theorem dX6_brokenShare_5 : decode cX6_brokenShare 5 = .ok (.iconst 2, 1) := by decide +kernel
theorem dX6_brokenShare_6 : decode cX6_brokenShare 6 = .ok (.if_icmp .ge 7, 3) := by decide +kernel
theorem dX6_brokenShare_9 : decode cX6_brokenShare 9 = .ok (.iconst 1, 1) := by decide +kernel
theorem dX6_brokenShare_10 : decode cX6_brokenShare 10 = .ok (.goto 4, 3) := by decide +kernel
theorem dX6_brokenShare_13 : decode cX6_brokenShare 13 = .ok (.iconst 0, 1) := by decide +kernel
theorem dX6_brokenShare_14 : decode cX6_brokenShare 14 = .ok (.invokevirtual 102, 3) := by decide +kernel
theorem dX6_brokenShare_17 : decode cX6_brokenShare 17 = .ok (.ifCond .eq 7, 3) := by decide +kernel
theorem dX6_brokenShare_20 : decode cX6_brokenShare 20 = .ok (.fconst 0, 1) := by decide +kernel
theorem dX6_brokenShare_21 : decode cX6_brokenShare 21 = .ok (.goto 16, 3) := by decide +kernel
theorem dX6_brokenShare_24 : decode cX6_brokenShare 24 = .ok (.aload_n 0, 1) := by decide +kernel
theorem dX6_brokenShare_25 : decode cX6_brokenShare 25 = .ok (.invokevirtual 192, 3) := by decide +kernel
theorem dX6_brokenShare_28 : decode cX6_brokenShare 28 = .ok (.i2f, 1) := by decide +kernel
theorem dX6_brokenShare_29 : decode cX6_brokenShare 29 = .ok (.aload_n 0, 1) := by decide +kernel
theorem dX6_brokenShare_30 : decode cX6_brokenShare 30 = .ok (.getfield 95, 3) := by decide +kernel
theorem dX6_brokenShare_33 : decode cX6_brokenShare 33 = .ok (.iconst 1, 1) := by decide +kernel
theorem dX6_brokenShare_34 : decode cX6_brokenShare 34 = .ok (.isub, 1) := by decide +kernel
theorem dX6_brokenShare_35 : decode cX6_brokenShare 35 = .ok (.i2f, 1) := by decide +kernel
theorem dX6_brokenShare_36 : decode cX6_brokenShare 36 = .ok (.fdiv, 1) := by decide +kernel
theorem dX6_brokenShare_37 : decode cX6_brokenShare 37 = .ok (.freturn, 1) := by decide +kernel
theorem dX6_meanLength_0 : decode cX6_meanLength 0 = .ok (.aload_n 0, 1) := by decide +kernel
theorem dX6_meanLength_1 : decode cX6_meanLength 1 = .ok (.aload_n 0, 1) := by decide +kernel
theorem dX6_meanLength_2 : decode cX6_meanLength 2 = .ok (.getfield 95, 3) := by decide +kernel
theorem dX6_meanLength_5 : decode cX6_meanLength 5 = .ok (.ifCond .ne 7, 3) := by decide +kernel
theorem dX6_meanLength_8 : decode cX6_meanLength 8 = .ok (.iconst 1, 1) := by decide +kernel
theorem dX6_meanLength_9 : decode cX6_meanLength 9 = .ok (.goto 4, 3) := by decide +kernel
theorem dX6_meanLength_12 : decode cX6_meanLength 12 = .ok (.iconst 0, 1) := by decide +kernel
theorem dX6_meanLength_13 : decode cX6_meanLength 13 = .ok (.invokevirtual 102, 3) := by decide +kernel
theorem dX6_meanLength_16 : decode cX6_meanLength 16 = .ok (.ifCond .eq 7, 3) := by decide +kernel
theorem dX6_meanLength_19 : decode cX6_meanLength 19 = .ok (.dconst 0, 1) := by decide +kernel
theorem dX6_meanLength_20 : decode cX6_meanLength 20 = .ok (.goto 18, 3) := by decide +kernel
theorem dX6_meanLength_23 : decode cX6_meanLength 23 = .ok (.aload_n 0, 1) := by decide +kernel
theorem dX6_meanLength_24 : decode cX6_meanLength 24 = .ok (.aload_n 0, 1) := by decide +kernel
theorem dX6_meanLength_25 : decode cX6_meanLength 25 = .ok (.getfield 95, 3) := by decide +kernel
theorem dX6_meanLength_28 : decode cX6_meanLength 28 = .ok (.invokevirtual 147, 3) := by decide +kernel
theorem dX6_meanLength_31 : decode cX6_meanLength 31 = .ok (.i2d, 1) := by decide +kernel
theorem dX6_meanLength_32 : decode cX6_meanLength 32 = .ok (.aload_n 0, 1) := by decide +kernel
theorem dX6_meanLength_33 : decode cX6_meanLength 33 = .ok (.getfield 95, 3) := by decide +kernel
theorem dX6_meanLength_36 : decode cX6_meanLength 36 = .ok (.i2d, 1) := by decide +kernel
theorem dX6_meanLength_37 : decode cX6_meanLength 37 = .ok (.ddiv, 1) := by decide +kernel
theorem dX6_meanLength_38 : decode cX6_meanLength 38 = .ok (.dreturn, 1) := by decide +kernel
theorem dX6_isSound_0 : decode cX6_isSound 0 = .ok (.aload_n 0, 1) := by decide +kernel
theorem dX6_isSound_1 : decode cX6_isSound 1 = .ok (.iconst 0, 1) := by decide +kernel
theorem dX6_isSound_2 : decode cX6_isSound 2 = .ok (.putfield 84, 3) := by decide +kernel
theorem dX6_isSound_5 : decode cX6_isSound 5 = .ok (.iconst 1, 1) := by decide +kernel
theorem dX6_isSound_6 : decode cX6_isSound 6 = .ok (.ireturn, 1) := by decide +kernel
theorem dJ6_bitCount_0f7a4_0 : decode cJ6_bitCount_0f7a4 0 = .ok (.iload_n 0, 1) := by decide +kernel
theorem dJ6_bitCount_0f7a4_1 : decode cJ6_bitCount_0f7a4 1 = .ok (.iload_n 0, 1) := by decide +kernel
theorem dJ6_bitCount_0f7a4_2 : decode cJ6_bitCount_0f7a4 2 = .ok (.iconst 1, 1) := by decide +kernel
theorem dJ6_bitCount_0f7a4_3 : decode cJ6_bitCount_0f7a4 3 = .ok (.iushr, 1) := by decide +kernel
theorem dJ6_bitCount_0f7a4_4 : decode cJ6_bitCount_0f7a4 4 = .ok (.ldc_w 265, 3) := by decide +kernel
theorem dJ6_bitCount_0f7a4_7 : decode cJ6_bitCount_0f7a4 7 = .ok (.iand, 1) := by decide +kernel
theorem dJ6_bitCount_0f7a4_8 : decode cJ6_bitCount_0f7a4 8 = .ok (.isub, 1) := by decide +kernel
theorem dJ6_bitCount_0f7a4_9 : decode cJ6_bitCount_0f7a4 9 = .ok (.istore_n 0, 1) := by decide +kernel
theorem dJ6_bitCount_0f7a4_10 : decode cJ6_bitCount_0f7a4 10 = .ok (.iload_n 0, 1) := by decide +kernel
theorem dJ6_bitCount_0f7a4_11 : decode cJ6_bitCount_0f7a4 11 = .ok (.ldc_w 266, 3) := by decide +kernel
theorem dJ6_bitCount_0f7a4_14 : decode cJ6_bitCount_0f7a4 14 = .ok (.iand, 1) := by decide +kernel
theorem dJ6_bitCount_0f7a4_15 : decode cJ6_bitCount_0f7a4 15 = .ok (.iload_n 0, 1) := by decide +kernel
theorem dJ6_bitCount_0f7a4_16 : decode cJ6_bitCount_0f7a4 16 = .ok (.iconst 2, 1) := by decide +kernel
theorem dJ6_bitCount_0f7a4_17 : decode cJ6_bitCount_0f7a4 17 = .ok (.iushr, 1) := by decide +kernel
theorem dJ6_bitCount_0f7a4_18 : decode cJ6_bitCount_0f7a4 18 = .ok (.ldc_w 266, 3) := by decide +kernel
theorem dJ6_bitCount_0f7a4_21 : decode cJ6_bitCount_0f7a4 21 = .ok (.iand, 1) := by decide +kernel
theorem dJ6_bitCount_0f7a4_22 : decode cJ6_bitCount_0f7a4 22 = .ok (.iadd, 1) := by decide +kernel
theorem dJ6_bitCount_0f7a4_23 : decode cJ6_bitCount_0f7a4 23 = .ok (.istore_n 0, 1) := by decide +kernel
theorem dJ6_bitCount_0f7a4_24 : decode cJ6_bitCount_0f7a4 24 = .ok (.iload_n 0, 1) := by decide +kernel
theorem dJ6_bitCount_0f7a4_25 : decode cJ6_bitCount_0f7a4 25 = .ok (.iload_n 0, 1) := by decide +kernel
theorem dJ6_bitCount_0f7a4_26 : decode cJ6_bitCount_0f7a4 26 = .ok (.iconst 4, 1) := by decide +kernel
theorem dJ6_bitCount_0f7a4_27 : decode cJ6_bitCount_0f7a4 27 = .ok (.iushr, 1) := by decide +kernel
theorem dJ6_bitCount_0f7a4_28 : decode cJ6_bitCount_0f7a4 28 = .ok (.iadd, 1) := by decide +kernel
theorem dJ6_bitCount_0f7a4_29 : decode cJ6_bitCount_0f7a4 29 = .ok (.ldc_w 267, 3) := by decide +kernel
theorem dJ6_bitCount_0f7a4_32 : decode cJ6_bitCount_0f7a4 32 = .ok (.iand, 1) := by decide +kernel
theorem dJ6_bitCount_0f7a4_33 : decode cJ6_bitCount_0f7a4 33 = .ok (.istore_n 0, 1) := by decide +kernel
theorem dJ6_bitCount_0f7a4_34 : decode cJ6_bitCount_0f7a4 34 = .ok (.iload_n 0, 1) := by decide +kernel
theorem dJ6_bitCount_0f7a4_35 : decode cJ6_bitCount_0f7a4 35 = .ok (.iload_n 0, 1) := by decide +kernel
theorem dJ6_bitCount_0f7a4_36 : decode cJ6_bitCount_0f7a4 36 = .ok (.bipush 8, 2) := by decide +kernel
theorem dJ6_bitCount_0f7a4_38 : decode cJ6_bitCount_0f7a4 38 = .ok (.iushr, 1) := by decide +kernel
theorem dJ6_bitCount_0f7a4_39 : decode cJ6_bitCount_0f7a4 39 = .ok (.iadd, 1) := by decide +kernel
theorem dJ6_bitCount_0f7a4_40 : decode cJ6_bitCount_0f7a4 40 = .ok (.istore_n 0, 1) := by decide +kernel
theorem dJ6_bitCount_0f7a4_41 : decode cJ6_bitCount_0f7a4 41 = .ok (.iload_n 0, 1) := by decide +kernel
theorem dJ6_bitCount_0f7a4_42 : decode cJ6_bitCount_0f7a4 42 = .ok (.iload_n 0, 1) := by decide +kernel
theorem dJ6_bitCount_0f7a4_43 : decode cJ6_bitCount_0f7a4 43 = .ok (.bipush 16, 2) := by decide +kernel
theorem dJ6_bitCount_0f7a4_45 : decode cJ6_bitCount_0f7a4 45 = .ok (.iushr, 1) := by decide +kernel
theorem dJ6_bitCount_0f7a4_46 : decode cJ6_bitCount_0f7a4 46 = .ok (.iadd, 1) := by decide +kernel
theorem dJ6_bitCount_0f7a4_47 : decode cJ6_bitCount_0f7a4 47 = .ok (.istore_n 0, 1) := by decide +kernel
theorem dJ6_bitCount_0f7a4_48 : decode cJ6_bitCount_0f7a4 48 = .ok (.iload_n 0, 1) := by decide +kernel
theorem dJ6_bitCount_0f7a4_49 : decode cJ6_bitCount_0f7a4 49 = .ok (.bipush 63, 2) := by decide +kernel
theorem dJ6_bitCount_0f7a4_51 : decode cJ6_bitCount_0f7a4 51 = .ok (.iand, 1) := by decide +kernel
theorem dJ6_bitCount_0f7a4_52 : decode cJ6_bitCount_0f7a4 52 = .ok (.ireturn, 1) := by decide +kernel
theorem dJ9_max_7cf53_0 : decode cJ9_max_7cf53 0 = .ok (.iload_n 0, 1) := by decide +kernel
theorem dJ9_max_7cf53_1 : decode cJ9_max_7cf53 1 = .ok (.iload_n 1, 1) := by decide +kernel
theorem dJ9_max_7cf53_2 : decode cJ9_max_7cf53 2 = .ok (.if_icmp .lt 7, 3) := by decide +kernel
theorem dJ9_max_7cf53_5 : decode cJ9_max_7cf53 5 = .ok (.iload_n 0, 1) := by decide +kernel
theorem dJ9_max_7cf53_6 : decode cJ9_max_7cf53 6 = .ok (.goto 4, 3) := by decide +kernel
theorem dJ9_max_7cf53_9 : decode cJ9_max_7cf53 9 = .ok (.iload_n 1, 1) := by decide +kernel
theorem dJ9_max_7cf53_10 : decode cJ9_max_7cf53 10 = .ok (.ireturn, 1) := by decide +kernel
theorem dJ9_min_7cf53_0 : decode cJ9_min_7cf53 0 = .ok (.iload_n 0, 1) := by decide +kernel
theorem dJ9_min_7cf53_1 : decode cJ9_min_7cf53 1 = .ok (.iload_n 1, 1) := by decide +kernel
theorem dJ9_min_7cf53_2 : decode cJ9_min_7cf53 2 = .ok (.if_icmp .gt 7, 3) := by decide +kernel
theorem dJ9_min_7cf53_5 : decode cJ9_min_7cf53 5 = .ok (.iload_n 0, 1) := by decide +kernel
theorem dJ9_min_7cf53_6 : decode cJ9_min_7cf53 6 = .ok (.goto 4, 3) := by decide +kernel
theorem dJ9_min_7cf53_9 : decode cJ9_min_7cf53 9 = .ok (.iload_n 1, 1) := by decide +kernel
theorem dJ9_min_7cf53_10 : decode cJ9_min_7cf53 10 = .ok (.ireturn, 1) := by decide +kernel
theorem dJxa1e45_init_da8c8_0 : decode cJxa1e45_init_da8c8 0 = .ok (.aload_n 0, 1) := by decide +kernel
theorem dJxa1e45_init_da8c8_1 : decode cJxa1e45_init_da8c8 1 = .ok (.invokespecial 1, 3) := by decide +kernel
theorem dJxa1e45_init_da8c8_4 : decode cJxa1e45_init_da8c8 4 = .ok (.return_, 1) := by decide +kernel
theorem dJxc12de_init_da8c8_0 : decode cJxc12de_init_da8c8 0 = .ok (.aload_n 0, 1) := by decide +kernel
theorem dJxc12de_init_da8c8_1 : decode cJxc12de_init_da8c8 1 = .ok (.invokespecial 1, 3) := by decide +kernel
theorem dJxc12de_init_da8c8_4 : decode cJxc12de_init_da8c8 4 = .ok (.aload_n 0, 1) := by decide +kernel
theorem dJxc12de_init_da8c8_5 : decode cJxc12de_init_da8c8 5 = .ok (.iconst 0, 1) := by decide +kernel
theorem dJxc12de_init_da8c8_6 : decode cJxc12de_init_da8c8 6 = .ok (.putfield 7, 3) := by decide +kernel
theorem dJxc12de_init_da8c8_9 : decode cJxc12de_init_da8c8 9 = .ok (.return_, 1) := by decide +kernel
theorem dJx4a65c_init_da8c8_0 : decode cJx4a65c_init_da8c8 0 = .ok (.aload_n 0, 1) := by decide +kernel
theorem dJx4a65c_init_da8c8_1 : decode cJx4a65c_init_da8c8 1 = .ok (.invokespecial 1, 3) := by decide +kernel
theorem dJx4a65c_init_da8c8_4 : decode cJx4a65c_init_da8c8 4 = .ok (.aload_n 0, 1) := by decide +kernel
theorem dJx4a65c_init_da8c8_5 : decode cJx4a65c_init_da8c8 5 = .ok (.getstatic 39, 3) := by decide +kernel
theorem dJx4a65c_init_da8c8_8 : decode cJx4a65c_init_da8c8 8 = .ok (.putfield 9, 3) := by decide +kernel
theorem dJx4a65c_init_da8c8_11 : decode cJx4a65c_init_da8c8 11 = .ok (.return_, 1) := by decide +kernel
theorem dJx4a65c_grow_92f84_0 : decode cJx4a65c_grow_92f84 0 = .ok (.aload_n 0, 1) := by decide +kernel
theorem dJx4a65c_grow_92f84_1 : decode cJx4a65c_grow_92f84 1 = .ok (.getfield 9, 3) := by decide +kernel
theorem dJx4a65c_grow_92f84_4 : decode cJx4a65c_grow_92f84 4 = .ok (.arraylength, 1) := by decide +kernel
theorem dJx4a65c_grow_92f84_5 : decode cJx4a65c_grow_92f84 5 = .ok (.istore_n 2, 1) := by decide +kernel
theorem dJx4a65c_grow_92f84_6 : decode cJx4a65c_grow_92f84 6 = .ok (.iload_n 2, 1) := by decide +kernel
theorem dJx4a65c_grow_92f84_7 : decode cJx4a65c_grow_92f84 7 = .ok (.ifCond .gt 13, 3) := by decide +kernel
theorem dJx4a65c_grow_92f84_10 : decode cJx4a65c_grow_92f84 10 = .ok (.aload_n 0, 1) := by decide +kernel
theorem dJx4a65c_grow_92f84_11 : decode cJx4a65c_grow_92f84 11 = .ok (.getfield 9, 3) := by decide +kernel
theorem dJx4a65c_grow_92f84_14 : decode cJx4a65c_grow_92f84 14 = .ok (.getstatic 39, 3) := by decide +kernel
theorem dJx4a65c_grow_92f84_17 : decode cJx4a65c_grow_92f84 17 = .ok (.if_acmp .eq 28, 3) := by decide +kernel
theorem dJx4a65c_grow_92f84_20 : decode cJx4a65c_grow_92f84 20 = .ok (.iload_n 2, 1) := by decide +kernel
theorem dJx4a65c_grow_92f84_21 : decode cJx4a65c_grow_92f84 21 = .ok (.iload_n 1, 1) := by decide +kernel
theorem dJx4a65c_grow_92f84_22 : decode cJx4a65c_grow_92f84 22 = .ok (.iload_n 2, 1) := by decide +kernel
theorem dJx4a65c_grow_92f84_23 : decode cJx4a65c_grow_92f84 23 = .ok (.isub, 1) := by decide +kernel
theorem dJx4a65c_grow_92f84_24 : decode cJx4a65c_grow_92f84 24 = .ok (.iload_n 2, 1) := by decide +kernel
theorem dJx4a65c_grow_92f84_25 : decode cJx4a65c_grow_92f84 25 = .ok (.iconst 1, 1) := by decide +kernel
theorem dJx4a65c_grow_92f84_26 : decode cJx4a65c_grow_92f84 26 = .ok (.ishr, 1) := by decide +kernel
theorem dJx4a65c_grow_92f84_27 : decode cJx4a65c_grow_92f84 27 = .ok (.invokestatic 73, 3) := by decide +kernel
theorem dJx4a65c_grow_92f84_30 : decode cJx4a65c_grow_92f84 30 = .ok (.istore_n 3, 1) := by decide +kernel
theorem dJx4a65c_grow_92f84_31 : decode cJx4a65c_grow_92f84 31 = .ok (.aload_n 0, 1) := by decide +kernel
theorem dJx4a65c_grow_92f84_32 : decode cJx4a65c_grow_92f84 32 = .ok (.aload_n 0, 1) := by decide +kernel
theorem dJx4a65c_grow_92f84_33 : decode cJx4a65c_grow_92f84 33 = .ok (.getfield 9, 3) := by decide +kernel
theorem dJx4a65c_grow_92f84_36 : decode cJx4a65c_grow_92f84 36 = .ok (.iload_n 3, 1) := by decide +kernel
theorem dJx4a65c_grow_92f84_37 : decode cJx4a65c_grow_92f84 37 = .ok (.invokestatic 66, 3) := by decide +kernel
theorem dJx4a65c_grow_92f84_40 : decode cJx4a65c_grow_92f84 40 = .ok (.dup_x1, 1) := by decide +kernel
theorem dJx4a65c_grow_92f84_41 : decode cJx4a65c_grow_92f84 41 = .ok (.putfield 9, 3) := by decide +kernel
theorem dJx4a65c_grow_92f84_44 : decode cJx4a65c_grow_92f84 44 = .ok (.areturn, 1) := by decide +kernel
theorem dJx4a65c_grow_92f84_45 : decode cJx4a65c_grow_92f84 45 = .ok (.aload_n 0, 1) := by decide +kernel
theorem dJx4a65c_grow_92f84_46 : decode cJx4a65c_grow_92f84 46 = .ok (.bipush 10, 2) := by decide +kernel
theorem dJx4a65c_grow_92f84_48 : decode cJx4a65c_grow_92f84 48 = .ok (.iload_n 1, 1) := by decide +kernel
theorem dJx4a65c_grow_92f84_49 : decode cJx4a65c_grow_92f84 49 = .ok (.invokestatic 79, 3) := by decide +kernel
theorem dJx4a65c_grow_92f84_52 : decode cJx4a65c_grow_92f84 52 = .ok (.anewarray 7, 3) := by decide +kernel
theorem dJx4a65c_grow_92f84_55 : decode cJx4a65c_grow_92f84 55 = .ok (.dup_x1, 1) := by decide +kernel
theorem dJx4a65c_grow_92f84_56 : decode cJx4a65c_grow_92f84 56 = .ok (.putfield 9, 3) := by decide +kernel
theorem dJx4a65c_grow_92f84_59 : decode cJx4a65c_grow_92f84 59 = .ok (.areturn, 1) := by decide +kernel
theorem dJx4a65c_grow_d5877_0 : decode cJx4a65c_grow_d5877 0 = .ok (.aload_n 0, 1) := by decide +kernel
theorem dJx4a65c_grow_d5877_1 : decode cJx4a65c_grow_d5877 1 = .ok (.aload_n 0, 1) := by decide +kernel
theorem dJx4a65c_grow_d5877_2 : decode cJx4a65c_grow_d5877 2 = .ok (.getfield 48, 3) := by decide +kernel
theorem dJx4a65c_grow_d5877_5 : decode cJx4a65c_grow_d5877 5 = .ok (.iconst 1, 1) := by decide +kernel
theorem dJx4a65c_grow_d5877_6 : decode cJx4a65c_grow_d5877 6 = .ok (.iadd, 1) := by decide +kernel
theorem dJx4a65c_grow_d5877_7 : decode cJx4a65c_grow_d5877 7 = .ok (.invokevirtual 69, 3) := by decide +kernel
theorem dJx4a65c_grow_d5877_10 : decode cJx4a65c_grow_d5877 10 = .ok (.areturn, 1) := by decide +kernel
theorem dJx4a65c_size_8abf5_0 : decode cJx4a65c_size_8abf5 0 = .ok (.aload_n 0, 1) := by decide +kernel
theorem dJx4a65c_size_8abf5_1 : decode cJx4a65c_size_8abf5 1 = .ok (.getfield 48, 3) := by decide +kernel
theorem dJx4a65c_size_8abf5_4 : decode cJx4a65c_size_8abf5 4 = .ok (.ireturn, 1) := by decide +kernel
theorem dJx4a65c_isEmpty_aae02_0 : decode cJx4a65c_isEmpty_aae02 0 = .ok (.aload_n 0, 1) := by decide +kernel
theorem dJx4a65c_isEmpty_aae02_1 : decode cJx4a65c_isEmpty_aae02 1 = .ok (.getfield 48, 3) := by decide +kernel
theorem dJx4a65c_isEmpty_aae02_4 : decode cJx4a65c_isEmpty_aae02 4 = .ok (.ifCond .ne 7, 3) := by decide +kernel
theorem dJx4a65c_isEmpty_aae02_7 : decode cJx4a65c_isEmpty_aae02 7 = .ok (.iconst 1, 1) := by decide +kernel
theorem dJx4a65c_isEmpty_aae02_8 : decode cJx4a65c_isEmpty_aae02 8 = .ok (.goto 4, 3) := by decide +kernel
theorem dJx4a65c_isEmpty_aae02_11 : decode cJx4a65c_isEmpty_aae02 11 = .ok (.iconst 0, 1) := by decide +kernel
theorem dJx4a65c_isEmpty_aae02_12 : decode cJx4a65c_isEmpty_aae02 12 = .ok (.ireturn, 1) := by decide +kernel
theorem dJx4a65c_elementData_915e3_0 : decode cJx4a65c_elementData_915e3 0 = .ok (.aload_n 0, 1) := by decide +kernel
theorem dJx4a65c_elementData_915e3_1 : decode cJx4a65c_elementData_915e3 1 = .ok (.getfield 9, 3) := by decide +kernel
theorem dJx4a65c_elementData_915e3_4 : decode cJx4a65c_elementData_915e3 4 = .ok (.iload_n 1, 1) := by decide +kernel
theorem dJx4a65c_elementData_915e3_5 : decode cJx4a65c_elementData_915e3 5 = .ok (.aaload, 1) := by decide +kernel
theorem dJx4a65c_elementData_915e3_6 : decode cJx4a65c_elementData_915e3 6 = .ok (.areturn, 1) := by decide +kernel
theorem dJx4a65c_get_915e3_0 : decode cJx4a65c_get_915e3 0 = .ok (.iload_n 1, 1) := by decide +kernel
theorem dJx4a65c_get_915e3_1 : decode cJx4a65c_get_915e3 1 = .ok (.aload_n 0, 1) := by decide +kernel
theorem dJx4a65c_get_915e3_2 : decode cJx4a65c_get_915e3 2 = .ok (.getfield 48, 3) := by decide +kernel
theorem dJx4a65c_get_915e3_5 : decode cJx4a65c_get_915e3 5 = .ok (.invokestatic 118, 3) := by decide +kernel
theorem dJx4a65c_get_915e3_8 : decode cJx4a65c_get_915e3 8 = .ok (.pop, 1) := by decide +kernel
theorem dJx4a65c_get_915e3_9 : decode cJx4a65c_get_915e3 9 = .ok (.aload_n 0, 1) := by decide +kernel
theorem dJx4a65c_get_915e3_10 : decode cJx4a65c_get_915e3 10 = .ok (.iload_n 1, 1) := by decide +kernel
theorem dJx4a65c_get_915e3_11 : decode cJx4a65c_get_915e3 11 = .ok (.invokevirtual 123, 3) := by decide +kernel
theorem dJx4a65c_get_915e3_14 : decode cJx4a65c_get_915e3 14 = .ok (.areturn, 1) := by decide +kernel
theorem dJx4a65c_add_72be8_0 : decode cJx4a65c_add_72be8 0 = .ok (.iload_n 3, 1) := by decide +kernel
theorem dJx4a65c_add_72be8_1 : decode cJx4a65c_add_72be8 1 = .ok (.aload_n 2, 1) := by decide +kernel
theorem dJx4a65c_add_72be8_2 : decode cJx4a65c_add_72be8 2 = .ok (.arraylength, 1) := by decide +kernel
theorem dJx4a65c_add_72be8_3 : decode cJx4a65c_add_72be8 3 = .ok (.if_icmp .ne 8, 3) := by decide +kernel
theorem dJx4a65c_add_72be8_6 : decode cJx4a65c_add_72be8 6 = .ok (.aload_n 0, 1) := by decide +kernel
theorem dJx4a65c_add_72be8_7 : decode cJx4a65c_add_72be8 7 = .ok (.invokevirtual 129, 3) := by decide +kernel
theorem dJx4a65c_add_72be8_10 : decode cJx4a65c_add_72be8 10 = .ok (.astore_n 2, 1) := by decide +kernel
theorem dJx4a65c_add_72be8_11 : decode cJx4a65c_add_72be8 11 = .ok (.aload_n 2, 1) := by decide +kernel
theorem dJx4a65c_add_72be8_12 : decode cJx4a65c_add_72be8 12 = .ok (.iload_n 3, 1) := by decide +kernel
theorem dJx4a65c_add_72be8_13 : decode cJx4a65c_add_72be8 13 = .ok (.aload_n 1, 1) := by decide +kernel
theorem dJx4a65c_add_72be8_14 : decode cJx4a65c_add_72be8 14 = .ok (.aastore, 1) := by decide +kernel
theorem dJx4a65c_add_72be8_15 : decode cJx4a65c_add_72be8 15 = .ok (.aload_n 0, 1) := by decide +kernel
theorem dJx4a65c_add_72be8_16 : decode cJx4a65c_add_72be8 16 = .ok (.iload_n 3, 1) := by decide +kernel
theorem dJx4a65c_add_72be8_17 : decode cJx4a65c_add_72be8 17 = .ok (.iconst 1, 1) := by decide +kernel
theorem dJx4a65c_add_72be8_18 : decode cJx4a65c_add_72be8 18 = .ok (.iadd, 1) := by decide +kernel
theorem dJx4a65c_add_72be8_19 : decode cJx4a65c_add_72be8 19 = .ok (.putfield 48, 3) := by decide +kernel
theorem dJx4a65c_add_72be8_22 : decode cJx4a65c_add_72be8 22 = .ok (.return_, 1) := by decide +kernel
theorem dJx4a65c_add_9ea2d_0 : decode cJx4a65c_add_9ea2d 0 = .ok (.aload_n 0, 1) := by decide +kernel
theorem dJx4a65c_add_9ea2d_1 : decode cJx4a65c_add_9ea2d 1 = .ok (.dup, 1) := by decide +kernel
theorem dJx4a65c_add_9ea2d_2 : decode cJx4a65c_add_9ea2d 2 = .ok (.getfield 63, 3) := by decide +kernel
theorem dJx4a65c_add_9ea2d_5 : decode cJx4a65c_add_9ea2d 5 = .ok (.iconst 1, 1) := by decide +kernel
theorem dJx4a65c_add_9ea2d_6 : decode cJx4a65c_add_9ea2d 6 = .ok (.iadd, 1) := by decide +kernel
theorem dJx4a65c_add_9ea2d_7 : decode cJx4a65c_add_9ea2d 7 = .ok (.putfield 63, 3) := by decide +kernel
theorem dJx4a65c_add_9ea2d_10 : decode cJx4a65c_add_9ea2d 10 = .ok (.aload_n 0, 1) := by decide +kernel
theorem dJx4a65c_add_9ea2d_11 : decode cJx4a65c_add_9ea2d 11 = .ok (.aload_n 1, 1) := by decide +kernel
theorem dJx4a65c_add_9ea2d_12 : decode cJx4a65c_add_9ea2d 12 = .ok (.aload_n 0, 1) := by decide +kernel
theorem dJx4a65c_add_9ea2d_13 : decode cJx4a65c_add_9ea2d 13 = .ok (.getfield 9, 3) := by decide +kernel
theorem dJx4a65c_add_9ea2d_16 : decode cJx4a65c_add_9ea2d 16 = .ok (.aload_n 0, 1) := by decide +kernel
theorem dJx4a65c_add_9ea2d_17 : decode cJx4a65c_add_9ea2d 17 = .ok (.getfield 48, 3) := by decide +kernel
theorem dJx4a65c_add_9ea2d_20 : decode cJx4a65c_add_9ea2d 20 = .ok (.invokevirtual 131, 3) := by decide +kernel
theorem dJx4a65c_add_9ea2d_23 : decode cJx4a65c_add_9ea2d 23 = .ok (.iconst 1, 1) := by decide +kernel
theorem dJx4a65c_add_9ea2d_24 : decode cJx4a65c_add_9ea2d 24 = .ok (.ireturn, 1) := by decide +kernel
theorem dJx4a65c_add_7a177_0 : decode cJx4a65c_add_7a177 0 = .ok (.aload_n 0, 1) := by decide +kernel
theorem dJx4a65c_add_7a177_1 : decode cJx4a65c_add_7a177 1 = .ok (.iload_n 1, 1) := by decide +kernel
theorem dJx4a65c_add_7a177_2 : decode cJx4a65c_add_7a177 2 = .ok (.invokevirtual 135, 3) := by decide +kernel
theorem dJx4a65c_add_7a177_5 : decode cJx4a65c_add_7a177 5 = .ok (.aload_n 0, 1) := by decide +kernel
theorem dJx4a65c_add_7a177_6 : decode cJx4a65c_add_7a177 6 = .ok (.dup, 1) := by decide +kernel
theorem dJx4a65c_add_7a177_7 : decode cJx4a65c_add_7a177 7 = .ok (.getfield 63, 3) := by decide +kernel
theorem dJx4a65c_add_7a177_10 : decode cJx4a65c_add_7a177 10 = .ok (.iconst 1, 1) := by decide +kernel
theorem dJx4a65c_add_7a177_11 : decode cJx4a65c_add_7a177 11 = .ok (.iadd, 1) := by decide +kernel
theorem dJx4a65c_add_7a177_12 : decode cJx4a65c_add_7a177 12 = .ok (.putfield 63, 3) := by decide +kernel
theorem dJx4a65c_add_7a177_15 : decode cJx4a65c_add_7a177 15 = .ok (.aload_n 0, 1) := by decide +kernel
theorem dJx4a65c_add_7a177_16 : decode cJx4a65c_add_7a177 16 = .ok (.getfield 48, 3) := by decide +kernel
theorem dJx4a65c_add_7a177_19 : decode cJx4a65c_add_7a177 19 = .ok (.dup, 1) := by decide +kernel
theorem dJx4a65c_add_7a177_20 : decode cJx4a65c_add_7a177 20 = .ok (.istore_n 3, 1) := by decide +kernel
theorem dJx4a65c_add_7a177_21 : decode cJx4a65c_add_7a177 21 = .ok (.aload_n 0, 1) := by decide +kernel
theorem dJx4a65c_add_7a177_22 : decode cJx4a65c_add_7a177 22 = .ok (.getfield 9, 3) := by decide +kernel
theorem dJx4a65c_add_7a177_25 : decode cJx4a65c_add_7a177 25 = .ok (.dup, 1) := by decide +kernel
theorem dJx4a65c_add_7a177_26 : decode cJx4a65c_add_7a177 26 = .ok (.astore 4, 2) := by decide +kernel
theorem dJx4a65c_add_7a177_28 : decode cJx4a65c_add_7a177 28 = .ok (.arraylength, 1) := by decide +kernel
theorem dJx4a65c_add_7a177_29 : decode cJx4a65c_add_7a177 29 = .ok (.if_icmp .ne 9, 3) := by decide +kernel
theorem dJx4a65c_add_7a177_32 : decode cJx4a65c_add_7a177 32 = .ok (.aload_n 0, 1) := by decide +kernel
theorem dJx4a65c_add_7a177_33 : decode cJx4a65c_add_7a177 33 = .ok (.invokevirtual 129, 3) := by decide +kernel
theorem dJx4a65c_add_7a177_36 : decode cJx4a65c_add_7a177 36 = .ok (.astore 4, 2) := by decide +kernel
theorem dJx4a65c_add_7a177_38 : decode cJx4a65c_add_7a177 38 = .ok (.aload 4, 2) := by decide +kernel
theorem dJx4a65c_add_7a177_40 : decode cJx4a65c_add_7a177 40 = .ok (.iload_n 1, 1) := by decide +kernel
theorem dJx4a65c_add_7a177_41 : decode cJx4a65c_add_7a177 41 = .ok (.aload 4, 2) := by decide +kernel
theorem dJx4a65c_add_7a177_43 : decode cJx4a65c_add_7a177 43 = .ok (.iload_n 1, 1) := by decide +kernel
theorem dJx4a65c_add_7a177_44 : decode cJx4a65c_add_7a177 44 = .ok (.iconst 1, 1) := by decide +kernel
theorem dJx4a65c_add_7a177_45 : decode cJx4a65c_add_7a177 45 = .ok (.iadd, 1) := by decide +kernel
theorem dJx4a65c_add_7a177_46 : decode cJx4a65c_add_7a177 46 = .ok (.iload_n 3, 1) := by decide +kernel
theorem dJx4a65c_add_7a177_47 : decode cJx4a65c_add_7a177 47 = .ok (.iload_n 1, 1) := by decide +kernel
theorem dJx4a65c_add_7a177_48 : decode cJx4a65c_add_7a177 48 = .ok (.isub, 1) := by decide +kernel
theorem dJx4a65c_add_7a177_49 : decode cJx4a65c_add_7a177 49 = .ok (.invokestatic 112, 3) := by decide +kernel
theorem dJx4a65c_add_7a177_52 : decode cJx4a65c_add_7a177 52 = .ok (.aload 4, 2) := by decide +kernel
theorem dJx4a65c_add_7a177_54 : decode cJx4a65c_add_7a177 54 = .ok (.iload_n 1, 1) := by decide +kernel
theorem dJx4a65c_add_7a177_55 : decode cJx4a65c_add_7a177 55 = .ok (.aload_n 2, 1) := by decide +kernel
theorem dJx4a65c_add_7a177_56 : decode cJx4a65c_add_7a177 56 = .ok (.aastore, 1) := by decide +kernel
theorem dJx4a65c_add_7a177_57 : decode cJx4a65c_add_7a177 57 = .ok (.aload_n 0, 1) := by decide +kernel
theorem dJx4a65c_add_7a177_58 : decode cJx4a65c_add_7a177 58 = .ok (.iload_n 3, 1) := by decide +kernel
theorem dJx4a65c_add_7a177_59 : decode cJx4a65c_add_7a177 59 = .ok (.iconst 1, 1) := by decide +kernel
theorem dJx4a65c_add_7a177_60 : decode cJx4a65c_add_7a177 60 = .ok (.iadd, 1) := by decide +kernel
theorem dJx4a65c_add_7a177_61 : decode cJx4a65c_add_7a177 61 = .ok (.putfield 48, 3) := by decide +kernel
theorem dJx4a65c_add_7a177_64 : decode cJx4a65c_add_7a177 64 = .ok (.return_, 1) := by decide +kernel
theorem dJx4a65c_remove_915e3_0 : decode cJx4a65c_remove_915e3 0 = .ok (.iload_n 1, 1) := by decide +kernel
theorem dJx4a65c_remove_915e3_1 : decode cJx4a65c_remove_915e3 1 = .ok (.aload_n 0, 1) := by decide +kernel
theorem dJx4a65c_remove_915e3_2 : decode cJx4a65c_remove_915e3 2 = .ok (.getfield 48, 3) := by decide +kernel
theorem dJx4a65c_remove_915e3_5 : decode cJx4a65c_remove_915e3 5 = .ok (.invokestatic 118, 3) := by decide +kernel
theorem dJx4a65c_remove_915e3_8 : decode cJx4a65c_remove_915e3 8 = .ok (.pop, 1) := by decide +kernel
theorem dJx4a65c_remove_915e3_9 : decode cJx4a65c_remove_915e3 9 = .ok (.aload_n 0, 1) := by decide +kernel
theorem dJx4a65c_remove_915e3_10 : decode cJx4a65c_remove_915e3 10 = .ok (.getfield 9, 3) := by decide +kernel
theorem dJx4a65c_remove_915e3_13 : decode cJx4a65c_remove_915e3 13 = .ok (.astore_n 2, 1) := by decide +kernel
theorem dJx4a65c_remove_915e3_14 : decode cJx4a65c_remove_915e3 14 = .ok (.aload_n 2, 1) := by decide +kernel
theorem dJx4a65c_remove_915e3_15 : decode cJx4a65c_remove_915e3 15 = .ok (.iload_n 1, 1) := by decide +kernel
theorem dJx4a65c_remove_915e3_16 : decode cJx4a65c_remove_915e3 16 = .ok (.aaload, 1) := by decide +kernel
theorem dJx4a65c_remove_915e3_17 : decode cJx4a65c_remove_915e3 17 = .ok (.astore_n 3, 1) := by decide +kernel
theorem dJx4a65c_remove_915e3_18 : decode cJx4a65c_remove_915e3 18 = .ok (.aload_n 0, 1) := by decide +kernel
theorem dJx4a65c_remove_915e3_19 : decode cJx4a65c_remove_915e3 19 = .ok (.aload_n 2, 1) := by decide +kernel
theorem dJx4a65c_remove_915e3_20 : decode cJx4a65c_remove_915e3 20 = .ok (.iload_n 1, 1) := by decide +kernel
theorem dJx4a65c_remove_915e3_21 : decode cJx4a65c_remove_915e3 21 = .ok (.invokevirtual 144, 3) := by decide +kernel
theorem dJx4a65c_remove_915e3_24 : decode cJx4a65c_remove_915e3 24 = .ok (.aload_n 3, 1) := by decide +kernel
theorem dJx4a65c_remove_915e3_25 : decode cJx4a65c_remove_915e3 25 = .ok (.areturn, 1) := by decide +kernel
theorem dJx4a65c_fastRemove_b59b0_0 : decode cJx4a65c_fastRemove_b59b0 0 = .ok (.aload_n 0, 1) := by decide +kernel
theorem dJx4a65c_fastRemove_b59b0_1 : decode cJx4a65c_fastRemove_b59b0 1 = .ok (.dup, 1) := by decide +kernel
theorem dJx4a65c_fastRemove_b59b0_2 : decode cJx4a65c_fastRemove_b59b0 2 = .ok (.getfield 63, 3) := by decide +kernel
theorem dJx4a65c_fastRemove_b59b0_5 : decode cJx4a65c_fastRemove_b59b0 5 = .ok (.iconst 1, 1) := by decide +kernel
theorem dJx4a65c_fastRemove_b59b0_6 : decode cJx4a65c_fastRemove_b59b0 6 = .ok (.iadd, 1) := by decide +kernel
theorem dJx4a65c_fastRemove_b59b0_7 : decode cJx4a65c_fastRemove_b59b0 7 = .ok (.putfield 63, 3) := by decide +kernel
theorem dJx4a65c_fastRemove_b59b0_10 : decode cJx4a65c_fastRemove_b59b0 10 = .ok (.aload_n 0, 1) := by decide +kernel
theorem dJx4a65c_fastRemove_b59b0_11 : decode cJx4a65c_fastRemove_b59b0 11 = .ok (.getfield 48, 3) := by decide +kernel
theorem dJx4a65c_fastRemove_b59b0_14 : decode cJx4a65c_fastRemove_b59b0 14 = .ok (.iconst 1, 1) := by decide +kernel
theorem dJx4a65c_fastRemove_b59b0_15 : decode cJx4a65c_fastRemove_b59b0 15 = .ok (.isub, 1) := by decide +kernel
theorem dJx4a65c_fastRemove_b59b0_16 : decode cJx4a65c_fastRemove_b59b0 16 = .ok (.dup, 1) := by decide +kernel
theorem dJx4a65c_fastRemove_b59b0_17 : decode cJx4a65c_fastRemove_b59b0 17 = .ok (.istore_n 3, 1) := by decide +kernel
theorem dJx4a65c_fastRemove_b59b0_18 : decode cJx4a65c_fastRemove_b59b0 18 = .ok (.iload_n 2, 1) := by decide +kernel
theorem dJx4a65c_fastRemove_b59b0_19 : decode cJx4a65c_fastRemove_b59b0 19 = .ok (.if_icmp .le 15, 3) := by decide +kernel
theorem dJx4a65c_fastRemove_b59b0_22 : decode cJx4a65c_fastRemove_b59b0 22 = .ok (.aload_n 1, 1) := by decide +kernel
theorem dJx4a65c_fastRemove_b59b0_23 : decode cJx4a65c_fastRemove_b59b0 23 = .ok (.iload_n 2, 1) := by decide +kernel
theorem dJx4a65c_fastRemove_b59b0_24 : decode cJx4a65c_fastRemove_b59b0 24 = .ok (.iconst 1, 1) := by decide +kernel
theorem dJx4a65c_fastRemove_b59b0_25 : decode cJx4a65c_fastRemove_b59b0 25 = .ok (.iadd, 1) := by decide +kernel
theorem dJx4a65c_fastRemove_b59b0_26 : decode cJx4a65c_fastRemove_b59b0 26 = .ok (.aload_n 1, 1) := by decide +kernel
theorem dJx4a65c_fastRemove_b59b0_27 : decode cJx4a65c_fastRemove_b59b0 27 = .ok (.iload_n 2, 1) := by decide +kernel
theorem dJx4a65c_fastRemove_b59b0_28 : decode cJx4a65c_fastRemove_b59b0 28 = .ok (.iload_n 3, 1) := by decide +kernel
theorem dJx4a65c_fastRemove_b59b0_29 : decode cJx4a65c_fastRemove_b59b0 29 = .ok (.iload_n 2, 1) := by decide +kernel
theorem dJx4a65c_fastRemove_b59b0_30 : decode cJx4a65c_fastRemove_b59b0 30 = .ok (.isub, 1) := by decide +kernel
theorem dJx4a65c_fastRemove_b59b0_31 : decode cJx4a65c_fastRemove_b59b0 31 = .ok (.invokestatic 112, 3) := by decide +kernel
theorem dJx4a65c_fastRemove_b59b0_34 : decode cJx4a65c_fastRemove_b59b0 34 = .ok (.aload_n 1, 1) := by decide +kernel
theorem dJx4a65c_fastRemove_b59b0_35 : decode cJx4a65c_fastRemove_b59b0 35 = .ok (.aload_n 0, 1) := by decide +kernel
theorem dJx4a65c_fastRemove_b59b0_36 : decode cJx4a65c_fastRemove_b59b0 36 = .ok (.iload_n 3, 1) := by decide +kernel
theorem dJx4a65c_fastRemove_b59b0_37 : decode cJx4a65c_fastRemove_b59b0 37 = .ok (.dup_x1, 1) := by decide +kernel
theorem dJx4a65c_fastRemove_b59b0_38 : decode cJx4a65c_fastRemove_b59b0 38 = .ok (.putfield 48, 3) := by decide +kernel
theorem dJx4a65c_fastRemove_b59b0_41 : decode cJx4a65c_fastRemove_b59b0 41 = .ok (.aconst_null, 1) := by decide +kernel
theorem dJx4a65c_fastRemove_b59b0_42 : decode cJx4a65c_fastRemove_b59b0 42 = .ok (.aastore, 1) := by decide +kernel
theorem dJx4a65c_fastRemove_b59b0_43 : decode cJx4a65c_fastRemove_b59b0 43 = .ok (.return_, 1) := by decide +kernel
theorem dJx4a65c_rangeCheckForAdd_d00df_0 : decode cJx4a65c_rangeCheckForAdd_d00df 0 = .ok (.iload_n 1, 1) := by decide +kernel
theorem dJx4a65c_rangeCheckForAdd_d00df_1 : decode cJx4a65c_rangeCheckForAdd_d00df 1 = .ok (.aload_n 0, 1) := by decide +kernel
theorem dJx4a65c_rangeCheckForAdd_d00df_2 : decode cJx4a65c_rangeCheckForAdd_d00df 2 = .ok (.getfield 48, 3) := by decide +kernel
theorem dJx4a65c_rangeCheckForAdd_d00df_5 : decode cJx4a65c_rangeCheckForAdd_d00df 5 = .ok (.if_icmp .gt 7, 3) := by decide +kernel
theorem dJx4a65c_rangeCheckForAdd_d00df_8 : decode cJx4a65c_rangeCheckForAdd_d00df 8 = .ok (.iload_n 1, 1) := by decide +kernel
theorem dJx4a65c_rangeCheckForAdd_d00df_9 : decode cJx4a65c_rangeCheckForAdd_d00df 9 = .ok (.ifCond .ge 16, 3) := by decide +kernel
theorem dJx4a65c_rangeCheckForAdd_d00df_12 : decode cJx4a65c_rangeCheckForAdd_d00df 12 = .ok (.new 187, 3) := by decide +kernel
theorem dJx4a65c_rangeCheckForAdd_d00df_15 : decode cJx4a65c_rangeCheckForAdd_d00df 15 = .ok (.dup, 1) := by decide +kernel
theorem dJx4a65c_rangeCheckForAdd_d00df_16 : decode cJx4a65c_rangeCheckForAdd_d00df 16 = .ok (.aload_n 0, 1) := by decide +kernel
theorem dJx4a65c_rangeCheckForAdd_d00df_17 : decode cJx4a65c_rangeCheckForAdd_d00df 17 = .ok (.iload_n 1, 1) := by decide +kernel
theorem dJx4a65c_rangeCheckForAdd_d00df_18 : decode cJx4a65c_rangeCheckForAdd_d00df 18 = .ok (.invokevirtual 198, 3) := by decide +kernel
theorem dJx4a65c_rangeCheckForAdd_d00df_21 : decode cJx4a65c_rangeCheckForAdd_d00df 21 = .ok (.invokespecial 193, 3) := by decide +kernel
theorem dJx4a65c_rangeCheckForAdd_d00df_24 : decode cJx4a65c_rangeCheckForAdd_d00df 24 = .ok (.athrow, 1) := by decide +kernel
theorem dJx4a65c_rangeCheckForAdd_d00df_25 : decode cJx4a65c_rangeCheckForAdd_d00df 25 = .ok (.return_, 1) := by decide +kernel
theorem dJ7_copyOf_1904c_0 : decode cJ7_copyOf_1904c 0 = .ok (.aload_n 0, 1) := by decide +kernel
theorem dJ7_copyOf_1904c_1 : decode cJ7_copyOf_1904c 1 = .ok (.iload_n 1, 1) := by decide +kernel
theorem dJ7_copyOf_1904c_2 : decode cJ7_copyOf_1904c 2 = .ok (.aload_n 0, 1) := by decide +kernel
theorem dJ7_copyOf_1904c_3 : decode cJ7_copyOf_1904c 3 = .ok (.invokevirtual 86, 3) := by decide +kernel
theorem dJ7_copyOf_1904c_6 : decode cJ7_copyOf_1904c 6 = .ok (.invokestatic 300, 3) := by decide +kernel
theorem dJ7_copyOf_1904c_9 : decode cJ7_copyOf_1904c 9 = .ok (.areturn, 1) := by decide +kernel
theorem dJ7_copyOf_6403c_0 : decode cJ7_copyOf_6403c 0 = .ok (.aload_n 2, 1) := by decide +kernel
theorem dJ7_copyOf_6403c_1 : decode cJ7_copyOf_6403c 1 = .ok (.ldc 110, 2) := by decide +kernel
theorem dJ7_copyOf_6403c_3 : decode cJ7_copyOf_6403c 3 = .ok (.if_acmp .ne 10, 3) := by decide +kernel
theorem dJ7_copyOf_6403c_6 : decode cJ7_copyOf_6403c 6 = .ok (.iload_n 1, 1) := by decide +kernel
theorem dJ7_copyOf_6403c_7 : decode cJ7_copyOf_6403c 7 = .ok (.anewarray 2, 3) := by decide +kernel
theorem dJ7_copyOf_6403c_10 : decode cJ7_copyOf_6403c 10 = .ok (.goto 14, 3) := by decide +kernel
theorem dJ7_copyOf_6403c_13 : decode cJ7_copyOf_6403c 13 = .ok (.aload_n 2, 1) := by decide +kernel
theorem dJ7_copyOf_6403c_14 : decode cJ7_copyOf_6403c 14 = .ok (.invokevirtual 90, 3) := by decide +kernel
theorem dJ7_copyOf_6403c_17 : decode cJ7_copyOf_6403c 17 = .ok (.iload_n 1, 1) := by decide +kernel
theorem dJ7_copyOf_6403c_18 : decode cJ7_copyOf_6403c 18 = .ok (.invokestatic 95, 3) := by decide +kernel
theorem dJ7_copyOf_6403c_21 : decode cJ7_copyOf_6403c 21 = .ok (.checkcast 110, 3) := by decide +kernel
theorem dJ7_copyOf_6403c_24 : decode cJ7_copyOf_6403c 24 = .ok (.astore_n 3, 1) := by decide +kernel
theorem dJ7_copyOf_6403c_25 : decode cJ7_copyOf_6403c 25 = .ok (.aload_n 0, 1) := by decide +kernel
theorem dJ7_copyOf_6403c_26 : decode cJ7_copyOf_6403c 26 = .ok (.iconst 0, 1) := by decide +kernel
theorem dJ7_copyOf_6403c_27 : decode cJ7_copyOf_6403c 27 = .ok (.aload_n 3, 1) := by decide +kernel
theorem dJ7_copyOf_6403c_28 : decode cJ7_copyOf_6403c 28 = .ok (.iconst 0, 1) := by decide +kernel
theorem dJ7_copyOf_6403c_29 : decode cJ7_copyOf_6403c 29 = .ok (.aload_n 0, 1) := by decide +kernel
theorem dJ7_copyOf_6403c_30 : decode cJ7_copyOf_6403c 30 = .ok (.arraylength, 1) := by decide +kernel
theorem dJ7_copyOf_6403c_31 : decode cJ7_copyOf_6403c 31 = .ok (.iload_n 1, 1) := by decide +kernel
theorem dJ7_copyOf_6403c_32 : decode cJ7_copyOf_6403c 32 = .ok (.invokestatic 304, 3) := by decide +kernel
theorem dJ7_copyOf_6403c_35 : decode cJ7_copyOf_6403c 35 = .ok (.invokestatic 150, 3) := by decide +kernel
theorem dJ7_copyOf_6403c_38 : decode cJ7_copyOf_6403c 38 = .ok (.aload_n 3, 1) := by decide +kernel
theorem dJ7_copyOf_6403c_39 : decode cJ7_copyOf_6403c 39 = .ok (.areturn, 1) := by decide +kernel
theorem dJ15_checkIndex_7cf53_0 : decode cJ15_checkIndex_7cf53 0 = .ok (.iload_n 0, 1) := by decide +kernel
theorem dJ15_checkIndex_7cf53_1 : decode cJ15_checkIndex_7cf53 1 = .ok (.iload_n 1, 1) := by decide +kernel
theorem dJ15_checkIndex_7cf53_2 : decode cJ15_checkIndex_7cf53 2 = .ok (.aconst_null, 1) := by decide +kernel
theorem dJ15_checkIndex_7cf53_3 : decode cJ15_checkIndex_7cf53 3 = .ok (.invokestatic 105, 3) := by decide +kernel
theorem dJ15_checkIndex_7cf53_6 : decode cJ15_checkIndex_7cf53 6 = .ok (.ireturn, 1) := by decide +kernel
theorem dJ8_newLength_cabcc_0 : decode cJ8_newLength_cabcc 0 = .ok (.iload_n 0, 1) := by decide +kernel
theorem dJ8_newLength_cabcc_1 : decode cJ8_newLength_cabcc 1 = .ok (.iload_n 1, 1) := by decide +kernel
theorem dJ8_newLength_cabcc_2 : decode cJ8_newLength_cabcc 2 = .ok (.iload_n 2, 1) := by decide +kernel
theorem dJ8_newLength_cabcc_3 : decode cJ8_newLength_cabcc 3 = .ok (.invokestatic 194, 3) := by decide +kernel
theorem dJ8_newLength_cabcc_6 : decode cJ8_newLength_cabcc 6 = .ok (.iadd, 1) := by decide +kernel
theorem dJ8_newLength_cabcc_7 : decode cJ8_newLength_cabcc 7 = .ok (.istore_n 3, 1) := by decide +kernel
theorem dJ8_newLength_cabcc_8 : decode cJ8_newLength_cabcc 8 = .ok (.iconst 0, 1) := by decide +kernel
theorem dJ8_newLength_cabcc_9 : decode cJ8_newLength_cabcc 9 = .ok (.iload_n 3, 1) := by decide +kernel
theorem dJ8_newLength_cabcc_10 : decode cJ8_newLength_cabcc 10 = .ok (.if_icmp .ge 11, 3) := by decide +kernel
theorem dJ8_newLength_cabcc_13 : decode cJ8_newLength_cabcc 13 = .ok (.iload_n 3, 1) := by decide +kernel
theorem dJ8_newLength_cabcc_14 : decode cJ8_newLength_cabcc 14 = .ok (.ldc 200, 2) := by decide +kernel
theorem dJ8_newLength_cabcc_16 : decode cJ8_newLength_cabcc 16 = .ok (.if_icmp .gt 5, 3) := by decide +kernel
theorem dJ8_newLength_cabcc_19 : decode cJ8_newLength_cabcc 19 = .ok (.iload_n 3, 1) := by decide +kernel
theorem dJ8_newLength_cabcc_20 : decode cJ8_newLength_cabcc 20 = .ok (.ireturn, 1) := by decide +kernel
theorem dJ8_newLength_cabcc_21 : decode cJ8_newLength_cabcc 21 = .ok (.iload_n 0, 1) := by decide +kernel
theorem dJ8_newLength_cabcc_22 : decode cJ8_newLength_cabcc 22 = .ok (.iload_n 1, 1) := by decide +kernel
theorem dJ8_newLength_cabcc_23 : decode cJ8_newLength_cabcc 23 = .ok (.invokestatic 201, 3) := by decide +kernel
theorem dJ8_newLength_cabcc_26 : decode cJ8_newLength_cabcc 26 = .ok (.ireturn, 1) := by decide +kernel
theorem dJ3_checkIndex_8e157_0 : decode cJ3_checkIndex_8e157 0 = .ok (.iload_n 0, 1) := by decide +kernel
theorem dJ3_checkIndex_8e157_1 : decode cJ3_checkIndex_8e157 1 = .ok (.ifCond .lt 8, 3) := by decide +kernel
theorem dJ3_checkIndex_8e157_4 : decode cJ3_checkIndex_8e157 4 = .ok (.iload_n 0, 1) := by decide +kernel
theorem dJ3_checkIndex_8e157_5 : decode cJ3_checkIndex_8e157 5 = .ok (.iload_n 1, 1) := by decide +kernel
theorem dJ3_checkIndex_8e157_6 : decode cJ3_checkIndex_8e157 6 = .ok (.if_icmp .lt 10, 3) := by decide +kernel
theorem dJ3_checkIndex_8e157_9 : decode cJ3_checkIndex_8e157 9 = .ok (.aload_n 2, 1) := by decide +kernel
theorem dJ3_checkIndex_8e157_10 : decode cJ3_checkIndex_8e157 10 = .ok (.iload_n 0, 1) := by decide +kernel
theorem dJ3_checkIndex_8e157_11 : decode cJ3_checkIndex_8e157 11 = .ok (.iload_n 1, 1) := by decide +kernel
theorem dJ3_checkIndex_8e157_12 : decode cJ3_checkIndex_8e157 12 = .ok (.invokestatic 95, 3) := by decide +kernel
theorem dJ3_checkIndex_8e157_15 : decode cJ3_checkIndex_8e157 15 = .ok (.athrow, 1) := by decide +kernel
theorem dJ3_checkIndex_8e157_16 : decode cJ3_checkIndex_8e157 16 = .ok (.iload_n 0, 1) := by decide +kernel
theorem dJ3_checkIndex_8e157_17 : decode cJ3_checkIndex_8e157 17 = .ok (.ireturn, 1) := by decide +kernel
end
section
/-! The base of the walks: one list of words for all methods, worlds as families of cells, and the pure control words. -/
theorem tg_V {own : String} {idx : Nat} {C : String} {y : MethodName} {cc : ByteArray} {n : Nat} {ret : Option FieldType} (h1 : Cond.methodLink own idx y ∈ TG) (h2 : Cond.instanceMethod y ∈ TG) (h3 : Cond.selects C y y ∈ TG) (h4 : Cond.initialized C ∈ TG) (h5 : Cond.code y cc n ret ∈ TG) : GoodIn TG (wsV own idx C y (Cond.code y cc n ret :: TG)) := by
  intro w hw
  have key : w ∈ TG := by
    simp only [wsV, List.cons_append, List.nil_append, List.mem_cons] at hw
    rcases hw with rfl | rfl | rfl | rfl | rfl | hw
    · exact h1
    · exact h2
    · exact h3
    · exact h4
    · exact h5
    · exact hw
  exact ⟨key, good_of_word (tg_good key)⟩
theorem tg_S {own : String} {idx : Nat} {y : MethodName} {cc : ByteArray} {n : Nat} {ret : Option FieldType} (h1 : Cond.methodLink own idx y ∈ TG) (h2 : Cond.static y ∈ TG) (h4 : Cond.initialized own ∈ TG) (h5 : Cond.code y cc n ret ∈ TG) : GoodIn TG (wsS own idx y (Cond.code y cc n ret :: TG)) := by
  intro w hw
  have key : w ∈ TG := by
    simp only [wsS, List.cons_append, List.nil_append, List.mem_cons] at hw
    rcases hw with rfl | rfl | rfl | rfl | hw
    · exact h1
    · exact h2
    · exact h4
    · exact h5
    · exact hw
  exact ⟨key, good_of_word (tg_good key)⟩
theorem tg_C {y : MethodName} {cc : ByteArray} {n : Nat} {ret : Option FieldType} (h5 : Cond.code y cc n ret ∈ TG) : GoodIn TG (Cond.code y cc n ret :: TG) := by
  intro w hw
  have key : w ∈ TG := by
    rcases List.mem_cons.mp hw with rfl | hw
    · exact h5
    · exact hw
  exact ⟨key, good_of_word (tg_good key)⟩
/-! pure control: a branch, a guard, a call -/
noncomputable def bi {α : Type} (c : Prop) (a b : Option α) : Option α := @ite _ c (Classical.propDecidable c) a b
theorem bi_pos {α : Type} {c : Prop} (hc : c) (a b : Option α) : bi c a b = a := if_pos hc
theorem bi_neg {α : Type} {c : Prop} (hc : ¬ c) (a b : Option α) : bi c a b = b := if_neg hc
theorem bi_t {α : Type} {c : Prop} {a b o : Option α} (hc : c) (h : bi c a b = o) : a = o := (bi_pos hc a b).symm.trans h
theorem bi_f {α : Type} {c : Prop} {a b o : Option α} (hc : ¬ c) (h : bi c a b = o) : b = o := (bi_neg hc a b).symm.trans h
noncomputable def gd {α : Type} (c : Prop) (k : Option α) : Option α := bi c k none
theorem gd_pos {α : Type} {c : Prop} (hc : c) (k : Option α) : gd c k = k := if_pos hc
theorem gd_e {α : Type} {c : Prop} {k : Option α} {o : α} (h : gd c k = some o) : c ∧ k = some o := by
  by_cases hc : c
  · exact ⟨hc, (bi_pos hc k none).symm.trans h⟩
  · have h1 := (bi_neg hc k none).symm.trans h
    cases h1
def bd {α β γ : Type} (x : Option (α × β)) (k : α → β → Option γ) : Option γ := match x with
  | none => none
  | some (r, t) => k r t
theorem bd_e {α β γ : Type} {x : Option (α × β)} {k : α → β → Option γ} {o : γ} (h : bd x k = some o) : ∃ r t, x = some (r, t) ∧ k r t = some o := by
  cases x with
  | none => cases h
  | some q => exact ⟨q.1, q.2, rfl, h⟩
theorem bd_some {α β γ : Type} (r : α) (t : β) (k : α → β → Option γ) : bd (some (r, t)) k = k r t := rfl
/-! array kinds, and what the tables know -/
def tysG (g : Nat → ClassId) : List (ClassId × FieldType) := [(g 0, .int), (g 1, .char), (g 2, .boolean), (g 3, .long), (g 4, .double), (g 5, .object "java/lang/Object")]
abbrev GG : Type := va_G × (Nat → ClassId)
def VK (G : GG) (s : State) : Prop := va_K G.1 vwCl (tysG G.2) s
theorem VK.moved {G : GG} {u U : State} (hvm : u.vm.Alike U.vm) (h : VK G u) : VK G U := va_K.moved hvm h
def MB (G : GG) (p : Program) (s : State) (m : MethodId) (args : Array Value) (meth : Method) (c : Code) (cc : ByteArray) (nL : Nat) (own : String) (rt : Option FieldType) : Prop :=
  p.tables.exec = Jvm.exec ∧ c.code = cc ∧ meth.sig.returnType = rt ∧ c.maxLocals = nL ∧ s.vm.findClass own = some m.cls ∧ (∀ w ∈ TG, w.before args s = true) ∧ meth.locks = false ∧ VK G s
/-! worlds: a family of cells, apart, at addresses of a kind -/
section FWS
variable {ι : Type}
def FW (D : va_G) (V : ι → Prop) (ad : ι → Nat) (en : ι → va_E) (A : Nat → Prop) (H : Heap) : Prop :=
  (∀ i, V i → va_at D vwCl (ad i, en i) H ∧ A (ad i)) ∧ ∀ i j, V i → V j → ad i = ad j → i = j
def up2 (en : ι → va_E) (i : ι) (e : va_E) : ι → va_E := fun j => @ite _ (j = i) (Classical.propDecidable _) e (en j)
theorem up2_self (en : ι → va_E) (i : ι) (e : va_E) : up2 en i e i = e := if_pos rfl
theorem up2_ne (en : ι → va_E) {i j : ι} (e : va_E) (h : j ≠ i) : up2 en i e j = en j := if_neg h
theorem FW.congr {D : va_G} {V : ι → Prop} {ad : ι → Nat} {en en' : ι → va_E} {A : Nat → Prop} {H : Heap} (h : FW D V ad en A H) (he : ∀ i, V i → en i = en' i) : FW D V ad en' A H :=
  ⟨fun i hi => ⟨by rw [← he i hi]; exact (h.1 i hi).1, (h.1 i hi).2⟩, h.2⟩
theorem FW.set {D : va_G} {V : ι → Prop} {ad : ι → Nat} {en : ι → va_E} {A : Nat → Prop} {H H1 : Heap} (h : FW D V ad en A H) {i : ι} {e : va_E} (hi : V i) (he : va_at D vwCl (ad i, e) H1) (oq : ∀ q : Nat, q ≠ ad i → H1[q]? = H[q]?) : FW D V ad (up2 en i e) A H1 := by
  refine ⟨fun j hj => ⟨?_, (h.1 j hj).2⟩, h.2⟩
  by_cases hji : j = i
  · subst hji
    rw [up2_self]
    exact he
  · rw [up2_ne en e hji]
    exact (h.1 j hj).1.kept (oq _ (fun z => hji (h.2 j i hj hi z)))
theorem FW.kept {D : va_G} {V : ι → Prop} {ad : ι → Nat} {en : ι → va_E} {A B : Nat → Prop} {H H1 : Heap} (h : FW D V ad en A H) (hB : ∀ q, A q → ¬ B q) (hq : ∀ q : Nat, q < H.size → ¬ B q → H1[q]? = H[q]?) : FW D V ad en A H1 :=
  ⟨fun i hi => ⟨(h.1 i hi).1.kept (hq _ (h.1 i hi).1.lt (hB _ (h.1 i hi).2)), (h.1 i hi).2⟩, h.2⟩
end FWS
section FWR
variable {ι : Type} {p : Program} {l : Launch} {e : Env} {R : Room} {s : State} {m : MethodId} {args : Array Value} {below : List Frame} {meth : Method} {c : Code} {H : Heap} {locs : List Loc} {cells slots : Nat} {Q : State → Prop}
variable {cc : ByteArray} {nL pc : Nat} {own : String} {rt : Option FieldType} {ls : Array Slot} {rest : List Value} {G : GG} {A : Nat → Prop} {H0 : Heap} {V : ι → Prop} {ad : ι → Nat} {en : ι → va_E}
theorem va_P1 {D : va_G} {q : Nat × va_E} (h : va_at D vwCl q H) : va_P D vwCl [q] H := by
  intro k z hz
  cases k with
  | zero => cases hz; exact h
  | succ k => cases hz
theorem fw_get (B : MB G p s m args meth c cc nL own rt) (hW : FW G.1 V ad en A H) (i : ι) (hi : V i) {ci N : Nat} {fs : List Value} (he : en i = .inr (ci, fs)) {C ref : String} {T : u_T} (hc : vwCl[ci]? = some (C, T, N)) (hin : ∀ w ∈ u_ws C T N, w ∈ TG) (k : Nat) (hk : k < N) {index : Nat} (hlink : Cond.fieldLink own index ref (T k).2.1 (T k).2.2.1 ∈ TG) (hsame : ∀ x, s.fieldFound? (T k).1 (T k).2.1 (T k).2.2.1 = some x → s.fieldFound? ref (T k).2.1 (T k).2.2.1 = some x) {v : Value} (hv : fs[k]? = some v) (hdg : decode cc pc = .ok (.getfield index, 3))
    (kk : W p l e R s m args below meth c H locs cells slots Q (F0 m (pc + 3) ls (v :: rest))) : W p l e R s m args below meth c H locs cells slots Q (F0 m pc ls (.ref (ad i) :: rest)) := by
  obtain ⟨hx, hb, -, -, hown, hT, -, hK⟩ := B
  have h1 := (hW.1 i hi).1
  rw [he] at h1
  exact va_get hx hb hT hin hown hK (va_P1 h1) 0 rfl hc k hk (hT _ hlink) hsame hv hdg kk
theorem fw_put (B : MB G p s m args meth c cc nL own rt) (hW : FW G.1 V ad en A H) (hS0 : va_S A H0 H locs) (i : ι) (hi : V i) {ci N : Nat} {fs : List Value} (he : en i = .inr (ci, fs)) {C ref : String} {T : u_T} (hc : vwCl[ci]? = some (C, T, N)) (hin : ∀ w ∈ u_ws C T N, w ∈ TG) {ty0 : Nat → FieldType} (hty : ∀ k, k < N → parseFieldDescriptor (T k).2.2.1 = some (ty0 k)) (hnm : ∀ a, a < N → ∀ b, b < N → a ≠ b → (T a).2.1 ≠ (T b).2.1) (k : Nat) (hk : k < N) {index : Nat} (hlink : Cond.fieldLink own index ref (T k).2.1 (T k).2.2.1 ∈ TG) (hsame : ∀ x, s.fieldFound? (T k).1 (T k).2.1 (T k).2.2.1 = some x → s.fieldFound? ref (T k).2.1 (T k).2.2.1 = some x) (hfin : (T k).2.2.2 = false) {v : Value} (hn : narrow (ty0 k) v = v) (hfit : fits (ty0 k) v = true) (hl : k < fs.length) (hdg : decode cc pc = .ok (.putfield index, 3))
    (kk : ∀ (H1 : Heap) (locs1 : List Loc), FW G.1 V ad (up2 en i (.inr (ci, fs.set k v))) A H1 → va_S A H0 H1 locs1 → W p l e R s m args below meth c H1 locs1 cells slots Q (F0 m (pc + 3) ls rest)) : W p l e R s m args below meth c H locs cells slots Q (F0 m pc ls (v :: .ref (ad i) :: rest)) := by
  obtain ⟨hx, hb, -, -, hown, hT, -, hK⟩ := B
  have h0 := (hW.1 i hi).1
  rw [he] at h0
  have hap := va_apart (own := own) hT hin ty0 hty hnm hK hc
  obtain ⟨r, h1, cell, q1, q2, q3, q4⟩ := h0
  have hr : r = (C, T, N) := Option.some.inj (h1.symm.trans hc)
  subst hr
  obtain ⟨hS, hfc, kC, hkC, hkind⟩ := hK.1 ci _ hc
  obtain ⟨cf, kf, fi, f, hi2, hsl⟩ := hS k hk
  have hlay := hT _ (hin _ (u_in_lay hk))
  unfold u_lay at hlay
  rw [if_neg (by rw [hfin]; decide)] at hlay
  have hst := (u_facts hfc hkC (u_lays hT hin hk) hi2).1
  have h6 := u_store hfc hkC hkind hlay hi2 (hty k hk) hn hfit
  refine W.putK hx hb (f := f) ⟨hown, hT _ hlink, ⟨_, _, _, hsame _ hi2⟩, hst⟩ (by rw [q2]; exact h6) q1 q3 (by rw [hsl]; exact k2_hasslot (q4 k hk)) rfl rfl hdg fun H' e1 e2 e3 => ?_
  rw [hsl] at e1 ⊢
  exact kk H' _ (hW.set hi ⟨_, hc, t_OB.to (V := updV (vp_V fs) k v) ⟨_, e1, q2, q3, t_set q4 hap hk v⟩ (fun j _ => vp_updV_set hl v j)⟩ e3) (hS0.put e2 e3 (hW.1 i hi).2)
theorem fw_iald (B : MB G p s m args meth c cc nL own rt) (hW : FW G.1 V ad en A H) (i : ι) (hi : V i) {n : Nat} {f : Nat → Int32} (he : en i = .inl (G.2 0, n, .inl f)) {j : Int32} (hin : vp_in j n) (hdg : decode cc pc = .ok (.iaload, 1))
    (kk : W p l e R s m args below meth c H locs cells slots Q (F0 m (pc + 1) ls (.int (f j.toNatClampNeg) :: rest))) : W p l e R s m args below meth c H locs cells slots Q (F0 m pc ls (.int j :: .ref (ad i) :: rest)) := by
  obtain ⟨hx, hb, -, -, hown, hT, -, hK⟩ := B
  have h1 := (hW.1 i hi).1
  rw [he] at h1
  exact va_iald hx hb hK (va_P1 h1) 0 0 rfl rfl hin hdg kk
theorem fw_cald (B : MB G p s m args meth c cc nL own rt) (hW : FW G.1 V ad en A H) (i : ι) (hi : V i) {n : Nat} {f : Nat → Int32} (he : en i = .inl (G.2 1, n, .inl f)) {j : Int32} (hin : vp_in j n) (hdg : decode cc pc = .ok (.caload, 1))
    (kk : W p l e R s m args below meth c H locs cells slots Q (F0 m (pc + 1) ls (.int (f j.toNatClampNeg) :: rest))) : W p l e R s m args below meth c H locs cells slots Q (F0 m pc ls (.int j :: .ref (ad i) :: rest)) := by
  obtain ⟨hx, hb, -, -, hown, hT, -, hK⟩ := B
  have h1 := (hW.1 i hi).1
  rw [he] at h1
  exact va_cald hx hb hK (va_P1 h1) 0 1 rfl rfl hin hdg kk
theorem fw_zald (B : MB G p s m args meth c cc nL own rt) (hW : FW G.1 V ad en A H) (i : ι) (hi : V i) {n : Nat} {f : Nat → Int32} (he : en i = .inl (G.2 2, n, .inl f)) {j : Int32} (hin : vp_in j n) (hdg : decode cc pc = .ok (.baload, 1))
    (kk : W p l e R s m args below meth c H locs cells slots Q (F0 m (pc + 1) ls (.int (f j.toNatClampNeg) :: rest))) : W p l e R s m args below meth c H locs cells slots Q (F0 m pc ls (.int j :: .ref (ad i) :: rest)) := by
  obtain ⟨hx, hb, -, -, hown, hT, -, hK⟩ := B
  have h1 := (hW.1 i hi).1
  rw [he] at h1
  exact va_zald hx hb hK (va_P1 h1) 0 2 rfl rfl hin hdg kk
theorem fw_iast (B : MB G p s m args meth c cc nL own rt) (hW : FW G.1 V ad en A H) (hS : va_S A H0 H locs) (i : ι) (hi : V i) {n : Nat} {f : Nat → Int32} (he : en i = .inl (G.2 0, n, .inl f)) {j x : Int32} (hin : vp_in j n) (hdg : decode cc pc = .ok (.iastore, 1))
    (kk : ∀ (H1 : Heap) (locs1 : List Loc), FW G.1 V ad (up2 en i (.inl (G.2 0, n, .inl (upd f j.toNatClampNeg x)))) A H1 → va_S A H0 H1 locs1 → W p l e R s m args below meth c H1 locs1 cells slots Q (F0 m (pc + 1) ls rest)) : W p l e R s m args below meth c H locs cells slots Q (F0 m pc ls (.int x :: .int j :: .ref (ad i) :: rest)) := by
  obtain ⟨hx, hb, -, -, hown, hT, -, hK⟩ := B
  have h1 := (hW.1 i hi).1
  rw [he] at h1
  refine W.iast hx hb h1 ((hK.2 0 (G.2 0, .int) rfl).1 n (fun j => .int (f j))) (fun q => by cases q) (by show ¬ (j < 0 ∨ (arrV _ _ _).slots.size ≤ _); rw [arrV_size]; exact hin) rfl rfl hdg fun H1 e z oq => ?_
  refine kk H1 _ (hW.set hi ?_ oq) (hS.put z oq (hW.1 i hi).2)
  show H1[ad i]? = some (vp_cell _ _)
  rw [e]
  rw [vp_cell_i, vp_cell_i, arrV_store]
  congr 2
  funext q
  by_cases hq : q = j.toNatClampNeg
  · subst hq
    simp [updV, upd]
  · simp [updV, upd, hq]
theorem fw_cast (B : MB G p s m args meth c cc nL own rt) (hW : FW G.1 V ad en A H) (hS : va_S A H0 H locs) (i : ι) (hi : V i) {n : Nat} {f : Nat → Int32} (he : en i = .inl (G.2 1, n, .inl f)) {j x : Int32} (hin : vp_in j n) (hdg : decode cc pc = .ok (.castore, 1))
    (kk : ∀ (H1 : Heap) (locs1 : List Loc), FW G.1 V ad (up2 en i (.inl (G.2 1, n, .inl (upd f j.toNatClampNeg (vp_nar .char x))))) A H1 → va_S A H0 H1 locs1 → W p l e R s m args below meth c H1 locs1 cells slots Q (F0 m (pc + 1) ls rest)) : W p l e R s m args below meth c H locs cells slots Q (F0 m pc ls (.int x :: .int j :: .ref (ad i) :: rest)) := by
  obtain ⟨hx, hb, -, -, hown, hT, -, hK⟩ := B
  have h1 := (hW.1 i hi).1
  rw [he] at h1
  refine W.cast hx hb h1 ((hK.2 1 (G.2 1, .char) rfl).1 n (fun j => .int (f j))) (fun q => by cases q) (by show ¬ (j < 0 ∨ (arrV _ _ _).slots.size ≤ _); rw [arrV_size]; exact hin) rfl rfl hdg fun H1 e z oq => ?_
  refine kk H1 _ (hW.set hi ?_ oq) (hS.put z oq (hW.1 i hi).2)
  show H1[ad i]? = some (vp_cell _ _)
  rw [e]
  rw [vp_cell_i, vp_cell_i, arrV_store]
  congr 2
  funext q
  by_cases hq : q = j.toNatClampNeg
  · subst hq
    simp [updV, upd, vp_nar]
    try rfl
  · simp [updV, upd, hq]
theorem fw_zast (B : MB G p s m args meth c cc nL own rt) (hW : FW G.1 V ad en A H) (hS : va_S A H0 H locs) (i : ι) (hi : V i) {n : Nat} {f : Nat → Int32} (he : en i = .inl (G.2 2, n, .inl f)) {j x : Int32} (hin : vp_in j n) (hdg : decode cc pc = .ok (.bastore, 1))
    (kk : ∀ (H1 : Heap) (locs1 : List Loc), FW G.1 V ad (up2 en i (.inl (G.2 2, n, .inl (upd f j.toNatClampNeg (vp_nar .boolean x))))) A H1 → va_S A H0 H1 locs1 → W p l e R s m args below meth c H1 locs1 cells slots Q (F0 m (pc + 1) ls rest)) : W p l e R s m args below meth c H locs cells slots Q (F0 m pc ls (.int x :: .int j :: .ref (ad i) :: rest)) := by
  obtain ⟨hx, hb, -, -, hown, hT, -, hK⟩ := B
  have h1 := (hW.1 i hi).1
  rw [he] at h1
  refine W.zast hx hb h1 ((hK.2 2 (G.2 2, .boolean) rfl).1 n (fun j => .int (f j))) (fun q => by cases q) (by show ¬ (j < 0 ∨ (arrV _ _ _).slots.size ≤ _); rw [arrV_size]; exact hin) rfl rfl hdg fun H1 e z oq => ?_
  refine kk H1 _ (hW.set hi ?_ oq) (hS.put z oq (hW.1 i hi).2)
  show H1[ad i]? = some (vp_cell _ _)
  rw [e]
  rw [vp_cell_i, vp_cell_i, arrV_store]
  congr 2
  funext q
  by_cases hq : q = j.toNatClampNeg
  · subst hq
    simp [updV, upd, vp_nar]
    try rfl
  · simp [updV, upd, hq]
end FWR
end
section
/-! The reference's world: one object, its rows of numbers. A state: its numbers by the slot, its rows by the slot. -/
abbrev MS : Type := (Nat → Int32) × (Nat → Nat → Int32)
def setS (st : MS) (k : Nat) (x : Int32) : MS := (upd st.1 k x, st.2)
def setA (st : MS) (k i : Nat) (x : Int32) : MS := (st.1, fun j => if j = k then upd (st.2 k) i x else st.2 j)
def mty : Nat → Nat := fun k => match k with
  | 4 => 1 | 10 => 1 | 11 => 1 | 12 => 1 | 13 => 1 | 14 => 1 | 16 => 1 | 26 => 1 | 8 => 2 | 29 => 2 | _ => 0
def mln : Nat → Nat := fun k => match k with
  | 11 => 96 | 12 => 96 | 13 => 96 | 14 => 96 | 24 => 40 | 25 => 40 | 26 => 40 | 27 => 6 | 28 => 6 | 29 => 6 | _ => 24
def mfs (ad : Nat → Nat) (st : MS) : List Value := [.int (st.1 0), .int (st.1 1), .int (st.1 2), .ref (ad 3), .ref (ad 4), .ref (ad 5), .ref (ad 6), .ref (ad 7), .ref (ad 8), .ref (ad 9), .ref (ad 10), .ref (ad 11), .ref (ad 12), .ref (ad 13), .ref (ad 14), .int (st.1 15), .ref (ad 16), .ref (ad 17), .ref (ad 18), .ref (ad 19), .ref (ad 20), .ref (ad 21), .int (st.1 22), .int (st.1 23), .ref (ad 24), .ref (ad 25), .ref (ad 26), .ref (ad 27), .ref (ad 28), .ref (ad 29)]
abbrev VM : Nat → Prop := fun k => k = 0 ∨ (3 ≤ k ∧ k < 30 ∧ k ≠ 15 ∧ k ≠ 22 ∧ k ≠ 23)
def enM (G : GG) (ad : Nat → Nat) (st : MS) (k : Nat) : va_E := if k = 0 then .inr (7, mfs ad st) else .inl (G.2 (mty k), mln k, .inl (st.2 k))
def MW (G : GG) (A : Nat → Prop) (ad : Nat → Nat) (st : MS) (H : Heap) : Prop := FW G.1 VM ad (enM G ad st) A H
theorem vm_0 : VM 0 := Or.inl rfl
theorem mw_setS {G : GG} {A : Nat → Prop} {ad : Nat → Nat} {st : MS} {H : Heap} {k : Nat} {x : Int32} (h : FW G.1 VM ad (up2 (enM G ad st) 0 (.inr (7, (mfs ad st).set k (.int x)))) A H) (hs : (mfs ad st).set k (.int x) = mfs ad (setS st k x)) : MW G A ad (setS st k x) H := by
  refine FW.congr h fun j _ => ?_
  by_cases hj : j = 0
  · subst hj
    rw [up2_self, hs]
    rfl
  · rw [up2_ne _ _ hj]
    simp [enM, hj, setS]
theorem mw_setA {G : GG} {A : Nat → Prop} {ad : Nat → Nat} {st : MS} {H : Heap} {k i : Nat} {x : Int32} (hk : k ≠ 0) (h : FW G.1 VM ad (up2 (enM G ad st) k (.inl (G.2 (mty k), mln k, .inl (upd (st.2 k) i x)))) A H) : MW G A ad (setA st k i x) H := by
  refine FW.congr h fun j _ => ?_
  by_cases hj : j = k
  · subst hj
    rw [up2_self]
    simp [enM, hk, setA]
  · rw [up2_ne _ _ hj]
    by_cases h0 : j = 0
    · subst h0
      rfl
    · simp [enM, h0, setA, hj]
def PM (G : GG) (A : Nat → Prop) (ad : Nat → Nat) (st : MS) (av : List Value) : Array Value → State → Prop := va_Pc av (fun U => VK G U ∧ MW G A ad st U.heap)
def QM (G : GG) (A : Nat → Prop) (ad : Nat → Nat) (v : Option Value) (st : MS) : Array Value → State → Outcome → State → Prop := fun _ s0 oc t => oc = .returned v ∧ MW G A ad st t.heap ∧ va_F A s0 t
theorem pm_blind {G : GG} {A : Nat → Prop} {ad : Nat → Nat} {st : MS} {av : List Value} : FrameBlind (PM G A ad st av) := by
  intro a U g mk q
  obtain ⟨q0, q1, q2⟩ := q
  exact ⟨q0, VK.moved (u := U) (U := U.calling g mk a) (Vm.Alike.refl U.vm) q1, q2⟩
section MWR
variable {p : Program} {l : Launch} {e : Env} {R : Room} {s : State} {m : MethodId} {args : Array Value} {below : List Frame} {meth : Method} {c : Code} {H : Heap} {locs : List Loc} {cells slots : Nat} {Q : State → Prop}
variable {cc : ByteArray} {nL pc : Nat} {rt : Option FieldType} {ls : Array Slot} {rest : List Value} {G : GG} {A : Nat → Prop} {H0 : Heap} {ad : Nat → Nat} {st : MS}
theorem mw_get (B : MB G p s m args meth c cc nL RX6 rt) (hM : MW G A ad st H) (k : Nat) (hk : k < 30) {index : Nat} (hlink : Cond.fieldLink RX6 index RX6 (TX6 k).2.1 (TX6 k).2.2.1 ∈ TG) (ht : (TX6 k).1 = RX6) {v : Value} (hv : (mfs ad st)[k]? = some v) (hdg : decode cc pc = .ok (.getfield index, 3))
    (kk : W p l e R s m args below meth c H locs cells slots Q (F0 m (pc + 3) ls (v :: rest))) : W p l e R s m args below meth c H locs cells slots Q (F0 m pc ls (.ref (ad 0) :: rest)) :=
  fw_get B hM 0 vm_0 rfl (C := RX6) (T := TX6) (N := 30) rfl inX6 k hk hlink (fun x h => by rw [ht] at h; exact h) hv hdg kk
theorem mw_put (B : MB G p s m args meth c cc nL RX6 rt) (hM : MW G A ad st H) (hS : va_S A H0 H locs) (k : Nat) (hk : k < 30) {index : Nat} (hlink : Cond.fieldLink RX6 index RX6 (TX6 k).2.1 (TX6 k).2.2.1 ∈ TG) (ht : (TX6 k).1 = RX6) (hfin : (TX6 k).2.2.2 = false) {x : Int32} (hn : narrow (tyX6 k) (.int x) = .int x) (hfit : fits (tyX6 k) (.int x) = true) (hs : (mfs ad st).set k (.int x) = mfs ad (setS st k x)) (hdg : decode cc pc = .ok (.putfield index, 3))
    (kk : ∀ (H1 : Heap) (locs1 : List Loc), MW G A ad (setS st k x) H1 → va_S A H0 H1 locs1 → W p l e R s m args below meth c H1 locs1 cells slots Q (F0 m (pc + 3) ls rest)) : W p l e R s m args below meth c H locs cells slots Q (F0 m pc ls (.int x :: .ref (ad 0) :: rest)) :=
  fw_put B hM hS 0 vm_0 rfl (C := RX6) (T := TX6) (N := 30) rfl inX6 tyX6_ok nmX6 k hk hlink (fun x h => by rw [ht] at h; exact h) hfin hn hfit hk hdg fun H1 locs1 h1 h2 => kk H1 locs1 (mw_setS h1 hs) h2
theorem mw_iald (B : MB G p s m args meth c cc nL RX6 rt) (hM : MW G A ad st H) (k : Nat) (hk : VM k) (hz : k ≠ 0) (ht : mty k = 0) {j : Int32} (hin : vp_in j (mln k)) (hdg : decode cc pc = .ok (.iaload, 1))
    (kk : W p l e R s m args below meth c H locs cells slots Q (F0 m (pc + 1) ls (.int (st.2 k j.toNatClampNeg) :: rest))) : W p l e R s m args below meth c H locs cells slots Q (F0 m pc ls (.int j :: .ref (ad k) :: rest)) :=
  fw_iald B hM k hk (f := st.2 k) (by simp [enM, hz, ht]) hin hdg kk
theorem mw_cald (B : MB G p s m args meth c cc nL RX6 rt) (hM : MW G A ad st H) (k : Nat) (hk : VM k) (hz : k ≠ 0) (ht : mty k = 1) {j : Int32} (hin : vp_in j (mln k)) (hdg : decode cc pc = .ok (.caload, 1))
    (kk : W p l e R s m args below meth c H locs cells slots Q (F0 m (pc + 1) ls (.int (st.2 k j.toNatClampNeg) :: rest))) : W p l e R s m args below meth c H locs cells slots Q (F0 m pc ls (.int j :: .ref (ad k) :: rest)) :=
  fw_cald B hM k hk (f := st.2 k) (by simp [enM, hz, ht]) hin hdg kk
theorem mw_zald (B : MB G p s m args meth c cc nL RX6 rt) (hM : MW G A ad st H) (k : Nat) (hk : VM k) (hz : k ≠ 0) (ht : mty k = 2) {j : Int32} (hin : vp_in j (mln k)) (hdg : decode cc pc = .ok (.baload, 1))
    (kk : W p l e R s m args below meth c H locs cells slots Q (F0 m (pc + 1) ls (.int (st.2 k j.toNatClampNeg) :: rest))) : W p l e R s m args below meth c H locs cells slots Q (F0 m pc ls (.int j :: .ref (ad k) :: rest)) :=
  fw_zald B hM k hk (f := st.2 k) (by simp [enM, hz, ht]) hin hdg kk
theorem mw_iast (B : MB G p s m args meth c cc nL RX6 rt) (hM : MW G A ad st H) (hS : va_S A H0 H locs) (k : Nat) (hk : VM k) (hz : k ≠ 0) (ht : mty k = 0) {j x : Int32} (hin : vp_in j (mln k)) (hdg : decode cc pc = .ok (.iastore, 1))
    (kk : ∀ (H1 : Heap) (locs1 : List Loc), MW G A ad (setA st k j.toNatClampNeg x) H1 → va_S A H0 H1 locs1 → W p l e R s m args below meth c H1 locs1 cells slots Q (F0 m (pc + 1) ls rest)) : W p l e R s m args below meth c H locs cells slots Q (F0 m pc ls (.int x :: .int j :: .ref (ad k) :: rest)) :=
  fw_iast B hM hS k hk (f := st.2 k) (by simp [enM, hz, ht]) hin hdg fun H1 locs1 h1 h2 => kk H1 locs1 (mw_setA hz (by rw [ht]; exact h1)) h2
theorem mw_cast (B : MB G p s m args meth c cc nL RX6 rt) (hM : MW G A ad st H) (hS : va_S A H0 H locs) (k : Nat) (hk : VM k) (hz : k ≠ 0) (ht : mty k = 1) {j x : Int32} (hin : vp_in j (mln k)) (hdg : decode cc pc = .ok (.castore, 1))
    (kk : ∀ (H1 : Heap) (locs1 : List Loc), MW G A ad (setA st k j.toNatClampNeg (vp_nar .char x)) H1 → va_S A H0 H1 locs1 → W p l e R s m args below meth c H1 locs1 cells slots Q (F0 m (pc + 1) ls rest)) : W p l e R s m args below meth c H locs cells slots Q (F0 m pc ls (.int x :: .int j :: .ref (ad k) :: rest)) :=
  fw_cast B hM hS k hk (f := st.2 k) (by simp [enM, hz, ht]) hin hdg fun H1 locs1 h1 h2 => kk H1 locs1 (mw_setA hz (by rw [ht]; exact h1)) h2
theorem mw_zast (B : MB G p s m args meth c cc nL RX6 rt) (hM : MW G A ad st H) (hS : va_S A H0 H locs) (k : Nat) (hk : VM k) (hz : k ≠ 0) (ht : mty k = 2) {j x : Int32} (hin : vp_in j (mln k)) (hdg : decode cc pc = .ok (.bastore, 1))
    (kk : ∀ (H1 : Heap) (locs1 : List Loc), MW G A ad (setA st k j.toNatClampNeg (vp_nar .boolean x)) H1 → va_S A H0 H1 locs1 → W p l e R s m args below meth c H1 locs1 cells slots Q (F0 m (pc + 1) ls rest)) : W p l e R s m args below meth c H locs cells slots Q (F0 m pc ls (.int x :: .int j :: .ref (ad k) :: rest)) :=
  fw_zast B hM hS k hk (f := st.2 k) (by simp [enM, hz, ht]) hin hdg fun H1 locs1 h1 h2 => kk H1 locs1 (mw_setA hz (by rw [ht]; exact h1)) h2
/-- behind a call -/
theorem mw_behind {st' : MS} {v : Option Value} {a : Array Value} {st0 : List Value} (hr : va_Run p l e R s m args below meth c H locs cells slots 0 0 (F0 m pc ls st0) rest (QM G A ad v st' a) A) (hS : va_S A H0 H locs)
    (kk : ∀ (H1 : Heap) (locs1 : List Loc), MW G A ad st' H1 → va_S A H0 H1 locs1 → W p l e R s m args below meth c H1 locs1 cells slots Q (F0 m (pc + 3) ls (v.toList ++ rest))) : W p l e R s m args below meth c H locs cells slots Q (F0 m pc ls st0) := by
  intro T hT X
  obtain ⟨v', st₀, t, T', L, h0, X', hL, e1, e2, ⟨hv, hm, hz, hk⟩, stp⟩ := hr T hT X
  cases hv
  rw [h0] at hz hk
  rw [← e1] at hm
  obtain ⟨t2, a1, b1⟩ := kk T'.heap (locs ++ L) hm ⟨Nat.le_trans hS.1 (by rw [e1]; exact hz), fun q h1 h2 => by rw [e1, hk q (Nat.lt_of_lt_of_le h1 hS.1) h2]; exact hS.2.1 q h1 h2, fun q hq => by
      rcases List.mem_append.mp hq with h | h
      · exact hS.2.2 q h
      · exact hL q h⟩ T' rfl X'
  exact ⟨t2, stp t2 a1, b1⟩
theorem mw_callV (B : MB G p s m args meth c cc nL RX6 rt) (hM : MW G A ad st H) (hS : va_S A H0 H locs) {y : MethodName} {cy : ByteArray} {ny n index : Nat} {ry : Option FieldType} {rm : Room} {v : Option Value} {st' : MS} (As : List Value)
    (hMet : Met l y (Cond.code y cy ny ry :: TG) rm (PM G A ad st (.ref (ad 0) :: As)) (QM G A ad v st') 0 0 A)
    (h1 : Cond.methodLink RX6 index y ∈ TG) (h2 : Cond.instanceMethod y ∈ TG) (h3 : Cond.selects RX6 y y ∈ TG) (h5 : Cond.code y cy ny ry ∈ TG) (hrc : rm.cells = 0) (hrs : rm.slots = 0)
    (hd : y.cls = RX6 ∧ y.cls ≠ "java/lang/invoke/MethodHandle" ∧ y.cls ≠ "java/lang/invoke/VarHandle" ∧ (parseMethodDescriptor y.desc).map (fun d => d.parameters.length) = some n) (hR : rm.frames + 1 ≤ R.frames ∧ 8 + (ny + 11) + rm.locals ≤ R.locals) (hf : cells ≤ R.cells ∧ slots ≤ R.slots) (hn : As.length = n) (hls : ls.size = nL) (hW : (rest.map fun v => v.category).sum ≤ 8) {st0 : List Value} (hst : st0 = As.reverse ++ .ref (ad 0) :: rest) (hdg : decode cc pc = .ok (.invokevirtual index, 3))
    (kk : ∀ (H1 : Heap) (locs1 : List Loc), MW G A ad st' H1 → va_S A H0 H1 locs1 → W p l e R s m args below meth c H1 locs1 cells slots Q (F0 m (pc + 3) ls (v.toList ++ rest))) : W p l e R s m args below meth c H locs cells slots Q (F0 m pc ls st0) := by
  obtain ⟨hx, hb, -, hml, hown, hT, -, hK⟩ := B
  have hc : ∃ cellB : Cell, H[ad 0]? = some cellB ∧ cellB.vm.isStatics = false ∧ s.vm.findClass RX6 = some cellB.cls := by
    obtain ⟨r, q0, cell, q1, q2, q3, -⟩ := (hM.1 0 vm_0).1
    cases q0
    exact ⟨cell, q1, by rw [q3]; rfl, by rw [q2]; exact (hK.1 7 _ rfl).2.1⟩
  exact mw_behind (va_runV ⟨hx, hb, hml, hown, hT⟩ hMet (cwV n hT (tg_V h1 h2 h3 wn_RX6 h5) rfl hrc hrs hd hR) ⟨pm_blind, hc, fun U hU hWd => ⟨rfl, VK.moved hWd.alike hK, by rw [hU]; exact hM⟩⟩ rfl hn hls hst (lv_room hW) hdg hf) hS kk
theorem mw_callS (B : MB G p s m args meth c cc nL RX6 rt) (hM : MW G A ad st H) (hS : va_S A H0 H locs) {y : MethodName} {cy : ByteArray} {ny n index : Nat} {ry : Option FieldType} {rm : Room} {v : Option Value} {st' : MS} (As : List Value)
    (hMet : Met l y (Cond.code y cy ny ry :: TG) rm (PM G A ad st As) (QM G A ad v st') 0 0 A)
    (h1 : Cond.methodLink RX6 index y ∈ TG) (h2 : Cond.static y ∈ TG) (h5 : Cond.code y cy ny ry ∈ TG) (hrc : rm.cells = 0) (hrs : rm.slots = 0)
    (hd : y.cls = RX6 ∧ y.cls ≠ "java/lang/invoke/MethodHandle" ∧ y.cls ≠ "java/lang/invoke/VarHandle" ∧ (parseMethodDescriptor y.desc).map (fun d => d.parameters.length) = some n) (hR : rm.frames + 1 ≤ R.frames ∧ 8 + (ny + 11) + rm.locals ≤ R.locals) (hf : cells ≤ R.cells ∧ slots ≤ R.slots) (hn : As.length = n) (hls : ls.size = nL) (hW : (rest.map fun v => v.category).sum ≤ 8) {st0 : List Value} (hst : st0 = As.reverse ++ rest) (hdg : decode cc pc = .ok (.invokestatic index, 3))
    (kk : ∀ (H1 : Heap) (locs1 : List Loc), MW G A ad st' H1 → va_S A H0 H1 locs1 → W p l e R s m args below meth c H1 locs1 cells slots Q (F0 m (pc + 3) ls (v.toList ++ rest))) : W p l e R s m args below meth c H locs cells slots Q (F0 m pc ls st0) := by
  obtain ⟨hx, hb, -, hml, hown, hT, -, hK⟩ := B
  exact mw_behind (va_runS ⟨hx, hb, hml, hown, hT⟩ hMet (cwS n hT (tg_S h1 h2 wn_RX6 h5) rfl hrc hrs hd hR) ⟨pm_blind, fun U hU hWd => ⟨rfl, VK.moved hWd.alike hK, by rw [hU]; exact hM⟩⟩ rfl hn hls hst (lv_room hW) hdg hf) hS kk
/-! ends -/
theorem mw_iret (B : MB G p s m args meth c cc nL RX6 (some .int)) (hM : MW G A ad st H) (hS : va_S A s.heap H locs) {v : Int32} (hdg : decode cc pc = .ok (.ireturn, 1)) : W p l e R s m args below meth c H locs cells slots (MQ below (QM G A ad (some (.int v)) st) args s cells slots A) (F0 m pc ls [.int v]) := by
  obtain ⟨hx, hb, hr, -, -, -, hlocks, -⟩ := B
  exact W.iret hx hb hr (fun t ht hW => ⟨rfl, by rw [ht]; exact hM, hS.F ht⟩) hS.2.2 hdg
theorem mw_zret {ty : FieldType} (B : MB G p s m args meth c cc nL RX6 (some ty)) (hM : MW G A ad st H) (hS : va_S A s.heap H locs) {v : Int32} (hn : narrow ty (.int v) = .int v) (hdg : decode cc pc = .ok (.ireturn, 1)) : W p l e R s m args below meth c H locs cells slots (MQ below (QM G A ad (some (.int v)) st) args s cells slots A) (F0 m pc ls [.int v]) := by
  obtain ⟨hx, hb, hr, -, -, -, hlocks, -⟩ := B
  exact W.zret hx hb hr hn (fun t ht hW => ⟨rfl, by rw [ht]; exact hM, hS.F ht⟩) hS.2.2 hdg
theorem mw_vret (B : MB G p s m args meth c cc nL RX6 none) (hM : MW G A ad st H) (hS : va_S A s.heap H locs) (hdg : decode cc pc = .ok (.return_, 1)) : W p l e R s m args below meth c H locs cells slots (MQ below (QM G A ad none st) args s cells slots A) (F0 m pc ls []) := by
  obtain ⟨hx, hb, hr, -, -, -, hlocks, -⟩ := B
  exact W.vret hx hb hr (fun t ht hW => ⟨rfl, by rw [ht]; exact hM, hS.F ht⟩) hS.2.2 hdg
theorem mw_lret (B : MB G p s m args meth c cc nL RX6 (some .long)) (hM : MW G A ad st H) (hS : va_S A s.heap H locs) {v : Int64} (hdg : decode cc pc = .ok (.lreturn, 1)) : W p l e R s m args below meth c H locs cells slots (MQ below (QM G A ad (some (.long v)) st) args s cells slots A) (F0 m pc ls [.long v]) := by
  obtain ⟨hx, hb, hr, -, -, -, hlocks, -⟩ := B
  exact W.lret hx hb hr (fun t ht hW => ⟨rfl, by rw [ht]; exact hM, hS.F ht⟩) hS.2.2 hdg
end MWR
/-- a method's start -/
theorem mw_of {l : Launch} {y : MethodName} {cc : ByteArray} {n : Nat} {ret : Option FieldType} {rm : Room} {G : GG} {A : Nat → Prop} {ad : Nat → Nat} {st st' : MS} {av : List Value} {v : Option Value} {own : String} (hy : plainName y.cls = true) (hyc : y.cls = own) (hrc : rm.cells = 0) (hrs : rm.slots = 0) (hlen : (lg_sl av).length ≤ n)
    (body : ∀ (p : Program) (e : Env) (s : State) (m : MethodId) (below : List Frame) (meth : Method) (c : Code) (ls : Array Slot), MB G p s m av.toArray meth c cc n own ret → MW G A ad st s.heap → va_S A s.heap s.heap [] → lv_has ls n (lv_args 0 av) → W p l e rm s m av.toArray below meth c s.heap [] 0 0 (MQ below (QM G A ad v st') av.toArray s 0 0 A) (F0 m 0 ls [])) :
    Met l y (Cond.code y cc n ret :: TG) rm (PM G A ad st av) (QM G A ad v st') 0 0 A := by
  refine Met.ofW (cc := cc) (maxL := n) (ret := ret) hy rfl ?_
  intro p e s m args below meth c s₁ B hml hv
  obtain ⟨rfl, hK, hM⟩ := hv
  have hts := atoms_spec (ws := Cond.code y cc n ret :: TG) B.pre
  have hown : s.vm.findClass own = some m.cls := hyc ▸ findClass_of_methodNamed B.named
  have hl := lv_entry av hlen
  rw [lg_entry_eq]
  exact body p e s m below meth c _ ⟨B.exec, B.bytes, B.returns, hml, hown, fun w hw => hts w (List.mem_cons_of_mem _ hw), B.notSynchronized, hK⟩ hM va_S.rf hl
end
