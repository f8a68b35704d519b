-- ===== PART A: goes FIRST, ahead of the names: the tables' words, and 'selects' of the private methods out of them =====
/-- a private method of a class that the tables say can be made, by its rows of tables_1 -/
def lw_okq (q : MethodName × Nat) : Prop := (q.1.cls ≠ "java/lang/invoke/MethodHandle" ∧ q.1.cls ≠ "java/lang/invoke/VarHandle") ∧ Cond.instantiable q.1.cls q.2 ∈ tables_1 ∧ Cond.privateMethod q.1 ∈ tables_1 ∧ Cond.instanceMethod q.1 ∈ tables_1
theorem lw_p0 : lw_okq (⟨"NightLetIn$Land", "countLying", "()V"⟩, 14) := ⟨⟨by decide +kernel, by decide +kernel⟩, List.mem_of_getElem? (i := 32) (by decide +kernel), List.mem_of_getElem? (i := 393) (by decide +kernel), List.mem_of_getElem? (i := 394) (by decide +kernel)⟩
theorem lw_p1 : lw_okq (⟨"NightLetIn", "shelfAt", "(I)LNightLetIn$Shelf;"⟩, 12) := ⟨⟨by decide +kernel, by decide +kernel⟩, List.mem_of_getElem? (i := 24) (by decide +kernel), List.mem_of_getElem? (i := 408) (by decide +kernel), List.mem_of_getElem? (i := 409) (by decide +kernel)⟩
theorem lw_p2 : lw_okq (⟨"NightLetIn", "boysFrom", "(LNightLetIn$Shelf;II)I"⟩, 12) := ⟨⟨by decide +kernel, by decide +kernel⟩, List.mem_of_getElem? (i := 24) (by decide +kernel), List.mem_of_getElem? (i := 416) (by decide +kernel), List.mem_of_getElem? (i := 417) (by decide +kernel)⟩
theorem lw_p3 : lw_okq (⟨"NightLetIn$Land", "rowOf", "(I)[I"⟩, 14) := ⟨⟨by decide +kernel, by decide +kernel⟩, List.mem_of_getElem? (i := 32) (by decide +kernel), List.mem_of_getElem? (i := 463) (by decide +kernel), List.mem_of_getElem? (i := 464) (by decide +kernel)⟩
theorem lw_p4 : lw_okq (⟨"NightLetIn$Changes", "dropOldest", "()V"⟩, 6) := ⟨⟨by decide +kernel, by decide +kernel⟩, List.mem_of_getElem? (i := 225) (by decide +kernel), List.mem_of_getElem? (i := 472) (by decide +kernel), List.mem_of_getElem? (i := 473) (by decide +kernel)⟩
theorem lw_p5 : lw_okq (⟨"NightLetIn$Reader", "readLine", "()Z"⟩, 5) := ⟨⟨by decide +kernel, by decide +kernel⟩, List.mem_of_getElem? (i := 109) (by decide +kernel), List.mem_of_getElem? (i := 517) (by decide +kernel), List.mem_of_getElem? (i := 518) (by decide +kernel)⟩
theorem lw_p6 : lw_okq (⟨"NightLetIn$Reader", "readLevel", "(II)Z"⟩, 5) := ⟨⟨by decide +kernel, by decide +kernel⟩, List.mem_of_getElem? (i := 109) (by decide +kernel), List.mem_of_getElem? (i := 521) (by decide +kernel), List.mem_of_getElem? (i := 522) (by decide +kernel)⟩
theorem lw_p7 : lw_okq (⟨"NightLetIn$Reader", "readOperand", "(I)Z"⟩, 5) := ⟨⟨by decide +kernel, by decide +kernel⟩, List.mem_of_getElem? (i := 109) (by decide +kernel), List.mem_of_getElem? (i := 525) (by decide +kernel), List.mem_of_getElem? (i := 526) (by decide +kernel)⟩
theorem lw_p8 : lw_okq (⟨"NightLetIn$Reader", "readNumber", "()V"⟩, 5) := ⟨⟨by decide +kernel, by decide +kernel⟩, List.mem_of_getElem? (i := 109) (by decide +kernel), List.mem_of_getElem? (i := 533) (by decide +kernel), List.mem_of_getElem? (i := 534) (by decide +kernel)⟩
theorem lw_p9 : lw_okq (⟨"NightLetIn$Reader", "step", "(I)V"⟩, 5) := ⟨⟨by decide +kernel, by decide +kernel⟩, List.mem_of_getElem? (i := 109) (by decide +kernel), List.mem_of_getElem? (i := 537) (by decide +kernel), List.mem_of_getElem? (i := 538) (by decide +kernel)⟩
theorem lw_p10 : lw_okq (⟨"NightLetIn$Reader", "readOpened", "(I)Z"⟩, 5) := ⟨⟨by decide +kernel, by decide +kernel⟩, List.mem_of_getElem? (i := 109) (by decide +kernel), List.mem_of_getElem? (i := 626) (by decide +kernel), List.mem_of_getElem? (i := 627) (by decide +kernel)⟩
theorem lw_p11 : lw_okq (⟨"NightLetIn$Reader", "isAt", "(I)Z"⟩, 5) := ⟨⟨by decide +kernel, by decide +kernel⟩, List.mem_of_getElem? (i := 109) (by decide +kernel), List.mem_of_getElem? (i := 630) (by decide +kernel), List.mem_of_getElem? (i := 631) (by decide +kernel)⟩
theorem lw_p12 : lw_okq (⟨"NightLetIn$Law", "workOut", "()I"⟩, 4) := ⟨⟨by decide +kernel, by decide +kernel⟩, List.mem_of_getElem? (i := 134) (by decide +kernel), List.mem_of_getElem? (i := 666) (by decide +kernel), List.mem_of_getElem? (i := 667) (by decide +kernel)⟩
theorem lw_p13 : lw_okq (⟨"NightLetIn$Law", "endOfLine", "(I)I"⟩, 4) := ⟨⟨by decide +kernel, by decide +kernel⟩, List.mem_of_getElem? (i := 134) (by decide +kernel), List.mem_of_getElem? (i := 670) (by decide +kernel), List.mem_of_getElem? (i := 671) (by decide +kernel)⟩
theorem lw_p14 : lw_okq (⟨"NightLetIn$Law", "valueOf", "(I)I"⟩, 4) := ⟨⟨by decide +kernel, by decide +kernel⟩, List.mem_of_getElem? (i := 134) (by decide +kernel), List.mem_of_getElem? (i := 674) (by decide +kernel), List.mem_of_getElem? (i := 675) (by decide +kernel)⟩
theorem lw_p15 : lw_okq (⟨"NightLetIn$Beds", "most", "(I)I"⟩, 3) := ⟨⟨by decide +kernel, by decide +kernel⟩, List.mem_of_getElem? (i := 164) (by decide +kernel), List.mem_of_getElem? (i := 763) (by decide +kernel), List.mem_of_getElem? (i := 764) (by decide +kernel)⟩
def lw_privs_1 : List (MethodName × Nat) := [(⟨"NightLetIn$Land", "countLying", "()V"⟩, 14), (⟨"NightLetIn", "shelfAt", "(I)LNightLetIn$Shelf;"⟩, 12), (⟨"NightLetIn", "boysFrom", "(LNightLetIn$Shelf;II)I"⟩, 12), (⟨"NightLetIn$Land", "rowOf", "(I)[I"⟩, 14), (⟨"NightLetIn$Changes", "dropOldest", "()V"⟩, 6), (⟨"NightLetIn$Reader", "readLine", "()Z"⟩, 5), (⟨"NightLetIn$Reader", "readLevel", "(II)Z"⟩, 5), (⟨"NightLetIn$Reader", "readOperand", "(I)Z"⟩, 5), (⟨"NightLetIn$Reader", "readNumber", "()V"⟩, 5), (⟨"NightLetIn$Reader", "step", "(I)V"⟩, 5), (⟨"NightLetIn$Reader", "readOpened", "(I)Z"⟩, 5), (⟨"NightLetIn$Reader", "isAt", "(I)Z"⟩, 5), (⟨"NightLetIn$Law", "workOut", "()I"⟩, 4), (⟨"NightLetIn$Law", "endOfLine", "(I)I"⟩, 4), (⟨"NightLetIn$Law", "valueOf", "(I)I"⟩, 4), (⟨"NightLetIn$Beds", "most", "(I)I"⟩, 3)]
theorem lw_r1 : ∀ q ∈ lw_privs_1, lw_okq q := List.forall_mem_cons.mpr ⟨lw_p0, List.forall_mem_cons.mpr ⟨lw_p1, List.forall_mem_cons.mpr ⟨lw_p2, List.forall_mem_cons.mpr ⟨lw_p3, List.forall_mem_cons.mpr ⟨lw_p4, List.forall_mem_cons.mpr ⟨lw_p5, List.forall_mem_cons.mpr ⟨lw_p6, List.forall_mem_cons.mpr ⟨lw_p7, List.forall_mem_cons.mpr ⟨lw_p8, List.forall_mem_cons.mpr ⟨lw_p9, List.forall_mem_cons.mpr ⟨lw_p10, List.forall_mem_cons.mpr ⟨lw_p11, List.forall_mem_cons.mpr ⟨lw_p12, List.forall_mem_cons.mpr ⟨lw_p13, List.forall_mem_cons.mpr ⟨lw_p14, List.forall_mem_cons.mpr ⟨lw_p15, fun _ h => absurd h List.not_mem_nil⟩⟩⟩⟩⟩⟩⟩⟩⟩⟩⟩⟩⟩⟩⟩⟩
theorem lw_p16 : lw_okq (⟨"NightLetIn$Deal", "findPrices", "(LNightLetIn$Land;I)V"⟩, 3) := ⟨⟨by decide +kernel, by decide +kernel⟩, List.mem_of_getElem? (i := 180) (by decide +kernel), List.mem_of_getElem? (i := 786) (by decide +kernel), List.mem_of_getElem? (i := 787) (by decide +kernel)⟩
theorem lw_p17 : lw_okq (⟨"NightLetIn$Deal", "leastFor", "(II)I"⟩, 3) := ⟨⟨by decide +kernel, by decide +kernel⟩, List.mem_of_getElem? (i := 180) (by decide +kernel), List.mem_of_getElem? (i := 792) (by decide +kernel), List.mem_of_getElem? (i := 793) (by decide +kernel)⟩
theorem lw_p18 : lw_okq (⟨"NightLetIn$Deal", "sumFor", "(III)I"⟩, 3) := ⟨⟨by decide +kernel, by decide +kernel⟩, List.mem_of_getElem? (i := 180) (by decide +kernel), List.mem_of_getElem? (i := 796) (by decide +kernel), List.mem_of_getElem? (i := 797) (by decide +kernel)⟩
theorem lw_p19 : lw_okq (⟨"NightLetIn$Deal", "hand", "(III)V"⟩, 3) := ⟨⟨by decide +kernel, by decide +kernel⟩, List.mem_of_getElem? (i := 180) (by decide +kernel), List.mem_of_getElem? (i := 801) (by decide +kernel), List.mem_of_getElem? (i := 802) (by decide +kernel)⟩
theorem lw_p20 : lw_okq (⟨"NightLetIn$Way", "nextOf", "(II)I"⟩, 6) := ⟨⟨by decide +kernel, by decide +kernel⟩, List.mem_of_getElem? (i := 197) (by decide +kernel), List.mem_of_getElem? (i := 822) (by decide +kernel), List.mem_of_getElem? (i := 823) (by decide +kernel)⟩
theorem lw_p21 : lw_okq (⟨"NightLetIn$Way", "lightOf", "(I)I"⟩, 6) := ⟨⟨by decide +kernel, by decide +kernel⟩, List.mem_of_getElem? (i := 197) (by decide +kernel), List.mem_of_getElem? (i := 834) (by decide +kernel), List.mem_of_getElem? (i := 835) (by decide +kernel)⟩
theorem lw_p22 : lw_okq (⟨"NightLetIn", "firstUnlike", "(LNightLetIn$Shelf;)I"⟩, 12) := ⟨⟨by decide +kernel, by decide +kernel⟩, List.mem_of_getElem? (i := 24) (by decide +kernel), List.mem_of_getElem? (i := 868) (by decide +kernel), List.mem_of_getElem? (i := 869) (by decide +kernel)⟩
theorem lw_p23 : lw_okq (⟨"NightLetIn", "isSoWith", "(LNightLetIn$Shelf;III)Z"⟩, 12) := ⟨⟨by decide +kernel, by decide +kernel⟩, List.mem_of_getElem? (i := 24) (by decide +kernel), List.mem_of_getElem? (i := 876) (by decide +kernel), List.mem_of_getElem? (i := 877) (by decide +kernel)⟩
theorem lw_p24 : lw_okq (⟨"NightLetIn", "shareOf", "(III)I"⟩, 12) := ⟨⟨by decide +kernel, by decide +kernel⟩, List.mem_of_getElem? (i := 24) (by decide +kernel), List.mem_of_getElem? (i := 901) (by decide +kernel), List.mem_of_getElem? (i := 902) (by decide +kernel)⟩
theorem lw_p25 : lw_okq (⟨"NightLetIn$Acts", "own", "(IIII)I"⟩, 4) := ⟨⟨by decide +kernel, by decide +kernel⟩, List.mem_of_getElem? (i := 274) (by decide +kernel), List.mem_of_getElem? (i := 988) (by decide +kernel), List.mem_of_getElem? (i := 989) (by decide +kernel)⟩
theorem lw_p26 : lw_okq (⟨"NightLetIn$Acts", "from", "(IIIII)I"⟩, 4) := ⟨⟨by decide +kernel, by decide +kernel⟩, List.mem_of_getElem? (i := 274) (by decide +kernel), List.mem_of_getElem? (i := 993) (by decide +kernel), List.mem_of_getElem? (i := 994) (by decide +kernel)⟩
theorem lw_p27 : lw_okq (⟨"NightLetIn$Acts", "run", "(IIII)I"⟩, 4) := ⟨⟨by decide +kernel, by decide +kernel⟩, List.mem_of_getElem? (i := 274) (by decide +kernel), List.mem_of_getElem? (i := 1001) (by decide +kernel), List.mem_of_getElem? (i := 1002) (by decide +kernel)⟩
theorem lw_p28 : lw_okq (⟨"NightLetIn$Acts", "above", "(IIIII)I"⟩, 4) := ⟨⟨by decide +kernel, by decide +kernel⟩, List.mem_of_getElem? (i := 274) (by decide +kernel), List.mem_of_getElem? (i := 1005) (by decide +kernel), List.mem_of_getElem? (i := 1006) (by decide +kernel)⟩
theorem lw_p29 : lw_okq (⟨"NightLetInModel", "addBoy", "(II)I"⟩, 57) := ⟨⟨by decide +kernel, by decide +kernel⟩, List.mem_of_getElem? (i := 1065) (by decide +kernel), List.mem_of_getElem? (i := 1260) (by decide +kernel), List.mem_of_getElem? (i := 1261) (by decide +kernel)⟩
theorem lw_p30 : lw_okq (⟨"NightLetInModel", "lays", "(III)V"⟩, 57) := ⟨⟨by decide +kernel, by decide +kernel⟩, List.mem_of_getElem? (i := 1065) (by decide +kernel), List.mem_of_getElem? (i := 1279) (by decide +kernel), List.mem_of_getElem? (i := 1280) (by decide +kernel)⟩
theorem lw_p31 : lw_okq (⟨"NightLetInModel", "isOne", "(II)Z"⟩, 57) := ⟨⟨by decide +kernel, by decide +kernel⟩, List.mem_of_getElem? (i := 1065) (by decide +kernel), List.mem_of_getElem? (i := 1291) (by decide +kernel), List.mem_of_getElem? (i := 1292) (by decide +kernel)⟩
def lw_privs_2 : List (MethodName × Nat) := [(⟨"NightLetIn$Deal", "findPrices", "(LNightLetIn$Land;I)V"⟩, 3), (⟨"NightLetIn$Deal", "leastFor", "(II)I"⟩, 3), (⟨"NightLetIn$Deal", "sumFor", "(III)I"⟩, 3), (⟨"NightLetIn$Deal", "hand", "(III)V"⟩, 3), (⟨"NightLetIn$Way", "nextOf", "(II)I"⟩, 6), (⟨"NightLetIn$Way", "lightOf", "(I)I"⟩, 6), (⟨"NightLetIn", "firstUnlike", "(LNightLetIn$Shelf;)I"⟩, 12), (⟨"NightLetIn", "isSoWith", "(LNightLetIn$Shelf;III)Z"⟩, 12), (⟨"NightLetIn", "shareOf", "(III)I"⟩, 12), (⟨"NightLetIn$Acts", "own", "(IIII)I"⟩, 4), (⟨"NightLetIn$Acts", "from", "(IIIII)I"⟩, 4), (⟨"NightLetIn$Acts", "run", "(IIII)I"⟩, 4), (⟨"NightLetIn$Acts", "above", "(IIIII)I"⟩, 4), (⟨"NightLetInModel", "addBoy", "(II)I"⟩, 57), (⟨"NightLetInModel", "lays", "(III)V"⟩, 57), (⟨"NightLetInModel", "isOne", "(II)Z"⟩, 57)]
theorem lw_r2 : ∀ q ∈ lw_privs_2, lw_okq q := List.forall_mem_cons.mpr ⟨lw_p16, List.forall_mem_cons.mpr ⟨lw_p17, List.forall_mem_cons.mpr ⟨lw_p18, List.forall_mem_cons.mpr ⟨lw_p19, List.forall_mem_cons.mpr ⟨lw_p20, List.forall_mem_cons.mpr ⟨lw_p21, List.forall_mem_cons.mpr ⟨lw_p22, List.forall_mem_cons.mpr ⟨lw_p23, List.forall_mem_cons.mpr ⟨lw_p24, List.forall_mem_cons.mpr ⟨lw_p25, List.forall_mem_cons.mpr ⟨lw_p26, List.forall_mem_cons.mpr ⟨lw_p27, List.forall_mem_cons.mpr ⟨lw_p28, List.forall_mem_cons.mpr ⟨lw_p29, List.forall_mem_cons.mpr ⟨lw_p30, List.forall_mem_cons.mpr ⟨lw_p31, fun _ h => absurd h List.not_mem_nil⟩⟩⟩⟩⟩⟩⟩⟩⟩⟩⟩⟩⟩⟩⟩⟩
theorem lw_p32 : lw_okq (⟨"NightLetInModel", "isBarn", "(I)Z"⟩, 57) := ⟨⟨by decide +kernel, by decide +kernel⟩, List.mem_of_getElem? (i := 1065) (by decide +kernel), List.mem_of_getElem? (i := 1295) (by decide +kernel), List.mem_of_getElem? (i := 1296) (by decide +kernel)⟩
theorem lw_p33 : lw_okq (⟨"NightLetInModel", "isBoy", "(I)Z"⟩, 57) := ⟨⟨by decide +kernel, by decide +kernel⟩, List.mem_of_getElem? (i := 1065) (by decide +kernel), List.mem_of_getElem? (i := 1299) (by decide +kernel), List.mem_of_getElem? (i := 1300) (by decide +kernel)⟩
theorem lw_p34 : lw_okq (⟨"NightLetInModel", "isLamp", "(I)Z"⟩, 57) := ⟨⟨by decide +kernel, by decide +kernel⟩, List.mem_of_getElem? (i := 1065) (by decide +kernel), List.mem_of_getElem? (i := 1303) (by decide +kernel), List.mem_of_getElem? (i := 1304) (by decide +kernel)⟩
theorem lw_p35 : lw_okq (⟨"NightLetInModel", "mayHave", "(II)Z"⟩, 57) := ⟨⟨by decide +kernel, by decide +kernel⟩, List.mem_of_getElem? (i := 1065) (by decide +kernel), List.mem_of_getElem? (i := 1307) (by decide +kernel), List.mem_of_getElem? (i := 1308) (by decide +kernel)⟩
theorem lw_p36 : lw_okq (⟨"NightLetInModel", "changes", "(III)I"⟩, 57) := ⟨⟨by decide +kernel, by decide +kernel⟩, List.mem_of_getElem? (i := 1065) (by decide +kernel), List.mem_of_getElem? (i := 1311) (by decide +kernel), List.mem_of_getElem? (i := 1312) (by decide +kernel)⟩
theorem lw_p37 : lw_okq (⟨"NightLetInModel", "valueAt", "(II)I"⟩, 57) := ⟨⟨by decide +kernel, by decide +kernel⟩, List.mem_of_getElem? (i := 1065) (by decide +kernel), List.mem_of_getElem? (i := 1315) (by decide +kernel), List.mem_of_getElem? (i := 1316) (by decide +kernel)⟩
theorem lw_p38 : lw_okq (⟨"NightLetInModel", "lightIn", "(I)I"⟩, 57) := ⟨⟨by decide +kernel, by decide +kernel⟩, List.mem_of_getElem? (i := 1065) (by decide +kernel), List.mem_of_getElem? (i := 1324) (by decide +kernel), List.mem_of_getElem? (i := 1325) (by decide +kernel)⟩
theorem lw_p39 : lw_okq (⟨"NightLetInModel", "readText", "(I)I"⟩, 57) := ⟨⟨by decide +kernel, by decide +kernel⟩, List.mem_of_getElem? (i := 1065) (by decide +kernel), List.mem_of_getElem? (i := 1342) (by decide +kernel), List.mem_of_getElem? (i := 1343) (by decide +kernel)⟩
theorem lw_p40 : lw_okq (⟨"NightLetInModel", "line", "()V"⟩, 57) := ⟨⟨by decide +kernel, by decide +kernel⟩, List.mem_of_getElem? (i := 1065) (by decide +kernel), List.mem_of_getElem? (i := 1346) (by decide +kernel), List.mem_of_getElem? (i := 1347) (by decide +kernel)⟩
theorem lw_p41 : lw_okq (⟨"NightLetInModel", "either", "()V"⟩, 57) := ⟨⟨by decide +kernel, by decide +kernel⟩, List.mem_of_getElem? (i := 1065) (by decide +kernel), List.mem_of_getElem? (i := 1350) (by decide +kernel), List.mem_of_getElem? (i := 1351) (by decide +kernel)⟩
theorem lw_p42 : lw_okq (⟨"NightLetInModel", "both", "()V"⟩, 57) := ⟨⟨by decide +kernel, by decide +kernel⟩, List.mem_of_getElem? (i := 1065) (by decide +kernel), List.mem_of_getElem? (i := 1354) (by decide +kernel), List.mem_of_getElem? (i := 1355) (by decide +kernel)⟩
theorem lw_p43 : lw_okq (⟨"NightLetInModel", "compared", "()V"⟩, 57) := ⟨⟨by decide +kernel, by decide +kernel⟩, List.mem_of_getElem? (i := 1065) (by decide +kernel), List.mem_of_getElem? (i := 1358) (by decide +kernel), List.mem_of_getElem? (i := 1359) (by decide +kernel)⟩
theorem lw_p44 : lw_okq (⟨"NightLetInModel", "sum", "()V"⟩, 57) := ⟨⟨by decide +kernel, by decide +kernel⟩, List.mem_of_getElem? (i := 1065) (by decide +kernel), List.mem_of_getElem? (i := 1362) (by decide +kernel), List.mem_of_getElem? (i := 1363) (by decide +kernel)⟩
theorem lw_p45 : lw_okq (⟨"NightLetInModel", "product", "()V"⟩, 57) := ⟨⟨by decide +kernel, by decide +kernel⟩, List.mem_of_getElem? (i := 1065) (by decide +kernel), List.mem_of_getElem? (i := 1366) (by decide +kernel), List.mem_of_getElem? (i := 1367) (by decide +kernel)⟩
theorem lw_p46 : lw_okq (⟨"NightLetInModel", "operand", "()V"⟩, 57) := ⟨⟨by decide +kernel, by decide +kernel⟩, List.mem_of_getElem? (i := 1065) (by decide +kernel), List.mem_of_getElem? (i := 1370) (by decide +kernel), List.mem_of_getElem? (i := 1371) (by decide +kernel)⟩
theorem lw_p47 : lw_okq (⟨"NightLetInModel", "look", "()I"⟩, 57) := ⟨⟨by decide +kernel, by decide +kernel⟩, List.mem_of_getElem? (i := 1065) (by decide +kernel), List.mem_of_getElem? (i := 1374) (by decide +kernel), List.mem_of_getElem? (i := 1375) (by decide +kernel)⟩
def lw_privs_3 : List (MethodName × Nat) := [(⟨"NightLetInModel", "isBarn", "(I)Z"⟩, 57), (⟨"NightLetInModel", "isBoy", "(I)Z"⟩, 57), (⟨"NightLetInModel", "isLamp", "(I)Z"⟩, 57), (⟨"NightLetInModel", "mayHave", "(II)Z"⟩, 57), (⟨"NightLetInModel", "changes", "(III)I"⟩, 57), (⟨"NightLetInModel", "valueAt", "(II)I"⟩, 57), (⟨"NightLetInModel", "lightIn", "(I)I"⟩, 57), (⟨"NightLetInModel", "readText", "(I)I"⟩, 57), (⟨"NightLetInModel", "line", "()V"⟩, 57), (⟨"NightLetInModel", "either", "()V"⟩, 57), (⟨"NightLetInModel", "both", "()V"⟩, 57), (⟨"NightLetInModel", "compared", "()V"⟩, 57), (⟨"NightLetInModel", "sum", "()V"⟩, 57), (⟨"NightLetInModel", "product", "()V"⟩, 57), (⟨"NightLetInModel", "operand", "()V"⟩, 57), (⟨"NightLetInModel", "look", "()I"⟩, 57)]
theorem lw_r3 : ∀ q ∈ lw_privs_3, lw_okq q := List.forall_mem_cons.mpr ⟨lw_p32, List.forall_mem_cons.mpr ⟨lw_p33, List.forall_mem_cons.mpr ⟨lw_p34, List.forall_mem_cons.mpr ⟨lw_p35, List.forall_mem_cons.mpr ⟨lw_p36, List.forall_mem_cons.mpr ⟨lw_p37, List.forall_mem_cons.mpr ⟨lw_p38, List.forall_mem_cons.mpr ⟨lw_p39, List.forall_mem_cons.mpr ⟨lw_p40, List.forall_mem_cons.mpr ⟨lw_p41, List.forall_mem_cons.mpr ⟨lw_p42, List.forall_mem_cons.mpr ⟨lw_p43, List.forall_mem_cons.mpr ⟨lw_p44, List.forall_mem_cons.mpr ⟨lw_p45, List.forall_mem_cons.mpr ⟨lw_p46, List.forall_mem_cons.mpr ⟨lw_p47, fun _ h => absurd h List.not_mem_nil⟩⟩⟩⟩⟩⟩⟩⟩⟩⟩⟩⟩⟩⟩⟩⟩
theorem lw_p48 : lw_okq (⟨"NightLetInModel", "addStep", "(II)V"⟩, 57) := ⟨⟨by decide +kernel, by decide +kernel⟩, List.mem_of_getElem? (i := 1065) (by decide +kernel), List.mem_of_getElem? (i := 1381) (by decide +kernel), List.mem_of_getElem? (i := 1382) (by decide +kernel)⟩
theorem lw_p49 : lw_okq (⟨"NightLetInModel", "opens", "()Z"⟩, 57) := ⟨⟨by decide +kernel, by decide +kernel⟩, List.mem_of_getElem? (i := 1065) (by decide +kernel), List.mem_of_getElem? (i := 1385) (by decide +kernel), List.mem_of_getElem? (i := 1386) (by decide +kernel)⟩
theorem lw_p50 : lw_okq (⟨"NightLetInModel", "wrong", "()V"⟩, 57) := ⟨⟨by decide +kernel, by decide +kernel⟩, List.mem_of_getElem? (i := 1065) (by decide +kernel), List.mem_of_getElem? (i := 1389) (by decide +kernel), List.mem_of_getElem? (i := 1390) (by decide +kernel)⟩
theorem lw_p51 : lw_okq (⟨"NightLetInModel", "figure", "()V"⟩, 57) := ⟨⟨by decide +kernel, by decide +kernel⟩, List.mem_of_getElem? (i := 1065) (by decide +kernel), List.mem_of_getElem? (i := 1393) (by decide +kernel), List.mem_of_getElem? (i := 1394) (by decide +kernel)⟩
theorem lw_p52 : lw_okq (⟨"NightLetInModel", "rowFault", "(I)I"⟩, 57) := ⟨⟨by decide +kernel, by decide +kernel⟩, List.mem_of_getElem? (i := 1065) (by decide +kernel), List.mem_of_getElem? (i := 1404) (by decide +kernel), List.mem_of_getElem? (i := 1405) (by decide +kernel)⟩
theorem lw_p53 : lw_okq (⟨"NightLetInModel", "layNow", "()V"⟩, 57) := ⟨⟨by decide +kernel, by decide +kernel⟩, List.mem_of_getElem? (i := 1065) (by decide +kernel), List.mem_of_getElem? (i := 1408) (by decide +kernel), List.mem_of_getElem? (i := 1409) (by decide +kernel)⟩
theorem lw_p54 : lw_okq (⟨"NightLetInModel", "turnAt", "(II)I"⟩, 57) := ⟨⟨by decide +kernel, by decide +kernel⟩, List.mem_of_getElem? (i := 1065) (by decide +kernel), List.mem_of_getElem? (i := 1412) (by decide +kernel), List.mem_of_getElem? (i := 1413) (by decide +kernel)⟩
theorem lw_p55 : lw_okq (⟨"NightLetInModel", "goDay", "(I)I"⟩, 57) := ⟨⟨by decide +kernel, by decide +kernel⟩, List.mem_of_getElem? (i := 1065) (by decide +kernel), List.mem_of_getElem? (i := 1416) (by decide +kernel), List.mem_of_getElem? (i := 1417) (by decide +kernel)⟩
theorem lw_p56 : lw_okq (⟨"NightLetInModel", "sleepers", "()I"⟩, 57) := ⟨⟨by decide +kernel, by decide +kernel⟩, List.mem_of_getElem? (i := 1065) (by decide +kernel), List.mem_of_getElem? (i := 1420) (by decide +kernel), List.mem_of_getElem? (i := 1421) (by decide +kernel)⟩
theorem lw_p57 : lw_okq (⟨"NightLetInModel", "lieIn", "(I)I"⟩, 57) := ⟨⟨by decide +kernel, by decide +kernel⟩, List.mem_of_getElem? (i := 1065) (by decide +kernel), List.mem_of_getElem? (i := 1424) (by decide +kernel), List.mem_of_getElem? (i := 1425) (by decide +kernel)⟩
theorem lw_p58 : lw_okq (⟨"NightLetInModel", "leaksTo", "(I)I"⟩, 57) := ⟨⟨by decide +kernel, by decide +kernel⟩, List.mem_of_getElem? (i := 1065) (by decide +kernel), List.mem_of_getElem? (i := 1428) (by decide +kernel), List.mem_of_getElem? (i := 1429) (by decide +kernel)⟩
theorem lw_p59 : lw_okq (⟨"NightLetInModel", "gives", "(I)I"⟩, 57) := ⟨⟨by decide +kernel, by decide +kernel⟩, List.mem_of_getElem? (i := 1065) (by decide +kernel), List.mem_of_getElem? (i := 1432) (by decide +kernel), List.mem_of_getElem? (i := 1433) (by decide +kernel)⟩
theorem lw_p60 : lw_okq (⟨"NightLetInModel", "worked", "(III)I"⟩, 57) := ⟨⟨by decide +kernel, by decide +kernel⟩, List.mem_of_getElem? (i := 1065) (by decide +kernel), List.mem_of_getElem? (i := 1436) (by decide +kernel), List.mem_of_getElem? (i := 1437) (by decide +kernel)⟩
theorem lw_p61 : lw_okq (⟨"NightLetInModel", "allBoys", "()I"⟩, 57) := ⟨⟨by decide +kernel, by decide +kernel⟩, List.mem_of_getElem? (i := 1065) (by decide +kernel), List.mem_of_getElem? (i := 1451) (by decide +kernel), List.mem_of_getElem? (i := 1452) (by decide +kernel)⟩
theorem lw_p62 : lw_okq (⟨"NightLetInModel", "isBlueNow", "()Z"⟩, 57) := ⟨⟨by decide +kernel, by decide +kernel⟩, List.mem_of_getElem? (i := 1065) (by decide +kernel), List.mem_of_getElem? (i := 1467) (by decide +kernel), List.mem_of_getElem? (i := 1468) (by decide +kernel)⟩
theorem lw_p63 : lw_okq (⟨"NightLetInModel", "toTurn", "(I)I"⟩, 57) := ⟨⟨by decide +kernel, by decide +kernel⟩, List.mem_of_getElem? (i := 1065) (by decide +kernel), List.mem_of_getElem? (i := 1471) (by decide +kernel), List.mem_of_getElem? (i := 1472) (by decide +kernel)⟩
def lw_privs_4 : List (MethodName × Nat) := [(⟨"NightLetInModel", "addStep", "(II)V"⟩, 57), (⟨"NightLetInModel", "opens", "()Z"⟩, 57), (⟨"NightLetInModel", "wrong", "()V"⟩, 57), (⟨"NightLetInModel", "figure", "()V"⟩, 57), (⟨"NightLetInModel", "rowFault", "(I)I"⟩, 57), (⟨"NightLetInModel", "layNow", "()V"⟩, 57), (⟨"NightLetInModel", "turnAt", "(II)I"⟩, 57), (⟨"NightLetInModel", "goDay", "(I)I"⟩, 57), (⟨"NightLetInModel", "sleepers", "()I"⟩, 57), (⟨"NightLetInModel", "lieIn", "(I)I"⟩, 57), (⟨"NightLetInModel", "leaksTo", "(I)I"⟩, 57), (⟨"NightLetInModel", "gives", "(I)I"⟩, 57), (⟨"NightLetInModel", "worked", "(III)I"⟩, 57), (⟨"NightLetInModel", "allBoys", "()I"⟩, 57), (⟨"NightLetInModel", "isBlueNow", "()Z"⟩, 57), (⟨"NightLetInModel", "toTurn", "(I)I"⟩, 57)]
theorem lw_r4 : ∀ q ∈ lw_privs_4, lw_okq q := List.forall_mem_cons.mpr ⟨lw_p48, List.forall_mem_cons.mpr ⟨lw_p49, List.forall_mem_cons.mpr ⟨lw_p50, List.forall_mem_cons.mpr ⟨lw_p51, List.forall_mem_cons.mpr ⟨lw_p52, List.forall_mem_cons.mpr ⟨lw_p53, List.forall_mem_cons.mpr ⟨lw_p54, List.forall_mem_cons.mpr ⟨lw_p55, List.forall_mem_cons.mpr ⟨lw_p56, List.forall_mem_cons.mpr ⟨lw_p57, List.forall_mem_cons.mpr ⟨lw_p58, List.forall_mem_cons.mpr ⟨lw_p59, List.forall_mem_cons.mpr ⟨lw_p60, List.forall_mem_cons.mpr ⟨lw_p61, List.forall_mem_cons.mpr ⟨lw_p62, List.forall_mem_cons.mpr ⟨lw_p63, fun _ h => absurd h List.not_mem_nil⟩⟩⟩⟩⟩⟩⟩⟩⟩⟩⟩⟩⟩⟩⟩⟩
theorem lw_p64 : lw_okq (⟨"NightLetInModel", "goBeds", "(I)V"⟩, 57) := ⟨⟨by decide +kernel, by decide +kernel⟩, List.mem_of_getElem? (i := 1065) (by decide +kernel), List.mem_of_getElem? (i := 1479) (by decide +kernel), List.mem_of_getElem? (i := 1480) (by decide +kernel)⟩
theorem lw_p65 : lw_okq (⟨"NightLetInModel", "findDeals", "()V"⟩, 57) := ⟨⟨by decide +kernel, by decide +kernel⟩, List.mem_of_getElem? (i := 1065) (by decide +kernel), List.mem_of_getElem? (i := 1490) (by decide +kernel), List.mem_of_getElem? (i := 1491) (by decide +kernel)⟩
theorem lw_p66 : lw_okq (⟨"NightLetInModel", "sleepIn", "(II)I"⟩, 57) := ⟨⟨by decide +kernel, by decide +kernel⟩, List.mem_of_getElem? (i := 1065) (by decide +kernel), List.mem_of_getElem? (i := 1494) (by decide +kernel), List.mem_of_getElem? (i := 1495) (by decide +kernel)⟩
theorem lw_p67 : lw_okq (⟨"NightLetInModel", "letGo", "(I)V"⟩, 57) := ⟨⟨by decide +kernel, by decide +kernel⟩, List.mem_of_getElem? (i := 1065) (by decide +kernel), List.mem_of_getElem? (i := 1502) (by decide +kernel), List.mem_of_getElem? (i := 1503) (by decide +kernel)⟩
theorem lw_p68 : lw_okq (⟨"NightLetInModel", "goesTo", "(II)I"⟩, 57) := ⟨⟨by decide +kernel, by decide +kernel⟩, List.mem_of_getElem? (i := 1065) (by decide +kernel), List.mem_of_getElem? (i := 1506) (by decide +kernel), List.mem_of_getElem? (i := 1507) (by decide +kernel)⟩
theorem lw_p69 : lw_okq (⟨"NightLetInModel", "unlikeCells", "()I"⟩, 57) := ⟨⟨by decide +kernel, by decide +kernel⟩, List.mem_of_getElem? (i := 1065) (by decide +kernel), List.mem_of_getElem? (i := 1513) (by decide +kernel), List.mem_of_getElem? (i := 1514) (by decide +kernel)⟩
theorem lw_p70 : lw_okq (⟨"NightLetInModel", "wrongDay", "(I)I"⟩, 57) := ⟨⟨by decide +kernel, by decide +kernel⟩, List.mem_of_getElem? (i := 1065) (by decide +kernel), List.mem_of_getElem? (i := 1537) (by decide +kernel), List.mem_of_getElem? (i := 1538) (by decide +kernel)⟩
theorem lw_p71 : lw_okq (⟨"NightLetInModel", "needsIn", "(I)I"⟩, 57) := ⟨⟨by decide +kernel, by decide +kernel⟩, List.mem_of_getElem? (i := 1065) (by decide +kernel), List.mem_of_getElem? (i := 1557) (by decide +kernel), List.mem_of_getElem? (i := 1558) (by decide +kernel)⟩
theorem lw_p72 : lw_okq (⟨"NightLetInModel", "isBody", "(I)Z"⟩, 57) := ⟨⟨by decide +kernel, by decide +kernel⟩, List.mem_of_getElem? (i := 1065) (by decide +kernel), List.mem_of_getElem? (i := 1602) (by decide +kernel), List.mem_of_getElem? (i := 1603) (by decide +kernel)⟩
theorem lw_p73 : lw_okq (⟨"NightLetInModel", "lying", "(II)I"⟩, 57) := ⟨⟨by decide +kernel, by decide +kernel⟩, List.mem_of_getElem? (i := 1065) (by decide +kernel), List.mem_of_getElem? (i := 1606) (by decide +kernel), List.mem_of_getElem? (i := 1607) (by decide +kernel)⟩
theorem lw_p74 : lw_okq (⟨"NightLetInModel", "ran", "(I)V"⟩, 57) := ⟨⟨by decide +kernel, by decide +kernel⟩, List.mem_of_getElem? (i := 1065) (by decide +kernel), List.mem_of_getElem? (i := 1613) (by decide +kernel), List.mem_of_getElem? (i := 1614) (by decide +kernel)⟩
theorem lw_p75 : lw_okq (⟨"NightLetInModel", "plainLies", "(II)I"⟩, 57) := ⟨⟨by decide +kernel, by decide +kernel⟩, List.mem_of_getElem? (i := 1065) (by decide +kernel), List.mem_of_getElem? (i := 1617) (by decide +kernel), List.mem_of_getElem? (i := 1618) (by decide +kernel)⟩
theorem lw_p76 : lw_okq (⟨"NightLetInModel", "latchLies", "(II)I"⟩, 57) := ⟨⟨by decide +kernel, by decide +kernel⟩, List.mem_of_getElem? (i := 1065) (by decide +kernel), List.mem_of_getElem? (i := 1621) (by decide +kernel), List.mem_of_getElem? (i := 1622) (by decide +kernel)⟩
theorem lw_p77 : lw_okq (⟨"NightLetInModel", "turning", "(II)I"⟩, 57) := ⟨⟨by decide +kernel, by decide +kernel⟩, List.mem_of_getElem? (i := 1065) (by decide +kernel), List.mem_of_getElem? (i := 1625) (by decide +kernel), List.mem_of_getElem? (i := 1626) (by decide +kernel)⟩
theorem lw_p78 : lw_okq (⟨"NightLetInModel", "starTurns", "(II)I"⟩, 57) := ⟨⟨by decide +kernel, by decide +kernel⟩, List.mem_of_getElem? (i := 1065) (by decide +kernel), List.mem_of_getElem? (i := 1629) (by decide +kernel), List.mem_of_getElem? (i := 1630) (by decide +kernel)⟩
theorem lw_p79 : lw_okq (⟨"NightLetInModel", "plainTurns", "(II)I"⟩, 57) := ⟨⟨by decide +kernel, by decide +kernel⟩, List.mem_of_getElem? (i := 1065) (by decide +kernel), List.mem_of_getElem? (i := 1633) (by decide +kernel), List.mem_of_getElem? (i := 1634) (by decide +kernel)⟩
def lw_privs_5 : List (MethodName × Nat) := [(⟨"NightLetInModel", "goBeds", "(I)V"⟩, 57), (⟨"NightLetInModel", "findDeals", "()V"⟩, 57), (⟨"NightLetInModel", "sleepIn", "(II)I"⟩, 57), (⟨"NightLetInModel", "letGo", "(I)V"⟩, 57), (⟨"NightLetInModel", "goesTo", "(II)I"⟩, 57), (⟨"NightLetInModel", "unlikeCells", "()I"⟩, 57), (⟨"NightLetInModel", "wrongDay", "(I)I"⟩, 57), (⟨"NightLetInModel", "needsIn", "(I)I"⟩, 57), (⟨"NightLetInModel", "isBody", "(I)Z"⟩, 57), (⟨"NightLetInModel", "lying", "(II)I"⟩, 57), (⟨"NightLetInModel", "ran", "(I)V"⟩, 57), (⟨"NightLetInModel", "plainLies", "(II)I"⟩, 57), (⟨"NightLetInModel", "latchLies", "(II)I"⟩, 57), (⟨"NightLetInModel", "turning", "(II)I"⟩, 57), (⟨"NightLetInModel", "starTurns", "(II)I"⟩, 57), (⟨"NightLetInModel", "plainTurns", "(II)I"⟩, 57)]
theorem lw_r5 : ∀ q ∈ lw_privs_5, lw_okq q := List.forall_mem_cons.mpr ⟨lw_p64, List.forall_mem_cons.mpr ⟨lw_p65, List.forall_mem_cons.mpr ⟨lw_p66, List.forall_mem_cons.mpr ⟨lw_p67, List.forall_mem_cons.mpr ⟨lw_p68, List.forall_mem_cons.mpr ⟨lw_p69, List.forall_mem_cons.mpr ⟨lw_p70, List.forall_mem_cons.mpr ⟨lw_p71, List.forall_mem_cons.mpr ⟨lw_p72, List.forall_mem_cons.mpr ⟨lw_p73, List.forall_mem_cons.mpr ⟨lw_p74, List.forall_mem_cons.mpr ⟨lw_p75, List.forall_mem_cons.mpr ⟨lw_p76, List.forall_mem_cons.mpr ⟨lw_p77, List.forall_mem_cons.mpr ⟨lw_p78, List.forall_mem_cons.mpr ⟨lw_p79, fun _ h => absurd h List.not_mem_nil⟩⟩⟩⟩⟩⟩⟩⟩⟩⟩⟩⟩⟩⟩⟩⟩
theorem lw_p80 : lw_okq (⟨"NightLetInModel", "going", "(II)I"⟩, 57) := ⟨⟨by decide +kernel, by decide +kernel⟩, List.mem_of_getElem? (i := 1065) (by decide +kernel), List.mem_of_getElem? (i := 1637) (by decide +kernel), List.mem_of_getElem? (i := 1638) (by decide +kernel)⟩
theorem lw_p81 : lw_okq (⟨"NightLetInModel", "cowGoes", "(II)I"⟩, 57) := ⟨⟨by decide +kernel, by decide +kernel⟩, List.mem_of_getElem? (i := 1065) (by decide +kernel), List.mem_of_getElem? (i := 1641) (by decide +kernel), List.mem_of_getElem? (i := 1642) (by decide +kernel)⟩
theorem lw_p82 : lw_okq (⟨"NightLetInModel", "plainGoes", "(II)I"⟩, 57) := ⟨⟨by decide +kernel, by decide +kernel⟩, List.mem_of_getElem? (i := 1065) (by decide +kernel), List.mem_of_getElem? (i := 1645) (by decide +kernel), List.mem_of_getElem? (i := 1646) (by decide +kernel)⟩
theorem lw_p83 : lw_okq (⟨"NightLetInModel", "telling", "(II)I"⟩, 57) := ⟨⟨by decide +kernel, by decide +kernel⟩, List.mem_of_getElem? (i := 1065) (by decide +kernel), List.mem_of_getElem? (i := 1649) (by decide +kernel), List.mem_of_getElem? (i := 1650) (by decide +kernel)⟩
theorem lw_p84 : lw_okq (⟨"NightLetInModel", "plainTells", "(II)I"⟩, 57) := ⟨⟨by decide +kernel, by decide +kernel⟩, List.mem_of_getElem? (i := 1065) (by decide +kernel), List.mem_of_getElem? (i := 1653) (by decide +kernel), List.mem_of_getElem? (i := 1654) (by decide +kernel)⟩
theorem lw_p85 : lw_okq (⟨"NightLetInModel", "whyNoPlace", "(II)I"⟩, 57) := ⟨⟨by decide +kernel, by decide +kernel⟩, List.mem_of_getElem? (i := 1065) (by decide +kernel), List.mem_of_getElem? (i := 1673) (by decide +kernel), List.mem_of_getElem? (i := 1674) (by decide +kernel)⟩
def lw_privs_6 : List (MethodName × Nat) := [(⟨"NightLetInModel", "going", "(II)I"⟩, 57), (⟨"NightLetInModel", "cowGoes", "(II)I"⟩, 57), (⟨"NightLetInModel", "plainGoes", "(II)I"⟩, 57), (⟨"NightLetInModel", "telling", "(II)I"⟩, 57), (⟨"NightLetInModel", "plainTells", "(II)I"⟩, 57), (⟨"NightLetInModel", "whyNoPlace", "(II)I"⟩, 57)]
theorem lw_r6 : ∀ q ∈ lw_privs_6, lw_okq q := List.forall_mem_cons.mpr ⟨lw_p80, List.forall_mem_cons.mpr ⟨lw_p81, List.forall_mem_cons.mpr ⟨lw_p82, List.forall_mem_cons.mpr ⟨lw_p83, List.forall_mem_cons.mpr ⟨lw_p84, List.forall_mem_cons.mpr ⟨lw_p85, fun _ h => absurd h List.not_mem_nil⟩⟩⟩⟩⟩⟩
def lw_privs : List (MethodName × Nat) := lw_privs_1 ++ (lw_privs_2 ++ (lw_privs_3 ++ (lw_privs_4 ++ (lw_privs_5 ++ (lw_privs_6)))))
def lw_tbl : List Cond := k2_sels lw_privs ++ tables_1
theorem lw_privs_ok : ∀ q ∈ lw_privs, lw_okq q := by
  show ∀ q ∈ lw_privs_1 ++ (lw_privs_2 ++ (lw_privs_3 ++ (lw_privs_4 ++ (lw_privs_5 ++ (lw_privs_6))))), lw_okq q
  exact List.forall_mem_append.mpr ⟨lw_r1, List.forall_mem_append.mpr ⟨lw_r2, List.forall_mem_append.mpr ⟨lw_r3, List.forall_mem_append.mpr ⟨lw_r4, List.forall_mem_append.mpr ⟨lw_r5, lw_r6⟩⟩⟩⟩⟩
def RX0 : String := "NightLetIn$Acts"
def TX0 : u_T := fun k => match k with
  | 0 => ("NightLetIn$Acts", "kindOf", "[I", true)
  | 1 => ("NightLetIn$Acts", "bodies", "I", false)
  | 2 => ("NightLetIn$Acts", "begun", "[I", true)
  | _ => ("NightLetIn$Acts", "ran", "I", false)
def tyX0 : Nat → FieldType := fun k => match k with
  | 0 => .array .int
  | 1 => .int
  | 2 => .array .int
  | _ => .int
theorem nmX0 : ∀ a, a < 4 → ∀ b, b < 4 → a ≠ b → (TX0 a).2.1 ≠ (TX0 b).2.1 := by decide +kernel
theorem tyX0_ok : ∀ k, k < 4 → parseFieldDescriptor (TX0 k).2.2.1 = some (tyX0 k) := by decide +kernel
def RX1 : String := "NightLetIn$Beds"
def TX1 : u_T := fun k => match k with
  | 0 => ("NightLetIn$Beds", "worth", "[I", true)
  | 1 => ("NightLetIn$Beds", "here", "[I", true)
  | _ => ("NightLetIn$Beds", "best", "I", false)
def tyX1 : Nat → FieldType := fun k => match k with
  | 0 => .array .int
  | 1 => .array .int
  | _ => .int
theorem nmX1 : ∀ a, a < 3 → ∀ b, b < 3 → a ≠ b → (TX1 a).2.1 ≠ (TX1 b).2.1 := by decide +kernel
theorem tyX1_ok : ∀ k, k < 3 → parseFieldDescriptor (TX1 k).2.2.1 = some (tyX1 k) := by decide +kernel
def RX2 : String := "NightLetIn$Changes"
def TX2 : u_T := fun k => match k with
  | 0 => ("NightLetIn$Changes", "number", "[I", true)
  | 1 => ("NightLetIn$Changes", "what", "[I", true)
  | 2 => ("NightLetIn$Changes", "was", "[I", true)
  | 3 => ("NightLetIn$Changes", "became", "[I", true)
  | 4 => ("NightLetIn$Changes", "done", "I", false)
  | _ => ("NightLetIn$Changes", "kept", "I", false)
def tyX2 : Nat → FieldType := fun k => match k with
  | 0 => .array .int
  | 1 => .array .int
  | 2 => .array .int
  | 3 => .array .int
  | 4 => .int
  | _ => .int
theorem nmX2 : ∀ a, a < 6 → ∀ b, b < 6 → a ≠ b → (TX2 a).2.1 ≠ (TX2 b).2.1 := by decide +kernel
theorem tyX2_ok : ∀ k, k < 6 → parseFieldDescriptor (TX2 k).2.2.1 = some (tyX2 k) := by decide +kernel
def RX3 : String := "NightLetIn$Deal"
def TX3 : u_T := fun k => match k with
  | 0 => ("NightLetIn$Deal", "gets", "[I", true)
  | 1 => ("NightLetIn$Deal", "price", "[I", true)
  | _ => ("NightLetIn$Deal", "least", "[I", true)
def tyX3 : Nat → FieldType := fun k => match k with
  | 0 => .array .int
  | 1 => .array .int
  | _ => .array .int
theorem nmX3 : ∀ a, a < 3 → ∀ b, b < 3 → a ≠ b → (TX3 a).2.1 ≠ (TX3 b).2.1 := by decide +kernel
theorem tyX3_ok : ∀ k, k < 3 → parseFieldDescriptor (TX3 k).2.2.1 = some (tyX3 k) := by decide +kernel
def RX4 : String := "NightLetIn$Land"
def TX4 : u_T := fun k => match k with
  | 0 => ("NightLetIn$Land", "barns", "I", false)
  | 1 => ("NightLetIn$Land", "boys", "I", false)
  | 2 => ("NightLetIn$Land", "lamps", "I", false)
  | 3 => ("NightLetIn$Land", "thaw", "I", false)
  | 4 => ("NightLetIn$Land", "limit", "I", false)
  | 5 => ("NightLetIn$Land", "barnCell", "[I", true)
  | 6 => ("NightLetIn$Land", "night", "[I", true)
  | 7 => ("NightLetIn$Land", "blue", "[I", true)
  | 8 => ("NightLetIn$Land", "latch", "[I", true)
  | 9 => ("NightLetIn$Land", "needs", "[I", true)
  | 10 => ("NightLetIn$Land", "place", "[I", true)
  | 11 => ("NightLetIn$Land", "lampCell", "[I", true)
  | 12 => ("NightLetIn$Land", "bright", "[I", true)
  | _ => ("NightLetIn$Land", "lying", "[I", true)
def tyX4 : Nat → FieldType := fun k => match k with
  | 0 => .int
  | 1 => .int
  | 2 => .int
  | 3 => .int
  | 4 => .int
  | 5 => .array .int
  | 6 => .array .int
  | 7 => .array .int
  | 8 => .array .int
  | 9 => .array .int
  | 10 => .array .int
  | 11 => .array .int
  | 12 => .array .int
  | _ => .array .int
theorem nmX4 : ∀ a, a < 14 → ∀ b, b < 14 → a ≠ b → (TX4 a).2.1 ≠ (TX4 b).2.1 := by decide +kernel
theorem tyX4_ok : ∀ k, k < 14 → parseFieldDescriptor (TX4 k).2.2.1 = some (tyX4 k) := by decide +kernel
def RX5 : String := "NightLetIn$Law"
def TX5 : u_T := fun k => match k with
  | 0 => ("NightLetIn$Law", "steps", "[I", true)
  | 1 => ("NightLetIn$Law", "length", "I", false)
  | 2 => ("NightLetIn$Law", "named", "[I", true)
  | _ => ("NightLetIn$Law", "pending", "[I", true)
def tyX5 : Nat → FieldType := fun k => match k with
  | 0 => .array .int
  | 1 => .int
  | 2 => .array .int
  | _ => .array .int
theorem nmX5 : ∀ a, a < 4 → ∀ b, b < 4 → a ≠ b → (TX5 a).2.1 ≠ (TX5 b).2.1 := by decide +kernel
theorem tyX5_ok : ∀ k, k < 4 → parseFieldDescriptor (TX5 k).2.2.1 = some (tyX5 k) := by decide +kernel
def RX6 : String := "NightLetIn$Ledger"
def TX6 : u_T := fun k => match k with
  | 0 => ("NightLetIn$Ledger", "told", "[I", true)
  | 1 => ("NightLetIn$Ledger", "keptBarns", "I", false)
  | 2 => ("NightLetIn$Ledger", "keptNight", "[I", true)
  | 3 => ("NightLetIn$Ledger", "keptBlue", "[I", true)
  | _ => ("NightLetIn$Ledger", "keptTold", "[I", true)
def tyX6 : Nat → FieldType := fun k => match k with
  | 0 => .array .int
  | 1 => .int
  | 2 => .array .int
  | 3 => .array .int
  | _ => .array .int
theorem nmX6 : ∀ a, a < 5 → ∀ b, b < 5 → a ≠ b → (TX6 a).2.1 ≠ (TX6 b).2.1 := by decide +kernel
theorem tyX6_ok : ∀ k, k < 5 → parseFieldDescriptor (TX6 k).2.2.1 = some (tyX6 k) := by decide +kernel
def RX7 : String := "NightLetIn$Reader"
def TX7 : u_T := fun k => match k with
  | 0 => ("NightLetIn$Reader", "bytes", "[I", true)
  | 1 => ("NightLetIn$Reader", "length", "I", false)
  | 2 => ("NightLetIn$Reader", "steps", "[I", true)
  | 3 => ("NightLetIn$Reader", "stepped", "I", false)
  | _ => ("NightLetIn$Reader", "at", "I", false)
def tyX7 : Nat → FieldType := fun k => match k with
  | 0 => .array .int
  | 1 => .int
  | 2 => .array .int
  | 3 => .int
  | _ => .int
theorem nmX7 : ∀ a, a < 5 → ∀ b, b < 5 → a ≠ b → (TX7 a).2.1 ≠ (TX7 b).2.1 := by decide +kernel
theorem tyX7_ok : ∀ k, k < 5 → parseFieldDescriptor (TX7 k).2.2.1 = some (tyX7 k) := by decide +kernel
def RX8 : String := "NightLetIn$Shelf"
def TX8 : u_T := fun k => match k with
  | 0 => ("NightLetIn$Shelf", "holds", "I", false)
  | 1 => ("NightLetIn$Shelf", "body", "I", false)
  | 2 => ("NightLetIn$Shelf", "sort", "I", false)
  | 3 => ("NightLetIn$Shelf", "size", "I", false)
  | _ => ("NightLetIn$Shelf", "elements", "[J", true)
def tyX8 : Nat → FieldType := fun k => match k with
  | 0 => .int
  | 1 => .int
  | 2 => .int
  | 3 => .int
  | _ => .array .long
theorem nmX8 : ∀ a, a < 5 → ∀ b, b < 5 → a ≠ b → (TX8 a).2.1 ≠ (TX8 b).2.1 := by decide +kernel
theorem tyX8_ok : ∀ k, k < 5 → parseFieldDescriptor (TX8 k).2.2.1 = some (tyX8 k) := by decide +kernel
def RX9 : String := "NightLetIn$Turner"
def TX9 : u_T := fun k => match k with
  | _ => ("NightLetIn$Turner", "plan", "[I", true)
def tyX9 : Nat → FieldType := fun k => match k with
  | _ => .array .int
theorem nmX9 : ∀ a, a < 1 → ∀ b, b < 1 → a ≠ b → (TX9 a).2.1 ≠ (TX9 b).2.1 := by decide +kernel
theorem tyX9_ok : ∀ k, k < 1 → parseFieldDescriptor (TX9 k).2.2.1 = some (tyX9 k) := by decide +kernel
def RX10 : String := "NightLetIn$Way"
def TX10 : u_T := fun k => match k with
  | 0 => ("NightLetIn$Way", "light", "[I", true)
  | 1 => ("NightLetIn$Way", "cells", "[I", true)
  | 2 => ("NightLetIn$Way", "hours", "I", false)
  | 3 => ("NightLetIn$Way", "seen", "[I", true)
  | 4 => ("NightLetIn$Way", "moreCell", "I", false)
  | _ => ("NightLetIn$Way", "moreBright", "I", false)
def tyX10 : Nat → FieldType := fun k => match k with
  | 0 => .array .int
  | 1 => .array .int
  | 2 => .int
  | 3 => .array .int
  | 4 => .int
  | _ => .int
theorem nmX10 : ∀ a, a < 6 → ∀ b, b < 6 → a ≠ b → (TX10 a).2.1 ≠ (TX10 b).2.1 := by decide +kernel
theorem tyX10_ok : ∀ k, k < 6 → parseFieldDescriptor (TX10 k).2.2.1 = some (tyX10 k) := by decide +kernel
def RX11 : String := "NightLetIn"
def TX11 : u_T := fun k => match k with
  | 0 => ("NightLetIn", "now", "LNightLetIn$Land;", true)
  | 1 => ("NightLetIn", "tape", "LNightLetIn$Reader;", true)
  | 2 => ("NightLetIn", "rule", "LNightLetIn$Law;", true)
  | 3 => ("NightLetIn", "thought", "LNightLetIn$Land;", true)
  | 4 => ("NightLetIn", "turner", "LNightLetIn$Turner;", true)
  | 5 => ("NightLetIn", "bedding", "LNightLetIn$Beds;", true)
  | 6 => ("NightLetIn", "dealing", "LNightLetIn$Deal;", true)
  | 7 => ("NightLetIn", "way", "LNightLetIn$Way;", true)
  | 8 => ("NightLetIn", "changes", "LNightLetIn$Changes;", true)
  | 9 => ("NightLetIn", "ledger", "LNightLetIn$Ledger;", true)
  | 10 => ("NightLetIn", "acts", "LNightLetIn$Acts;", true)
  | _ => ("NightLetIn", "shelves", "[LNightLetIn$Shelf;", true)
def tyX11 : Nat → FieldType := fun k => match k with
  | 0 => .object "NightLetIn$Land"
  | 1 => .object "NightLetIn$Reader"
  | 2 => .object "NightLetIn$Law"
  | 3 => .object "NightLetIn$Land"
  | 4 => .object "NightLetIn$Turner"
  | 5 => .object "NightLetIn$Beds"
  | 6 => .object "NightLetIn$Deal"
  | 7 => .object "NightLetIn$Way"
  | 8 => .object "NightLetIn$Changes"
  | 9 => .object "NightLetIn$Ledger"
  | 10 => .object "NightLetIn$Acts"
  | _ => .array (.object "NightLetIn$Shelf")
theorem nmX11 : ∀ a, a < 12 → ∀ b, b < 12 → a ≠ b → (TX11 a).2.1 ≠ (TX11 b).2.1 := by decide +kernel
theorem tyX11_ok : ∀ k, k < 12 → parseFieldDescriptor (TX11 k).2.2.1 = some (tyX11 k) := by decide +kernel
def RX12 : String := "NightLetInModel"
def TX12 : u_T := fun k => match k with
  | 0 => ("NightLetInModel", "code", "I", false)
  | 1 => ("NightLetInModel", "barns", "I", false)
  | 2 => ("NightLetInModel", "barnAt", "[I", true)
  | 3 => ("NightLetInModel", "night", "[I", true)
  | 4 => ("NightLetInModel", "blueOf", "[I", true)
  | 5 => ("NightLetInModel", "latch", "[I", true)
  | 6 => ("NightLetInModel", "boys", "I", false)
  | 7 => ("NightLetInModel", "needs", "[I", true)
  | 8 => ("NightLetInModel", "bed", "[I", true)
  | 9 => ("NightLetInModel", "lamps", "I", false)
  | 10 => ("NightLetInModel", "lampAt", "[I", true)
  | 11 => ("NightLetInModel", "bright", "[I", true)
  | 12 => ("NightLetInModel", "thaw", "I", false)
  | 13 => ("NightLetInModel", "limit", "I", false)
  | 14 => ("NightLetInModel", "doneMany", "I", false)
  | 15 => ("NightLetInModel", "undoneMany", "I", false)
  | 16 => ("NightLetInModel", "changeOf", "[I", true)
  | 17 => ("NightLetInModel", "changeAt", "[I", true)
  | 18 => ("NightLetInModel", "before", "[I", true)
  | 19 => ("NightLetInModel", "behind", "[I", true)
  | 20 => ("NightLetInModel", "tape", "[B", true)
  | 21 => ("NightLetInModel", "taped", "I", false)
  | 22 => ("NightLetInModel", "here", "I", false)
  | 23 => ("NightLetInModel", "fault", "I", false)
  | 24 => ("NightLetInModel", "open", "I", false)
  | 25 => ("NightLetInModel", "laid", "I", false)
  | 26 => ("NightLetInModel", "act", "[B", true)
  | 27 => ("NightLetInModel", "with", "[I", true)
  | 28 => ("NightLetInModel", "lineMany", "[I", true)
  | 29 => ("NightLetInModel", "testEnd", "[S", true)
  | 30 => ("NightLetInModel", "lineEnd", "[S", true)
  | 31 => ("NightLetInModel", "facts", "[I", true)
  | 32 => ("NightLetInModel", "pile", "[I", true)
  | 33 => ("NightLetInModel", "hasLaw", "Z", false)
  | 34 => ("NightLetInModel", "night1", "[I", true)
  | 35 => ("NightLetInModel", "blue1", "[I", true)
  | 36 => ("NightLetInModel", "day1", "I", false)
  | 37 => ("NightLetInModel", "turnOf", "[I", true)
  | 38 => ("NightLetInModel", "bestBed", "[I", true)
  | 39 => ("NightLetInModel", "mostSleep", "I", false)
  | 40 => ("NightLetInModel", "bestDeal", "[I", true)
  | 41 => ("NightLetInModel", "cellIn", "[I", true)
  | 42 => ("NightLetInModel", "outIn", "I", false)
  | 43 => ("NightLetInModel", "ledOf", "[I", true)
  | 44 => ("NightLetInModel", "hasImage", "Z", false)
  | 45 => ("NightLetInModel", "keptMany", "I", false)
  | 46 => ("NightLetInModel", "keptNight", "[I", true)
  | 47 => ("NightLetInModel", "keptBlue", "[I", true)
  | 48 => ("NightLetInModel", "keptLed", "[I", true)
  | 49 => ("NightLetInModel", "bodies", "I", false)
  | 50 => ("NightLetInModel", "kind", "[I", true)
  | 51 => ("NightLetInModel", "traces", "I", false)
  | 52 => ("NightLetInModel", "traced", "[I", true)
  | 53 => ("NightLetInModel", "holds", "[I", true)
  | 54 => ("NightLetInModel", "size", "[I", true)
  | 55 => ("NightLetInModel", "elements", "[J", true)
  | _ => ("NightLetInModel", "shifted", "[J", true)
def tyX12 : Nat → FieldType := fun k => match k with
  | 0 => .int
  | 1 => .int
  | 2 => .array .int
  | 3 => .array .int
  | 4 => .array .int
  | 5 => .array .int
  | 6 => .int
  | 7 => .array .int
  | 8 => .array .int
  | 9 => .int
  | 10 => .array .int
  | 11 => .array .int
  | 12 => .int
  | 13 => .int
  | 14 => .int
  | 15 => .int
  | 16 => .array .int
  | 17 => .array .int
  | 18 => .array .int
  | 19 => .array .int
  | 20 => .array .byte
  | 21 => .int
  | 22 => .int
  | 23 => .int
  | 24 => .int
  | 25 => .int
  | 26 => .array .byte
  | 27 => .array .int
  | 28 => .array .int
  | 29 => .array .short
  | 30 => .array .short
  | 31 => .array .int
  | 32 => .array .int
  | 33 => .boolean
  | 34 => .array .int
  | 35 => .array .int
  | 36 => .int
  | 37 => .array .int
  | 38 => .array .int
  | 39 => .int
  | 40 => .array .int
  | 41 => .array .int
  | 42 => .int
  | 43 => .array .int
  | 44 => .boolean
  | 45 => .int
  | 46 => .array .int
  | 47 => .array .int
  | 48 => .array .int
  | 49 => .int
  | 50 => .array .int
  | 51 => .int
  | 52 => .array .int
  | 53 => .array .int
  | 54 => .array .int
  | 55 => .array .long
  | _ => .array .long
theorem nmX12 : ∀ a, a < 57 → ∀ b, b < 57 → a ≠ b → (TX12 a).2.1 ≠ (TX12 b).2.1 := by decide +kernel
theorem tyX12_ok : ∀ k, k < 57 → parseFieldDescriptor (TX12 k).2.2.1 = some (tyX12 k) := by decide +kernel
abbrev vwCl : List vw_C := [(RX0, TX0, 4), (RX1, TX1, 3), (RX2, TX2, 6), (RX3, TX3, 3), (RX4, TX4, 14), (RX5, TX5, 4), (RX6, TX6, 5), (RX7, TX7, 5), (RX8, TX8, 5), (RX9, TX9, 1), (RX10, TX10, 6), (RX11, TX11, 12), (RX12, TX12, 57)]
