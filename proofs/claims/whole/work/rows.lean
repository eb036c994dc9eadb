section
-- ===== PART A: goes FIRST, ahead of the names: the tables' words, and 'selects' of the private methods out of them =====
/-- a private method of a class that the tables say can be made, by its rows of tables_1 -/
def lw_okq (q : MethodName × Nat) : Prop := (q.1.cls ≠ "java/lang/invoke/MethodHandle" ∧ q.1.cls ≠ "java/lang/invoke/VarHandle") ∧ Cond.instantiable q.1.cls q.2 ∈ tables_1 ∧ Cond.privateMethod q.1 ∈ tables_1 ∧ Cond.instanceMethod q.1 ∈ tables_1
theorem lw_p0 : lw_okq (⟨"CafeTables", "failed", "(I)I"⟩, 15) := ⟨⟨by decide +kernel, by decide +kernel⟩, List.mem_of_getElem? (i := 16) (by decide +kernel), List.mem_of_getElem? (i := 269) (by decide +kernel), List.mem_of_getElem? (i := 270) (by decide +kernel)⟩
theorem lw_p1 : lw_okq (⟨"CafeTables", "forget", "()V"⟩, 15) := ⟨⟨by decide +kernel, by decide +kernel⟩, List.mem_of_getElem? (i := 16) (by decide +kernel), List.mem_of_getElem? (i := 294) (by decide +kernel), List.mem_of_getElem? (i := 295) (by decide +kernel)⟩
theorem lw_p2 : lw_okq (⟨"CafeTables", "isNoCafe", "()Z"⟩, 15) := ⟨⟨by decide +kernel, by decide +kernel⟩, List.mem_of_getElem? (i := 16) (by decide +kernel), List.mem_of_getElem? (i := 306) (by decide +kernel), List.mem_of_getElem? (i := 307) (by decide +kernel)⟩
theorem lw_p3 : lw_okq (⟨"CafeTables", "reckonDay", "()V"⟩, 15) := ⟨⟨by decide +kernel, by decide +kernel⟩, List.mem_of_getElem? (i := 16) (by decide +kernel), List.mem_of_getElem? (i := 430) (by decide +kernel), List.mem_of_getElem? (i := 431) (by decide +kernel)⟩
theorem lw_p4 : lw_okq (⟨"CafeTables$Day", "begin", "(I)V"⟩, 11) := ⟨⟨by decide +kernel, by decide +kernel⟩, List.mem_of_getElem? (i := 126) (by decide +kernel), List.mem_of_getElem? (i := 438) (by decide +kernel), List.mem_of_getElem? (i := 439) (by decide +kernel)⟩
theorem lw_p5 : lw_okq (⟨"CafeTables$Day", "list", "(I)V"⟩, 11) := ⟨⟨by decide +kernel, by decide +kernel⟩, List.mem_of_getElem? (i := 126) (by decide +kernel), List.mem_of_getElem? (i := 445) (by decide +kernel), List.mem_of_getElem? (i := 446) (by decide +kernel)⟩
theorem lw_p6 : lw_okq (⟨"CafeTables$Day", "goWhoseTimeIsOver", "(I)V"⟩, 11) := ⟨⟨by decide +kernel, by decide +kernel⟩, List.mem_of_getElem? (i := 126) (by decide +kernel), List.mem_of_getElem? (i := 449) (by decide +kernel), List.mem_of_getElem? (i := 450) (by decide +kernel)⟩
theorem lw_p7 : lw_okq (⟨"CafeTables$Day", "getUp", "(I)V"⟩, 11) := ⟨⟨by decide +kernel, by decide +kernel⟩, List.mem_of_getElem? (i := 126) (by decide +kernel), List.mem_of_getElem? (i := 453) (by decide +kernel), List.mem_of_getElem? (i := 454) (by decide +kernel)⟩
theorem lw_p8 : lw_okq (⟨"CafeTables$Day", "driveIn", "(I)V"⟩, 11) := ⟨⟨by decide +kernel, by decide +kernel⟩, List.mem_of_getElem? (i := 126) (by decide +kernel), List.mem_of_getElem? (i := 457) (by decide +kernel), List.mem_of_getElem? (i := 458) (by decide +kernel)⟩
theorem lw_p9 : lw_okq (⟨"CafeTables$Day", "findPlace", "(I)I"⟩, 11) := ⟨⟨by decide +kernel, by decide +kernel⟩, List.mem_of_getElem? (i := 126) (by decide +kernel), List.mem_of_getElem? (i := 461) (by decide +kernel), List.mem_of_getElem? (i := 462) (by decide +kernel)⟩
theorem lw_p10 : lw_okq (⟨"CafeTables$Day", "oneTable", "(II)I"⟩, 11) := ⟨⟨by decide +kernel, by decide +kernel⟩, List.mem_of_getElem? (i := 126) (by decide +kernel), List.mem_of_getElem? (i := 465) (by decide +kernel), List.mem_of_getElem? (i := 466) (by decide +kernel)⟩
theorem lw_p11 : lw_okq (⟨"CafeTables$Day", "twoTables", "(I)I"⟩, 11) := ⟨⟨by decide +kernel, by decide +kernel⟩, List.mem_of_getElem? (i := 126) (by decide +kernel), List.mem_of_getElem? (i := 469) (by decide +kernel), List.mem_of_getElem? (i := 470) (by decide +kernel)⟩
theorem lw_p12 : lw_okq (⟨"CafeTables$Day", "callWaiting", "(I)V"⟩, 11) := ⟨⟨by decide +kernel, by decide +kernel⟩, List.mem_of_getElem? (i := 126) (by decide +kernel), List.mem_of_getElem? (i := 473) (by decide +kernel), List.mem_of_getElem? (i := 474) (by decide +kernel)⟩
theorem lw_p13 : lw_okq (⟨"CafeTables$Day", "sitDown", "(II)Z"⟩, 11) := ⟨⟨by decide +kernel, by decide +kernel⟩, List.mem_of_getElem? (i := 126) (by decide +kernel), List.mem_of_getElem? (i := 477) (by decide +kernel), List.mem_of_getElem? (i := 478) (by decide +kernel)⟩
theorem lw_p14 : lw_okq (⟨"CafeTables$Day", "letCome", "(I)V"⟩, 11) := ⟨⟨by decide +kernel, by decide +kernel⟩, List.mem_of_getElem? (i := 126) (by decide +kernel), List.mem_of_getElem? (i := 486) (by decide +kernel), List.mem_of_getElem? (i := 487) (by decide +kernel)⟩
theorem lw_p15 : lw_okq (⟨"CafeTables$Day", "nextMinute", "(I)I"⟩, 11) := ⟨⟨by decide +kernel, by decide +kernel⟩, List.mem_of_getElem? (i := 126) (by decide +kernel), List.mem_of_getElem? (i := 494) (by decide +kernel), List.mem_of_getElem? (i := 495) (by decide +kernel)⟩
def lw_privs_1 : List (MethodName × Nat) := [(⟨"CafeTables", "failed", "(I)I"⟩, 15), (⟨"CafeTables", "forget", "()V"⟩, 15), (⟨"CafeTables", "isNoCafe", "()Z"⟩, 15), (⟨"CafeTables", "reckonDay", "()V"⟩, 15), (⟨"CafeTables$Day", "begin", "(I)V"⟩, 11), (⟨"CafeTables$Day", "list", "(I)V"⟩, 11), (⟨"CafeTables$Day", "goWhoseTimeIsOver", "(I)V"⟩, 11), (⟨"CafeTables$Day", "getUp", "(I)V"⟩, 11), (⟨"CafeTables$Day", "driveIn", "(I)V"⟩, 11), (⟨"CafeTables$Day", "findPlace", "(I)I"⟩, 11), (⟨"CafeTables$Day", "oneTable", "(II)I"⟩, 11), (⟨"CafeTables$Day", "twoTables", "(I)I"⟩, 11), (⟨"CafeTables$Day", "callWaiting", "(I)V"⟩, 11), (⟨"CafeTables$Day", "sitDown", "(II)Z"⟩, 11), (⟨"CafeTables$Day", "letCome", "(I)V"⟩, 11), (⟨"CafeTables$Day", "nextMinute", "(I)I"⟩, 11)]
theorem lw_r1 : ∀ q ∈ lw_privs_1, lw_okq q := List.forall_mem_cons.mpr ⟨lw_p0, List.forall_mem_cons.mpr ⟨lw_p1, List.forall_mem_cons.mpr ⟨lw_p2, List.forall_mem_cons.mpr ⟨lw_p3, List.forall_mem_cons.mpr ⟨lw_p4, List.forall_mem_cons.mpr ⟨lw_p5, List.forall_mem_cons.mpr ⟨lw_p6, List.forall_mem_cons.mpr ⟨lw_p7, List.forall_mem_cons.mpr ⟨lw_p8, List.forall_mem_cons.mpr ⟨lw_p9, List.forall_mem_cons.mpr ⟨lw_p10, List.forall_mem_cons.mpr ⟨lw_p11, List.forall_mem_cons.mpr ⟨lw_p12, List.forall_mem_cons.mpr ⟨lw_p13, List.forall_mem_cons.mpr ⟨lw_p14, List.forall_mem_cons.mpr ⟨lw_p15, fun _ h => absurd h List.not_mem_nil⟩⟩⟩⟩⟩⟩⟩⟩⟩⟩⟩⟩⟩⟩⟩⟩
theorem lw_p16 : lw_okq (⟨"CafeTables$Plan", "clashesOf", "(I)I"⟩, 11) := ⟨⟨by decide +kernel, by decide +kernel⟩, List.mem_of_getElem? (i := 171) (by decide +kernel), List.mem_of_getElem? (i := 548) (by decide +kernel), List.mem_of_getElem? (i := 549) (by decide +kernel)⟩
theorem lw_p17 : lw_okq (⟨"CafeTables$Plan", "fitsSomewhere", "(I)Z"⟩, 11) := ⟨⟨by decide +kernel, by decide +kernel⟩, List.mem_of_getElem? (i := 171) (by decide +kernel), List.mem_of_getElem? (i := 552) (by decide +kernel), List.mem_of_getElem? (i := 553) (by decide +kernel)⟩
theorem lw_p18 : lw_okq (⟨"CafeTables$Plan", "place", "(II)V"⟩, 11) := ⟨⟨by decide +kernel, by decide +kernel⟩, List.mem_of_getElem? (i := 171) (by decide +kernel), List.mem_of_getElem? (i := 557) (by decide +kernel), List.mem_of_getElem? (i := 558) (by decide +kernel)⟩
theorem lw_p19 : lw_okq (⟨"CafeTables", "reckonCoins", "()V"⟩, 15) := ⟨⟨by decide +kernel, by decide +kernel⟩, List.mem_of_getElem? (i := 16) (by decide +kernel), List.mem_of_getElem? (i := 573) (by decide +kernel), List.mem_of_getElem? (i := 574) (by decide +kernel)⟩
theorem lw_p20 : lw_okq (⟨"CafeTables", "findMix", "(I)V"⟩, 15) := ⟨⟨by decide +kernel, by decide +kernel⟩, List.mem_of_getElem? (i := 16) (by decide +kernel), List.mem_of_getElem? (i := 581) (by decide +kernel), List.mem_of_getElem? (i := 582) (by decide +kernel)⟩
theorem lw_p21 : lw_okq (⟨"CafeTables", "keepBetterMix", "(IIII)V"⟩, 15) := ⟨⟨by decide +kernel, by decide +kernel⟩, List.mem_of_getElem? (i := 16) (by decide +kernel), List.mem_of_getElem? (i := 589) (by decide +kernel), List.mem_of_getElem? (i := 590) (by decide +kernel)⟩
theorem lw_p22 : lw_okq (⟨"CafeTables", "lostBy", "(I)J"⟩, 15) := ⟨⟨by decide +kernel, by decide +kernel⟩, List.mem_of_getElem? (i := 16) (by decide +kernel), List.mem_of_getElem? (i := 650) (by decide +kernel), List.mem_of_getElem? (i := 651) (by decide +kernel)⟩
theorem lw_p23 : lw_okq (⟨"CafeTablesModel", "against", "(IIII)I"⟩, 44) := ⟨⟨by decide +kernel, by decide +kernel⟩, List.mem_of_getElem? (i := 724) (by decide +kernel), List.mem_of_getElem? (i := 877) (by decide +kernel), List.mem_of_getElem? (i := 878) (by decide +kernel)⟩
theorem lw_p24 : lw_okq (⟨"CafeTablesModel", "fails", "(I)I"⟩, 44) := ⟨⟨by decide +kernel, by decide +kernel⟩, List.mem_of_getElem? (i := 724) (by decide +kernel), List.mem_of_getElem? (i := 881) (by decide +kernel), List.mem_of_getElem? (i := 882) (by decide +kernel)⟩
theorem lw_p25 : lw_okq (⟨"CafeTablesModel", "readCafe", "(I)Z"⟩, 44) := ⟨⟨by decide +kernel, by decide +kernel⟩, List.mem_of_getElem? (i := 724) (by decide +kernel), List.mem_of_getElem? (i := 885) (by decide +kernel), List.mem_of_getElem? (i := 886) (by decide +kernel)⟩
theorem lw_p26 : lw_okq (⟨"CafeTablesModel", "isCode", "(II)Z"⟩, 44) := ⟨⟨by decide +kernel, by decide +kernel⟩, List.mem_of_getElem? (i := 724) (by decide +kernel), List.mem_of_getElem? (i := 889) (by decide +kernel), List.mem_of_getElem? (i := 890) (by decide +kernel)⟩
theorem lw_p27 : lw_okq (⟨"CafeTablesModel", "isCafe", "()Z"⟩, 44) := ⟨⟨by decide +kernel, by decide +kernel⟩, List.mem_of_getElem? (i := 724) (by decide +kernel), List.mem_of_getElem? (i := 901) (by decide +kernel), List.mem_of_getElem? (i := 902) (by decide +kernel)⟩
theorem lw_p28 : lw_okq (⟨"CafeTablesModel", "isGroup", "(I)Z"⟩, 44) := ⟨⟨by decide +kernel, by decide +kernel⟩, List.mem_of_getElem? (i := 724) (by decide +kernel), List.mem_of_getElem? (i := 925) (by decide +kernel), List.mem_of_getElem? (i := 926) (by decide +kernel)⟩
theorem lw_p29 : lw_okq (⟨"CafeTablesModel", "stays", "(I)I"⟩, 44) := ⟨⟨by decide +kernel, by decide +kernel⟩, List.mem_of_getElem? (i := 724) (by decide +kernel), List.mem_of_getElem? (i := 929) (by decide +kernel), List.mem_of_getElem? (i := 930) (by decide +kernel)⟩
theorem lw_p30 : lw_okq (⟨"CafeTablesModel", "coinNow", "()I"⟩, 44) := ⟨⟨by decide +kernel, by decide +kernel⟩, List.mem_of_getElem? (i := 724) (by decide +kernel), List.mem_of_getElem? (i := 937) (by decide +kernel), List.mem_of_getElem? (i := 938) (by decide +kernel)⟩
theorem lw_p31 : lw_okq (⟨"CafeTablesModel", "layNow", "()V"⟩, 44) := ⟨⟨by decide +kernel, by decide +kernel⟩, List.mem_of_getElem? (i := 724) (by decide +kernel), List.mem_of_getElem? (i := 941) (by decide +kernel), List.mem_of_getElem? (i := 942) (by decide +kernel)⟩
def lw_privs_2 : List (MethodName × Nat) := [(⟨"CafeTables$Plan", "clashesOf", "(I)I"⟩, 11), (⟨"CafeTables$Plan", "fitsSomewhere", "(I)Z"⟩, 11), (⟨"CafeTables$Plan", "place", "(II)V"⟩, 11), (⟨"CafeTables", "reckonCoins", "()V"⟩, 15), (⟨"CafeTables", "findMix", "(I)V"⟩, 15), (⟨"CafeTables", "keepBetterMix", "(IIII)V"⟩, 15), (⟨"CafeTables", "lostBy", "(I)J"⟩, 15), (⟨"CafeTablesModel", "against", "(IIII)I"⟩, 44), (⟨"CafeTablesModel", "fails", "(I)I"⟩, 44), (⟨"CafeTablesModel", "readCafe", "(I)Z"⟩, 44), (⟨"CafeTablesModel", "isCode", "(II)Z"⟩, 44), (⟨"CafeTablesModel", "isCafe", "()Z"⟩, 44), (⟨"CafeTablesModel", "isGroup", "(I)Z"⟩, 44), (⟨"CafeTablesModel", "stays", "(I)I"⟩, 44), (⟨"CafeTablesModel", "coinNow", "()I"⟩, 44), (⟨"CafeTablesModel", "layNow", "()V"⟩, 44)]
theorem lw_r2 : ∀ q ∈ lw_privs_2, lw_okq q := List.forall_mem_cons.mpr ⟨lw_p16, List.forall_mem_cons.mpr ⟨lw_p17, List.forall_mem_cons.mpr ⟨lw_p18, List.forall_mem_cons.mpr ⟨lw_p19, List.forall_mem_cons.mpr ⟨lw_p20, List.forall_mem_cons.mpr ⟨lw_p21, List.forall_mem_cons.mpr ⟨lw_p22, List.forall_mem_cons.mpr ⟨lw_p23, List.forall_mem_cons.mpr ⟨lw_p24, List.forall_mem_cons.mpr ⟨lw_p25, List.forall_mem_cons.mpr ⟨lw_p26, List.forall_mem_cons.mpr ⟨lw_p27, List.forall_mem_cons.mpr ⟨lw_p28, List.forall_mem_cons.mpr ⟨lw_p29, List.forall_mem_cons.mpr ⟨lw_p30, List.forall_mem_cons.mpr ⟨lw_p31, fun _ h => absurd h List.not_mem_nil⟩⟩⟩⟩⟩⟩⟩⟩⟩⟩⟩⟩⟩⟩⟩⟩
theorem lw_p32 : lw_okq (⟨"CafeTablesModel", "goDay", "()V"⟩, 44) := ⟨⟨by decide +kernel, by decide +kernel⟩, List.mem_of_getElem? (i := 724) (by decide +kernel), List.mem_of_getElem? (i := 945) (by decide +kernel), List.mem_of_getElem? (i := 946) (by decide +kernel)⟩
theorem lw_p33 : lw_okq (⟨"CafeTablesModel", "goMinute", "(I)V"⟩, 44) := ⟨⟨by decide +kernel, by decide +kernel⟩, List.mem_of_getElem? (i := 724) (by decide +kernel), List.mem_of_getElem? (i := 949) (by decide +kernel), List.mem_of_getElem? (i := 950) (by decide +kernel)⟩
theorem lw_p34 : lw_okq (⟨"CafeTablesModel", "getsUp", "(I)V"⟩, 44) := ⟨⟨by decide +kernel, by decide +kernel⟩, List.mem_of_getElem? (i := 724) (by decide +kernel), List.mem_of_getElem? (i := 953) (by decide +kernel), List.mem_of_getElem? (i := 954) (by decide +kernel)⟩
theorem lw_p35 : lw_okq (⟨"CafeTablesModel", "goes", "(II)V"⟩, 44) := ⟨⟨by decide +kernel, by decide +kernel⟩, List.mem_of_getElem? (i := 724) (by decide +kernel), List.mem_of_getElem? (i := 957) (by decide +kernel), List.mem_of_getElem? (i := 958) (by decide +kernel)⟩
theorem lw_p36 : lw_okq (⟨"CafeTablesModel", "coinOf", "(II)I"⟩, 44) := ⟨⟨by decide +kernel, by decide +kernel⟩, List.mem_of_getElem? (i := 724) (by decide +kernel), List.mem_of_getElem? (i := 961) (by decide +kernel), List.mem_of_getElem? (i := 962) (by decide +kernel)⟩
theorem lw_p37 : lw_okq (⟨"CafeTablesModel", "rainsOn", "(I)V"⟩, 44) := ⟨⟨by decide +kernel, by decide +kernel⟩, List.mem_of_getElem? (i := 724) (by decide +kernel), List.mem_of_getElem? (i := 965) (by decide +kernel), List.mem_of_getElem? (i := 966) (by decide +kernel)⟩
theorem lw_p38 : lw_okq (⟨"CafeTablesModel", "isInSun", "(I)Z"⟩, 44) := ⟨⟨by decide +kernel, by decide +kernel⟩, List.mem_of_getElem? (i := 724) (by decide +kernel), List.mem_of_getElem? (i := 969) (by decide +kernel), List.mem_of_getElem? (i := 970) (by decide +kernel)⟩
theorem lw_p39 : lw_okq (⟨"CafeTablesModel", "takesTable", "(I)Z"⟩, 44) := ⟨⟨by decide +kernel, by decide +kernel⟩, List.mem_of_getElem? (i := 724) (by decide +kernel), List.mem_of_getElem? (i := 973) (by decide +kernel), List.mem_of_getElem? (i := 974) (by decide +kernel)⟩
theorem lw_p40 : lw_okq (⟨"CafeTablesModel", "smallest", "(IZ)I"⟩, 44) := ⟨⟨by decide +kernel, by decide +kernel⟩, List.mem_of_getElem? (i := 724) (by decide +kernel), List.mem_of_getElem? (i := 977) (by decide +kernel), List.mem_of_getElem? (i := 978) (by decide +kernel)⟩
theorem lw_p41 : lw_okq (⟨"CafeTablesModel", "isFree", "(I)Z"⟩, 44) := ⟨⟨by decide +kernel, by decide +kernel⟩, List.mem_of_getElem? (i := 724) (by decide +kernel), List.mem_of_getElem? (i := 981) (by decide +kernel), List.mem_of_getElem? (i := 982) (by decide +kernel)⟩
theorem lw_p42 : lw_okq (⟨"CafeTablesModel", "firstFor", "(I)I"⟩, 44) := ⟨⟨by decide +kernel, by decide +kernel⟩, List.mem_of_getElem? (i := 724) (by decide +kernel), List.mem_of_getElem? (i := 985) (by decide +kernel), List.mem_of_getElem? (i := 986) (by decide +kernel)⟩
theorem lw_p43 : lw_okq (⟨"CafeTablesModel", "joinsTwo", "(I)Z"⟩, 44) := ⟨⟨by decide +kernel, by decide +kernel⟩, List.mem_of_getElem? (i := 724) (by decide +kernel), List.mem_of_getElem? (i := 989) (by decide +kernel), List.mem_of_getElem? (i := 990) (by decide +kernel)⟩
theorem lw_p44 : lw_okq (⟨"CafeTablesModel", "tryWaiting", "(I)V"⟩, 44) := ⟨⟨by decide +kernel, by decide +kernel⟩, List.mem_of_getElem? (i := 724) (by decide +kernel), List.mem_of_getElem? (i := 993) (by decide +kernel), List.mem_of_getElem? (i := 994) (by decide +kernel)⟩
theorem lw_p45 : lw_okq (⟨"CafeTablesModel", "triesAgain", "(II)V"⟩, 44) := ⟨⟨by decide +kernel, by decide +kernel⟩, List.mem_of_getElem? (i := 724) (by decide +kernel), List.mem_of_getElem? (i := 997) (by decide +kernel), List.mem_of_getElem? (i := 998) (by decide +kernel)⟩
theorem lw_p46 : lw_okq (⟨"CafeTablesModel", "sitsDown", "(II)Z"⟩, 44) := ⟨⟨by decide +kernel, by decide +kernel⟩, List.mem_of_getElem? (i := 724) (by decide +kernel), List.mem_of_getElem? (i := 1001) (by decide +kernel), List.mem_of_getElem? (i := 1002) (by decide +kernel)⟩
theorem lw_p47 : lw_okq (⟨"CafeTablesModel", "manyWait", "(I)I"⟩, 44) := ⟨⟨by decide +kernel, by decide +kernel⟩, List.mem_of_getElem? (i := 724) (by decide +kernel), List.mem_of_getElem? (i := 1005) (by decide +kernel), List.mem_of_getElem? (i := 1006) (by decide +kernel)⟩
def lw_privs_3 : List (MethodName × Nat) := [(⟨"CafeTablesModel", "goDay", "()V"⟩, 44), (⟨"CafeTablesModel", "goMinute", "(I)V"⟩, 44), (⟨"CafeTablesModel", "getsUp", "(I)V"⟩, 44), (⟨"CafeTablesModel", "goes", "(II)V"⟩, 44), (⟨"CafeTablesModel", "coinOf", "(II)I"⟩, 44), (⟨"CafeTablesModel", "rainsOn", "(I)V"⟩, 44), (⟨"CafeTablesModel", "isInSun", "(I)Z"⟩, 44), (⟨"CafeTablesModel", "takesTable", "(I)Z"⟩, 44), (⟨"CafeTablesModel", "smallest", "(IZ)I"⟩, 44), (⟨"CafeTablesModel", "isFree", "(I)Z"⟩, 44), (⟨"CafeTablesModel", "firstFor", "(I)I"⟩, 44), (⟨"CafeTablesModel", "joinsTwo", "(I)Z"⟩, 44), (⟨"CafeTablesModel", "tryWaiting", "(I)V"⟩, 44), (⟨"CafeTablesModel", "triesAgain", "(II)V"⟩, 44), (⟨"CafeTablesModel", "sitsDown", "(II)Z"⟩, 44), (⟨"CafeTablesModel", "manyWait", "(I)I"⟩, 44)]
theorem lw_r3 : ∀ q ∈ lw_privs_3, lw_okq q := List.forall_mem_cons.mpr ⟨lw_p32, List.forall_mem_cons.mpr ⟨lw_p33, List.forall_mem_cons.mpr ⟨lw_p34, List.forall_mem_cons.mpr ⟨lw_p35, List.forall_mem_cons.mpr ⟨lw_p36, List.forall_mem_cons.mpr ⟨lw_p37, List.forall_mem_cons.mpr ⟨lw_p38, List.forall_mem_cons.mpr ⟨lw_p39, List.forall_mem_cons.mpr ⟨lw_p40, List.forall_mem_cons.mpr ⟨lw_p41, List.forall_mem_cons.mpr ⟨lw_p42, List.forall_mem_cons.mpr ⟨lw_p43, List.forall_mem_cons.mpr ⟨lw_p44, List.forall_mem_cons.mpr ⟨lw_p45, List.forall_mem_cons.mpr ⟨lw_p46, List.forall_mem_cons.mpr ⟨lw_p47, fun _ h => absurd h List.not_mem_nil⟩⟩⟩⟩⟩⟩⟩⟩⟩⟩⟩⟩⟩⟩⟩⟩
theorem lw_p48 : lw_okq (⟨"CafeTablesModel", "comesIn", "(II)V"⟩, 44) := ⟨⟨by decide +kernel, by decide +kernel⟩, List.mem_of_getElem? (i := 724) (by decide +kernel), List.mem_of_getElem? (i := 1009) (by decide +kernel), List.mem_of_getElem? (i := 1010) (by decide +kernel)⟩
theorem lw_p49 : lw_okq (⟨"CafeTablesModel", "manyTaken", "()I"⟩, 44) := ⟨⟨by decide +kernel, by decide +kernel⟩, List.mem_of_getElem? (i := 724) (by decide +kernel), List.mem_of_getElem? (i := 1013) (by decide +kernel), List.mem_of_getElem? (i := 1014) (by decide +kernel)⟩
theorem lw_p50 : lw_okq (⟨"CafeTablesModel", "allCoin", "()I"⟩, 44) := ⟨⟨by decide +kernel, by decide +kernel⟩, List.mem_of_getElem? (i := 724) (by decide +kernel), List.mem_of_getElem? (i := 1017) (by decide +kernel), List.mem_of_getElem? (i := 1018) (by decide +kernel)⟩
theorem lw_p51 : lw_okq (⟨"CafeTablesModel", "planned", "()I"⟩, 44) := ⟨⟨by decide +kernel, by decide +kernel⟩, List.mem_of_getElem? (i := 724) (by decide +kernel), List.mem_of_getElem? (i := 1038) (by decide +kernel), List.mem_of_getElem? (i := 1039) (by decide +kernel)⟩
theorem lw_p52 : lw_okq (⟨"CafeTablesModel", "findPlan", "()V"⟩, 44) := ⟨⟨by decide +kernel, by decide +kernel⟩, List.mem_of_getElem? (i := 724) (by decide +kernel), List.mem_of_getElem? (i := 1042) (by decide +kernel), List.mem_of_getElem? (i := 1043) (by decide +kernel)⟩
theorem lw_p53 : lw_okq (⟨"CafeTablesModel", "maySit", "(II)Z"⟩, 44) := ⟨⟨by decide +kernel, by decide +kernel⟩, List.mem_of_getElem? (i := 724) (by decide +kernel), List.mem_of_getElem? (i := 1046) (by decide +kernel), List.mem_of_getElem? (i := 1047) (by decide +kernel)⟩
theorem lw_p54 : lw_okq (⟨"CafeTablesModel", "offer", "(I)V"⟩, 44) := ⟨⟨by decide +kernel, by decide +kernel⟩, List.mem_of_getElem? (i := 724) (by decide +kernel), List.mem_of_getElem? (i := 1050) (by decide +kernel), List.mem_of_getElem? (i := 1051) (by decide +kernel)⟩
theorem lw_p55 : lw_okq (⟨"CafeTablesModel", "coinBy", "(II)I"⟩, 44) := ⟨⟨by decide +kernel, by decide +kernel⟩, List.mem_of_getElem? (i := 724) (by decide +kernel), List.mem_of_getElem? (i := 1058) (by decide +kernel), List.mem_of_getElem? (i := 1059) (by decide +kernel)⟩
theorem lw_p56 : lw_okq (⟨"CafeTablesModel", "layMix", "(III)V"⟩, 44) := ⟨⟨by decide +kernel, by decide +kernel⟩, List.mem_of_getElem? (i := 724) (by decide +kernel), List.mem_of_getElem? (i := 1070) (by decide +kernel), List.mem_of_getElem? (i := 1071) (by decide +kernel)⟩
theorem lw_p57 : lw_okq (⟨"CafeTablesModel", "lost", "(I)J"⟩, 44) := ⟨⟨by decide +kernel, by decide +kernel⟩, List.mem_of_getElem? (i := 724) (by decide +kernel), List.mem_of_getElem? (i := 1115) (by decide +kernel), List.mem_of_getElem? (i := 1116) (by decide +kernel)⟩
theorem lw_p58 : lw_okq (⟨"CafeTablesModel", "begins", "(I)V"⟩, 44) := ⟨⟨by decide +kernel, by decide +kernel⟩, List.mem_of_getElem? (i := 724) (by decide +kernel), List.mem_of_getElem? (i := 1127) (by decide +kernel), List.mem_of_getElem? (i := 1128) (by decide +kernel)⟩
def lw_privs_4 : List (MethodName × Nat) := [(⟨"CafeTablesModel", "comesIn", "(II)V"⟩, 44), (⟨"CafeTablesModel", "manyTaken", "()I"⟩, 44), (⟨"CafeTablesModel", "allCoin", "()I"⟩, 44), (⟨"CafeTablesModel", "planned", "()I"⟩, 44), (⟨"CafeTablesModel", "findPlan", "()V"⟩, 44), (⟨"CafeTablesModel", "maySit", "(II)Z"⟩, 44), (⟨"CafeTablesModel", "offer", "(I)V"⟩, 44), (⟨"CafeTablesModel", "coinBy", "(II)I"⟩, 44), (⟨"CafeTablesModel", "layMix", "(III)V"⟩, 44), (⟨"CafeTablesModel", "lost", "(I)J"⟩, 44), (⟨"CafeTablesModel", "begins", "(I)V"⟩, 44)]
theorem lw_r4 : ∀ q ∈ lw_privs_4, lw_okq q := List.forall_mem_cons.mpr ⟨lw_p48, List.forall_mem_cons.mpr ⟨lw_p49, List.forall_mem_cons.mpr ⟨lw_p50, List.forall_mem_cons.mpr ⟨lw_p51, List.forall_mem_cons.mpr ⟨lw_p52, List.forall_mem_cons.mpr ⟨lw_p53, List.forall_mem_cons.mpr ⟨lw_p54, List.forall_mem_cons.mpr ⟨lw_p55, List.forall_mem_cons.mpr ⟨lw_p56, List.forall_mem_cons.mpr ⟨lw_p57, List.forall_mem_cons.mpr ⟨lw_p58, fun _ h => absurd h List.not_mem_nil⟩⟩⟩⟩⟩⟩⟩⟩⟩⟩⟩
def lw_privs : List (MethodName × Nat) := lw_privs_1 ++ (lw_privs_2 ++ (lw_privs_3 ++ (lw_privs_4)))
def lw_tbl : List Cond := k2_sels lw_privs ++ tables_1
theorem lw_privs_ok : ∀ q ∈ lw_privs, lw_okq q := by
  show ∀ q ∈ lw_privs_1 ++ (lw_privs_2 ++ (lw_privs_3 ++ (lw_privs_4))), lw_okq q
  exact List.forall_mem_append.mpr ⟨lw_r1, List.forall_mem_append.mpr ⟨lw_r2, List.forall_mem_append.mpr ⟨lw_r3, lw_r4⟩⟩⟩
end
section
def RX0 : String := "CafeTables$Day"
def TX0 : u_T := fun k => match k with
  | 0 => ("CafeTables$Day", "how", "[I", true)
  | 1 => ("CafeTables$Day", "first", "[I", true)
  | 2 => ("CafeTables$Day", "from", "[I", true)
  | 3 => ("CafeTables$Day", "until", "[I", true)
  | 4 => ("CafeTables$Day", "waited", "[I", true)
  | 5 => ("CafeTables$Day", "order", "[I", true)
  | 6 => ("CafeTables$Day", "holder", "[I", true)
  | 7 => ("CafeTables$Day", "groups", "LCafeTables$Groups;", true)
  | 8 => ("CafeTables$Day", "guests", "[LCafeTables$Guest;", true)
  | 9 => ("CafeTables$Day", "house", "LCafeTables$House;", false)
  | _ => ("CafeTables$Day", "listed", "I", false)
def tyX0 : Nat → FieldType := fun k => match k with
  | 0 => .array .int
  | 1 => .array .int
  | 2 => .array .int
  | 3 => .array .int
  | 4 => .array .int
  | 5 => .array .int
  | 6 => .array .int
  | 7 => .object "CafeTables$Groups"
  | 8 => .array (.object "CafeTables$Guest")
  | 9 => .object "CafeTables$House"
  | _ => .int
abbrev wsX00 : List Cond := u_ws RX0 TX0 11
theorem nmX0 : ∀ a, a < 11 → ∀ b, b < 11 → a ≠ b → (TX0 a).2.1 ≠ (TX0 b).2.1 := by decide +kernel
theorem tyX0_ok : ∀ k, k < 11 → parseFieldDescriptor (TX0 k).2.2.1 = some (tyX0 k) := by decide +kernel
abbrev cX0_init : ByteArray := prog_2_method_1_code
def yX0_init : MethodName := ⟨RX0, "<init>", "(LCafeTables$House;LCafeTables$Groups;)V"⟩
abbrev cX0_run : ByteArray := prog_2_method_2_code
def yX0_run : MethodName := ⟨RX0, "run", "(LCafeTables$House;II)I"⟩
abbrev cX0_coinInAll : ByteArray := prog_2_method_3_code
def yX0_coinInAll : MethodName := ⟨RX0, "coinInAll", "()I"⟩
abbrev cX0_coinOf : ByteArray := prog_2_method_4_code
def yX0_coinOf : MethodName := ⟨RX0, "coinOf", "(I)I"⟩
abbrev cX0_tablesTaken : ByteArray := prog_2_method_5_code
def yX0_tablesTaken : MethodName := ⟨RX0, "tablesTaken", "()I"⟩
abbrev cX0_othersWaiting : ByteArray := prog_2_method_6_code
def yX0_othersWaiting : MethodName := ⟨RX0, "othersWaiting", "(I)I"⟩
abbrev cX0_begin : ByteArray := prog_2_method_7_code
def yX0_begin : MethodName := ⟨RX0, "begin", "(I)V"⟩
abbrev cX0_list : ByteArray := prog_2_method_8_code
def yX0_list : MethodName := ⟨RX0, "list", "(I)V"⟩
abbrev cX0_nextMinute : ByteArray := prog_2_method_9_code
def yX0_nextMinute : MethodName := ⟨RX0, "nextMinute", "(I)I"⟩
abbrev cX0_goWhoseTimeIsOver : ByteArray := prog_2_method_10_code
def yX0_goWhoseTimeIsOver : MethodName := ⟨RX0, "goWhoseTimeIsOver", "(I)V"⟩
abbrev cX0_getUp : ByteArray := prog_2_method_11_code
def yX0_getUp : MethodName := ⟨RX0, "getUp", "(I)V"⟩
abbrev cX0_driveIn : ByteArray := prog_2_method_12_code
def yX0_driveIn : MethodName := ⟨RX0, "driveIn", "(I)V"⟩
abbrev cX0_callWaiting : ByteArray := prog_2_method_13_code
def yX0_callWaiting : MethodName := ⟨RX0, "callWaiting", "(I)V"⟩
abbrev cX0_letCome : ByteArray := prog_2_method_14_code
def yX0_letCome : MethodName := ⟨RX0, "letCome", "(I)V"⟩
abbrev cX0_sitDown : ByteArray := prog_2_method_15_code
def yX0_sitDown : MethodName := ⟨RX0, "sitDown", "(II)Z"⟩
abbrev cX0_findPlace : ByteArray := prog_2_method_16_code
def yX0_findPlace : MethodName := ⟨RX0, "findPlace", "(I)I"⟩
abbrev cX0_oneTable : ByteArray := prog_2_method_17_code
def yX0_oneTable : MethodName := ⟨RX0, "oneTable", "(II)I"⟩
abbrev cX0_twoTables : ByteArray := prog_2_method_18_code
def yX0_twoTables : MethodName := ⟨RX0, "twoTables", "(I)I"⟩
def RX1 : String := "CafeTables$Groups"
def TX1 : u_T := fun k => match k with
  | 0 => ("CafeTables$Groups", "row", "[LCafeTables$Guest;", true)
  | _ => ("CafeTables$Groups", "count", "I", false)
def tyX1 : Nat → FieldType := fun k => match k with
  | 0 => .array (.object "CafeTables$Guest")
  | _ => .int
abbrev wsX10 : List Cond := u_ws RX1 TX1 2
theorem nmX1 : ∀ a, a < 2 → ∀ b, b < 2 → a ≠ b → (TX1 a).2.1 ≠ (TX1 b).2.1 := by decide +kernel
theorem tyX1_ok : ∀ k, k < 2 → parseFieldDescriptor (TX1 k).2.2.1 = some (tyX1 k) := by decide +kernel
abbrev cX1_init : ByteArray := prog_3_method_1_code
def yX1_init : MethodName := ⟨RX1, "<init>", "()V"⟩
abbrev cX1_numbered : ByteArray := prog_3_method_2_code
def yX1_numbered : MethodName := ⟨RX1, "numbered", "(I)LCafeTables$Guest;"⟩
def RX2 : String := "CafeTables$Guest"
def TX2 : u_T := fun k => match k with
  | 0 => ("CafeTables$Guest", "number", "I", true)
  | 1 => ("CafeTables$Guest", "size", "I", true)
  | 2 => ("CafeTables$Guest", "comes", "I", true)
  | 3 => ("CafeTables$Guest", "stay", "I", true)
  | 4 => ("CafeTables$Guest", "wants", "I", true)
  | _ => ("CafeTables$Guest", "lure", "I", true)
def tyX2 : Nat → FieldType := fun k => match k with
  | 0 => .int
  | 1 => .int
  | 2 => .int
  | 3 => .int
  | 4 => .int
  | _ => .int
abbrev wsX20 : List Cond := u_ws RX2 TX2 6
theorem nmX2 : ∀ a, a < 6 → ∀ b, b < 6 → a ≠ b → (TX2 a).2.1 ≠ (TX2 b).2.1 := by decide +kernel
theorem tyX2_ok : ∀ k, k < 6 → parseFieldDescriptor (TX2 k).2.2.1 = some (tyX2 k) := by decide +kernel
abbrev cX2_init : ByteArray := prog_4_method_1_code
def yX2_init : MethodName := ⟨RX2, "<init>", "(IIIIII)V"⟩
abbrev cX2_kindNumber : ByteArray := prog_4_method_2_code
def yX2_kindNumber : MethodName := ⟨RX2, "kindNumber", "()I"⟩
abbrev cX2_staysFor : ByteArray := prog_4_method_3_code
def yX2_staysFor : MethodName := ⟨RX2, "staysFor", "(Z)I"⟩
abbrev cX2_coinFor : ByteArray := prog_4_method_4_code
def yX2_coinFor : MethodName := ⟨RX2, "coinFor", "(I)I"⟩
abbrev cX2_guestBody : ByteArray := prog_4_method_5_code
def yX2_guestBody : MethodName := ⟨RX2, "guestBody", "(LCafeTables$Trace;)I"⟩
abbrev cX2_telling : ByteArray := prog_4_method_6_code
def yX2_telling : MethodName := ⟨RX2, "telling", "(LCafeTables$Trace;)I"⟩
abbrev cX2_served : ByteArray := prog_4_method_7_code
def yX2_served : MethodName := ⟨RX2, "served", "(LCafeTables$Trace;)I"⟩
def RX3 : String := "CafeTables$House"
def TX3 : u_T := fun k => match k with
  | 0 => ("CafeTables$House", "where", "[I", true)
  | 1 => ("CafeTables$House", "seats", "[I", true)
  | 2 => ("CafeTables$House", "tables", "I", false)
  | 3 => ("CafeTables$House", "rule", "I", false)
  | 4 => ("CafeTables$House", "patience", "I", false)
  | 5 => ("CafeTables$House", "rainAt", "I", false)
  | _ => ("CafeTables$House", "joins", "Z", false)
def tyX3 : Nat → FieldType := fun k => match k with
  | 0 => .array .int
  | 1 => .array .int
  | 2 => .int
  | 3 => .int
  | 4 => .int
  | 5 => .int
  | _ => .boolean
abbrev wsX30 : List Cond := u_ws RX3 TX3 7
theorem nmX3 : ∀ a, a < 7 → ∀ b, b < 7 → a ≠ b → (TX3 a).2.1 ≠ (TX3 b).2.1 := by decide +kernel
theorem tyX3_ok : ∀ k, k < 7 → parseFieldDescriptor (TX3 k).2.2.1 = some (tyX3 k) := by decide +kernel
abbrev cX3_init : ByteArray := prog_5_method_1_code
def yX3_init : MethodName := ⟨RX3, "<init>", "()V"⟩
abbrev cX3_takeText : ByteArray := prog_5_method_2_code
def yX3_takeText : MethodName := ⟨RX3, "takeText", "(LCafeTables$Sheet;II)V"⟩
abbrev cX3_copyOf : ByteArray := prog_5_method_3_code
def yX3_copyOf : MethodName := ⟨RX3, "copyOf", "(LCafeTables$House;)V"⟩
abbrev cX3_mixTables : ByteArray := prog_5_method_4_code
def yX3_mixTables : MethodName := ⟨RX3, "mixTables", "(III)V"⟩
abbrev cX3_seatsInAll : ByteArray := prog_5_method_5_code
def yX3_seatsInAll : MethodName := ⟨RX3, "seatsInAll", "()I"⟩
def RX4 : String := "CafeTables$Looked"
def TX4 : u_T := fun k => match k with
  | 0 => ("CafeTables$Guest", "number", "I", true)
  | 1 => ("CafeTables$Guest", "size", "I", true)
  | 2 => ("CafeTables$Guest", "comes", "I", true)
  | 3 => ("CafeTables$Guest", "stay", "I", true)
  | 4 => ("CafeTables$Guest", "wants", "I", true)
  | _ => ("CafeTables$Guest", "lure", "I", true)
def tyX4 : Nat → FieldType := fun k => match k with
  | 0 => .int
  | 1 => .int
  | 2 => .int
  | 3 => .int
  | 4 => .int
  | _ => .int
abbrev wsX40 : List Cond := u_ws RX4 TX4 6
theorem nmX4 : ∀ a, a < 6 → ∀ b, b < 6 → a ≠ b → (TX4 a).2.1 ≠ (TX4 b).2.1 := by decide +kernel
theorem tyX4_ok : ∀ k, k < 6 → parseFieldDescriptor (TX4 k).2.2.1 = some (tyX4 k) := by decide +kernel
abbrev cX4_init : ByteArray := prog_6_method_1_code
def yX4_init : MethodName := ⟨RX4, "<init>", "(IIIIII)V"⟩
abbrev cX4_kindNumber : ByteArray := prog_6_method_2_code
def yX4_kindNumber : MethodName := ⟨RX4, "kindNumber", "()I"⟩
abbrev cX4_staysFor : ByteArray := prog_6_method_3_code
def yX4_staysFor : MethodName := ⟨RX4, "staysFor", "(Z)I"⟩
abbrev cX4_telling : ByteArray := prog_6_method_4_code
def yX4_telling : MethodName := ⟨RX4, "telling", "(LCafeTables$Trace;)I"⟩
abbrev cX4_served : ByteArray := prog_6_method_5_code
def yX4_served : MethodName := ⟨RX4, "served", "(LCafeTables$Trace;)I"⟩
def RX5 : String := "CafeTables$Plan"
def TX5 : u_T := fun k => match k with
  | 0 => ("CafeTables$Plan", "bestAt", "[I", true)
  | 1 => ("CafeTables$Plan", "most", "I", false)
  | 2 => ("CafeTables$Plan", "at", "[I", true)
  | 3 => ("CafeTables$Plan", "size", "[I", true)
  | 4 => ("CafeTables$Plan", "coins", "[I", true)
  | 5 => ("CafeTables$Plan", "clashes", "[I", true)
  | 6 => ("CafeTables$Plan", "hoped", "[I", true)
  | 7 => ("CafeTables$Plan", "given", "[I", true)
  | 8 => ("CafeTables$Plan", "house", "LCafeTables$House;", true)
  | 9 => ("CafeTables$Plan", "groups", "LCafeTables$Groups;", true)
  | _ => ("CafeTables$Plan", "planned", "I", false)
def tyX5 : Nat → FieldType := fun k => match k with
  | 0 => .array .int
  | 1 => .int
  | 2 => .array .int
  | 3 => .array .int
  | 4 => .array .int
  | 5 => .array .int
  | 6 => .array .int
  | 7 => .array .int
  | 8 => .object "CafeTables$House"
  | 9 => .object "CafeTables$Groups"
  | _ => .int
abbrev wsX50 : List Cond := u_ws RX5 TX5 11
theorem nmX5 : ∀ a, a < 11 → ∀ b, b < 11 → a ≠ b → (TX5 a).2.1 ≠ (TX5 b).2.1 := by decide +kernel
theorem tyX5_ok : ∀ k, k < 11 → parseFieldDescriptor (TX5 k).2.2.1 = some (tyX5 k) := by decide +kernel
abbrev cX5_init : ByteArray := prog_7_method_1_code
def yX5_init : MethodName := ⟨RX5, "<init>", "(LCafeTables$House;LCafeTables$Groups;)V"⟩
abbrev cX5_find : ByteArray := prog_7_method_2_code
def yX5_find : MethodName := ⟨RX5, "find", "()V"⟩
abbrev cX5_clashesOf : ByteArray := prog_7_method_3_code
def yX5_clashesOf : MethodName := ⟨RX5, "clashesOf", "(I)I"⟩
abbrev cX5_fitsSomewhere : ByteArray := prog_7_method_4_code
def yX5_fitsSomewhere : MethodName := ⟨RX5, "fitsSomewhere", "(I)Z"⟩
abbrev cX5_place : ByteArray := prog_7_method_5_code
def yX5_place : MethodName := ⟨RX5, "place", "(II)V"⟩
def RX6 : String := "CafeTables$Sheet"
def TX6 : u_T := fun k => match k with
  | 0 => ("CafeTables$Sheet", "cells", "[I", true)
  | 1 => ("CafeTables$Sheet", "has", "Z", false)
  | 2 => ("CafeTables$Sheet", "sort", "I", false)
  | _ => ("CafeTables$Sheet", "length", "I", false)
def tyX6 : Nat → FieldType := fun k => match k with
  | 0 => .array .int
  | 1 => .boolean
  | 2 => .int
  | _ => .int
abbrev wsX60 : List Cond := u_ws RX6 TX6 4
theorem nmX6 : ∀ a, a < 4 → ∀ b, b < 4 → a ≠ b → (TX6 a).2.1 ≠ (TX6 b).2.1 := by decide +kernel
theorem tyX6_ok : ∀ k, k < 4 → parseFieldDescriptor (TX6 k).2.2.1 = some (tyX6 k) := by decide +kernel
abbrev cX6_init : ByteArray := prog_8_method_1_code
def yX6_init : MethodName := ⟨RX6, "<init>", "()V"⟩
abbrev cX6_renew : ByteArray := prog_8_method_2_code
def yX6_renew : MethodName := ⟨RX6, "renew", "(II)V"⟩
abbrev cX6_cut : ByteArray := prog_8_method_3_code
def yX6_cut : MethodName := ⟨RX6, "cut", "(I)I"⟩
abbrev cX6_reaches : ByteArray := prog_8_method_4_code
def yX6_reaches : MethodName := ⟨RX6, "reaches", "(II)Z"⟩
def RX7 : String := "CafeTables$Staying"
def TX7 : u_T := fun k => match k with
  | 0 => ("CafeTables$Guest", "number", "I", true)
  | 1 => ("CafeTables$Guest", "size", "I", true)
  | 2 => ("CafeTables$Guest", "comes", "I", true)
  | 3 => ("CafeTables$Guest", "stay", "I", true)
  | 4 => ("CafeTables$Guest", "wants", "I", true)
  | _ => ("CafeTables$Guest", "lure", "I", true)
def tyX7 : Nat → FieldType := fun k => match k with
  | 0 => .int
  | 1 => .int
  | 2 => .int
  | 3 => .int
  | 4 => .int
  | _ => .int
abbrev wsX70 : List Cond := u_ws RX7 TX7 6
theorem nmX7 : ∀ a, a < 6 → ∀ b, b < 6 → a ≠ b → (TX7 a).2.1 ≠ (TX7 b).2.1 := by decide +kernel
theorem tyX7_ok : ∀ k, k < 6 → parseFieldDescriptor (TX7 k).2.2.1 = some (tyX7 k) := by decide +kernel
abbrev cX7_init : ByteArray := prog_9_method_1_code
def yX7_init : MethodName := ⟨RX7, "<init>", "(IIIIII)V"⟩
abbrev cX7_kindNumber : ByteArray := prog_9_method_2_code
def yX7_kindNumber : MethodName := ⟨RX7, "kindNumber", "()I"⟩
abbrev cX7_staysFor : ByteArray := prog_9_method_3_code
def yX7_staysFor : MethodName := ⟨RX7, "staysFor", "(Z)I"⟩
abbrev cX7_coinFor : ByteArray := prog_9_method_4_code
def yX7_coinFor : MethodName := ⟨RX7, "coinFor", "(I)I"⟩
abbrev cX7_telling : ByteArray := prog_9_method_5_code
def yX7_telling : MethodName := ⟨RX7, "telling", "(LCafeTables$Trace;)I"⟩
def RX8 : String := "CafeTables$Trace"
def TX8 : u_T := fun k => match k with
  | _ => ("CafeTables$Trace", "value", "I", false)
def tyX8 : Nat → FieldType := fun k => match k with
  | _ => .int
abbrev wsX80 : List Cond := u_ws RX8 TX8 1
theorem nmX8 : ∀ a, a < 1 → ∀ b, b < 1 → a ≠ b → (TX8 a).2.1 ≠ (TX8 b).2.1 := by decide +kernel
theorem tyX8_ok : ∀ k, k < 1 → parseFieldDescriptor (TX8 k).2.2.1 = some (tyX8 k) := by decide +kernel
abbrev cX8_init : ByteArray := prog_10_method_1_code
def yX8_init : MethodName := ⟨RX8, "<init>", "()V"⟩
abbrev cX8_mark : ByteArray := prog_10_method_2_code
def yX8_mark : MethodName := ⟨RX8, "mark", "(I)V"⟩
def RX9 : String := "CafeTables"
def TX9 : u_T := fun k => match k with
  | 0 => ("CafeTables", "house", "LCafeTables$House;", true)
  | 1 => ("CafeTables", "groups", "LCafeTables$Groups;", true)
  | 2 => ("CafeTables", "sheets", "[LCafeTables$Sheet;", true)
  | 3 => ("CafeTables", "marks", "LCafeTables$Trace;", true)
  | 4 => ("CafeTables", "otherHouse", "LCafeTables$House;", true)
  | 5 => ("CafeTables", "present", "LCafeTables$Day;", true)
  | 6 => ("CafeTables", "trial", "LCafeTables$Day;", true)
  | 7 => ("CafeTables", "bestPlan", "LCafeTables$Plan;", true)
  | 8 => ("CafeTables", "coinByPatience", "[I", true)
  | 9 => ("CafeTables", "mixRow", "[I", true)
  | 10 => ("CafeTables", "latestFault", "I", false)
  | 11 => ("CafeTables", "dayStands", "Z", false)
  | 12 => ("CafeTables", "planStands", "Z", false)
  | 13 => ("CafeTables", "coinsStand", "Z", false)
  | _ => ("CafeTables", "mixSeats", "I", false)
def tyX9 : Nat → FieldType := fun k => match k with
  | 0 => .object "CafeTables$House"
  | 1 => .object "CafeTables$Groups"
  | 2 => .array (.object "CafeTables$Sheet")
  | 3 => .object "CafeTables$Trace"
  | 4 => .object "CafeTables$House"
  | 5 => .object "CafeTables$Day"
  | 6 => .object "CafeTables$Day"
  | 7 => .object "CafeTables$Plan"
  | 8 => .array .int
  | 9 => .array .int
  | 10 => .int
  | 11 => .boolean
  | 12 => .boolean
  | 13 => .boolean
  | _ => .int
abbrev wsX90 : List Cond := u_ws RX9 TX9 15
theorem nmX9 : ∀ a, a < 15 → ∀ b, b < 15 → a ≠ b → (TX9 a).2.1 ≠ (TX9 b).2.1 := by decide +kernel
theorem tyX9_ok : ∀ k, k < 15 → parseFieldDescriptor (TX9 k).2.2.1 = some (tyX9 k) := by decide +kernel
abbrev cX9_init : ByteArray := prog_1_method_1_code
def yX9_init : MethodName := ⟨RX9, "<init>", "()V"⟩
abbrev cX9_cafe : ByteArray := prog_1_method_2_code
def yX9_cafe : MethodName := ⟨RX9, "cafe", "(IIII)I"⟩
abbrev cX9_ofTable : ByteArray := prog_1_method_3_code
def yX9_ofTable : MethodName := ⟨RX9, "ofTable", "(II)I"⟩
abbrev cX9_rule : ByteArray := prog_1_method_4_code
def yX9_rule : MethodName := ⟨RX9, "rule", "(I)I"⟩
abbrev cX9_patience : ByteArray := prog_1_method_5_code
def yX9_patience : MethodName := ⟨RX9, "patience", "(I)I"⟩
abbrev cX9_joining : ByteArray := prog_1_method_6_code
def yX9_joining : MethodName := ⟨RX9, "joining", "(Z)I"⟩
abbrev cX9_rain : ByteArray := prog_1_method_7_code
def yX9_rain : MethodName := ⟨RX9, "rain", "(I)I"⟩
abbrev cX9_group : ByteArray := prog_1_method_8_code
def yX9_group : MethodName := ⟨RX9, "group", "(IIIIII)I"⟩
abbrev cX9_ofGroup : ByteArray := prog_1_method_9_code
def yX9_ofGroup : MethodName := ⟨RX9, "ofGroup", "(II)I"⟩
abbrev cX9_day : ByteArray := prog_1_method_10_code
def yX9_day : MethodName := ⟨RX9, "day", "(II)I"⟩
abbrev cX9_taken : ByteArray := prog_1_method_11_code
def yX9_taken : MethodName := ⟨RX9, "taken", "(II)I"⟩
abbrev cX9_coin : ByteArray := prog_1_method_12_code
def yX9_coin : MethodName := ⟨RX9, "coin", "()I"⟩
abbrev cX9_worth : ByteArray := prog_1_method_13_code
def yX9_worth : MethodName := ⟨RX9, "worth", "(I)J"⟩
abbrev cX9_plan : ByteArray := prog_1_method_14_code
def yX9_plan : MethodName := ⟨RX9, "plan", "(I)I"⟩
abbrev cX9_bestRule : ByteArray := prog_1_method_15_code
def yX9_bestRule : MethodName := ⟨RX9, "bestRule", "(I)I"⟩
abbrev cX9_waiting : ByteArray := prog_1_method_16_code
def yX9_waiting : MethodName := ⟨RX9, "waiting", "(I)I"⟩
abbrev cX9_mix : ByteArray := prog_1_method_17_code
def yX9_mix : MethodName := ⟨RX9, "mix", "(II)I"⟩
abbrev cX9_till : ByteArray := prog_1_method_18_code
def yX9_till : MethodName := ⟨RX9, "till", "(II)I"⟩
abbrev cX9_names : ByteArray := prog_1_method_19_code
def yX9_names : MethodName := ⟨RX9, "names", "(IIIIII)J"⟩
abbrev cX9_take : ByteArray := prog_1_method_20_code
def yX9_take : MethodName := ⟨RX9, "take", "(IIII)I"⟩
abbrev cX9_sheet : ByteArray := prog_1_method_21_code
def yX9_sheet : MethodName := ⟨RX9, "sheet", "(III)I"⟩
abbrev cX9_lose : ByteArray := prog_1_method_22_code
def yX9_lose : MethodName := ⟨RX9, "lose", "(I)I"⟩
abbrev cX9_put : ByteArray := prog_1_method_23_code
def yX9_put : MethodName := ⟨RX9, "put", "(III)I"⟩
abbrev cX9_cell : ByteArray := prog_1_method_24_code
def yX9_cell : MethodName := ⟨RX9, "cell", "(III)J"⟩
abbrev cX9_copy : ByteArray := prog_1_method_25_code
def yX9_copy : MethodName := ⟨RX9, "copy", "(IIIII)I"⟩
abbrev cX9_tell : ByteArray := prog_1_method_26_code
def yX9_tell : MethodName := ⟨RX9, "tell", "(I)I"⟩
abbrev cX9_serve : ByteArray := prog_1_method_27_code
def yX9_serve : MethodName := ⟨RX9, "serve", "(I)I"⟩
abbrev cX9_as : ByteArray := prog_1_method_28_code
def yX9_as : MethodName := ⟨RX9, "as", "(II)I"⟩
abbrev cX9_trace : ByteArray := prog_1_method_29_code
def yX9_trace : MethodName := ⟨RX9, "trace", "()I"⟩
abbrev cX9_fault : ByteArray := prog_1_method_30_code
def yX9_fault : MethodName := ⟨RX9, "fault", "()I"⟩
abbrev cX9_many : ByteArray := prog_1_method_31_code
def yX9_many : MethodName := ⟨RX9, "many", "(I)I"⟩
abbrev cX9_isNoCafe : ByteArray := prog_1_method_32_code
def yX9_isNoCafe : MethodName := ⟨RX9, "isNoCafe", "()Z"⟩
abbrev cX9_isNoSheet : ByteArray := prog_1_method_33_code
def yX9_isNoSheet : MethodName := ⟨RX9, "isNoSheet", "(I)Z"⟩
abbrev cX9_isNoSort : ByteArray := prog_1_method_34_code
def yX9_isNoSort : MethodName := ⟨RX9, "isNoSort", "(I)Z"⟩
abbrev cX9_isNoKind : ByteArray := prog_1_method_35_code
def yX9_isNoKind : MethodName := ⟨RX9, "isNoKind", "(I)Z"⟩
abbrev cX9_isNoTaking : ByteArray := prog_1_method_36_code
def yX9_isNoTaking : MethodName := ⟨RX9, "isNoTaking", "(IIII)Z"⟩
abbrev cX9_failed : ByteArray := prog_1_method_37_code
def yX9_failed : MethodName := ⟨RX9, "failed", "(I)I"⟩
abbrev cX9_lostBy : ByteArray := prog_1_method_38_code
def yX9_lostBy : MethodName := ⟨RX9, "lostBy", "(I)J"⟩
abbrev cX9_forget : ByteArray := prog_1_method_39_code
def yX9_forget : MethodName := ⟨RX9, "forget", "()V"⟩
abbrev cX9_reckonDay : ByteArray := prog_1_method_40_code
def yX9_reckonDay : MethodName := ⟨RX9, "reckonDay", "()V"⟩
abbrev cX9_reckonCoins : ByteArray := prog_1_method_41_code
def yX9_reckonCoins : MethodName := ⟨RX9, "reckonCoins", "()V"⟩
abbrev cX9_findMix : ByteArray := prog_1_method_42_code
def yX9_findMix : MethodName := ⟨RX9, "findMix", "(I)V"⟩
abbrev cX9_keepBetterMix : ByteArray := prog_1_method_43_code
def yX9_keepBetterMix : MethodName := ⟨RX9, "keepBetterMix", "(IIII)V"⟩
abbrev cX9_firstFault : ByteArray := prog_1_method_44_code
def yX9_firstFault : MethodName := ⟨RX9, "firstFault", "(LCafeTables$Sheet;II)I"⟩
abbrev cX9_goesOn : ByteArray := prog_1_method_45_code
def yX9_goesOn : MethodName := ⟨RX9, "goesOn", "(II)Z"⟩
abbrev cX9_placeOf : ByteArray := prog_1_method_46_code
def yX9_placeOf : MethodName := ⟨RX9, "placeOf", "(I)I"⟩
abbrev cX9_awaited : ByteArray := prog_1_method_47_code
def yX9_awaited : MethodName := ⟨RX9, "awaited", "(IIIII)J"⟩
abbrev cX9_choices : ByteArray := prog_1_method_48_code
def yX9_choices : MethodName := ⟨RX9, "choices", "(II)J"⟩
abbrev cX9_power : ByteArray := prog_1_method_49_code
def yX9_power : MethodName := ⟨RX9, "power", "(JI)J"⟩
abbrev cX9_commonDivisor : ByteArray := prog_1_method_50_code
def yX9_commonDivisor : MethodName := ⟨RX9, "commonDivisor", "(JJ)J"⟩
def RX10 : String := "CafeTablesModel"
def TX10 : u_T := fun k => match k with
  | 0 => ("CafeTablesModel", "fault", "I", false)
  | 1 => ("CafeTablesModel", "trace", "I", false)
  | 2 => ("CafeTablesModel", "sorts", "[I", true)
  | 3 => ("CafeTablesModel", "sheetLong", "[I", true)
  | 4 => ("CafeTablesModel", "cells", "[I", true)
  | 5 => ("CafeTablesModel", "tables", "I", false)
  | 6 => ("CafeTablesModel", "where", "[I", true)
  | 7 => ("CafeTablesModel", "seats", "[I", true)
  | 8 => ("CafeTablesModel", "rule", "I", false)
  | 9 => ("CafeTablesModel", "patience", "I", false)
  | 10 => ("CafeTablesModel", "isJoining", "Z", false)
  | 11 => ("CafeTablesModel", "rain", "I", false)
  | 12 => ("CafeTablesModel", "at", "I", false)
  | 13 => ("CafeTablesModel", "readTables", "I", false)
  | 14 => ("CafeTablesModel", "readWhere", "[I", true)
  | 15 => ("CafeTablesModel", "readSeats", "[I", true)
  | 16 => ("CafeTablesModel", "groups", "I", false)
  | 17 => ("CafeTablesModel", "kind", "[I", true)
  | 18 => ("CafeTablesModel", "size", "[I", true)
  | 19 => ("CafeTablesModel", "comes", "[I", true)
  | 20 => ("CafeTablesModel", "stay", "[I", true)
  | 21 => ("CafeTablesModel", "wants", "[I", true)
  | 22 => ("CafeTablesModel", "lure", "[I", true)
  | 23 => ("CafeTablesModel", "laidTables", "I", false)
  | 24 => ("CafeTablesModel", "laidWhere", "[I", true)
  | 25 => ("CafeTablesModel", "laidSeats", "[I", true)
  | 26 => ("CafeTablesModel", "laidRule", "I", false)
  | 27 => ("CafeTablesModel", "laidPatience", "I", false)
  | 28 => ("CafeTablesModel", "laidRain", "I", false)
  | 29 => ("CafeTablesModel", "leftOut", "I", false)
  | 30 => ("CafeTablesModel", "taker", "[I", true)
  | 31 => ("CafeTablesModel", "isShut", "[Z", true)
  | 32 => ("CafeTablesModel", "state", "[I", true)
  | 33 => ("CafeTablesModel", "table", "[I", true)
  | 34 => ("CafeTablesModel", "from", "[I", true)
  | 35 => ("CafeTablesModel", "till", "[I", true)
  | 36 => ("CafeTablesModel", "coin", "[I", true)
  | 37 => ("CafeTablesModel", "waited", "[I", true)
  | 38 => ("CafeTablesModel", "takenThen", "[I", true)
  | 39 => ("CafeTablesModel", "waitingThen", "[I", true)
  | 40 => ("CafeTablesModel", "isWet", "[Z", true)
  | 41 => ("CafeTablesModel", "chosen", "[I", true)
  | 42 => ("CafeTablesModel", "bestRow", "[I", true)
  | _ => ("CafeTablesModel", "planMost", "I", false)
def tyX10 : Nat → FieldType := fun k => match k with
  | 0 => .int
  | 1 => .int
  | 2 => .array .int
  | 3 => .array .int
  | 4 => .array .int
  | 5 => .int
  | 6 => .array .int
  | 7 => .array .int
  | 8 => .int
  | 9 => .int
  | 10 => .boolean
  | 11 => .int
  | 12 => .int
  | 13 => .int
  | 14 => .array .int
  | 15 => .array .int
  | 16 => .int
  | 17 => .array .int
  | 18 => .array .int
  | 19 => .array .int
  | 20 => .array .int
  | 21 => .array .int
  | 22 => .array .int
  | 23 => .int
  | 24 => .array .int
  | 25 => .array .int
  | 26 => .int
  | 27 => .int
  | 28 => .int
  | 29 => .int
  | 30 => .array .int
  | 31 => .array .boolean
  | 32 => .array .int
  | 33 => .array .int
  | 34 => .array .int
  | 35 => .array .int
  | 36 => .array .int
  | 37 => .array .int
  | 38 => .array .int
  | 39 => .array .int
  | 40 => .array .boolean
  | 41 => .array .int
  | 42 => .array .int
  | _ => .int
abbrev wsX100 : List Cond := u_ws RX10 TX10 44
theorem nmX10 : ∀ a, a < 44 → ∀ b, b < 44 → a ≠ b → (TX10 a).2.1 ≠ (TX10 b).2.1 := by decide +kernel
theorem tyX10_ok : ∀ k, k < 44 → parseFieldDescriptor (TX10 k).2.2.1 = some (tyX10 k) := by decide +kernel
abbrev cX10_init : ByteArray := prog_12_method_1_code
def yX10_init : MethodName := ⟨RX10, "<init>", "()V"⟩
abbrev cX10_fails : ByteArray := prog_12_method_3_code
def yX10_fails : MethodName := ⟨RX10, "fails", "(I)I"⟩
abbrev cX10_lost : ByteArray := prog_12_method_4_code
def yX10_lost : MethodName := ⟨RX10, "lost", "(I)J"⟩
abbrev cX10_within : ByteArray := prog_12_method_5_code
def yX10_within : MethodName := ⟨RX10, "within", "(III)Z"⟩
abbrev cX10_share : ByteArray := prog_12_method_6_code
def yX10_share : MethodName := ⟨RX10, "share", "(JJI)J"⟩
abbrev cX10_isSheet : ByteArray := prog_12_method_7_code
def yX10_isSheet : MethodName := ⟨RX10, "isSheet", "(I)Z"⟩
abbrev cX10_isSort : ByteArray := prog_12_method_8_code
def yX10_isSort : MethodName := ⟨RX10, "isSort", "(I)Z"⟩
abbrev cX10_against : ByteArray := prog_12_method_9_code
def yX10_against : MethodName := ⟨RX10, "against", "(IIII)I"⟩
abbrev cX10_isCafe : ByteArray := prog_12_method_10_code
def yX10_isCafe : MethodName := ⟨RX10, "isCafe", "()Z"⟩
abbrev cX10_isCode : ByteArray := prog_12_method_11_code
def yX10_isCode : MethodName := ⟨RX10, "isCode", "(II)Z"⟩
abbrev cX10_cafe : ByteArray := prog_12_method_12_code
def yX10_cafe : MethodName := ⟨RX10, "cafe", "(IIII)I"⟩
abbrev cX10_readCafe : ByteArray := prog_12_method_13_code
def yX10_readCafe : MethodName := ⟨RX10, "readCafe", "(I)Z"⟩
abbrev cX10_ofTable : ByteArray := prog_12_method_14_code
def yX10_ofTable : MethodName := ⟨RX10, "ofTable", "(II)I"⟩
abbrev cX10_rule : ByteArray := prog_12_method_15_code
def yX10_rule : MethodName := ⟨RX10, "rule", "(I)I"⟩
abbrev cX10_patience : ByteArray := prog_12_method_16_code
def yX10_patience : MethodName := ⟨RX10, "patience", "(I)I"⟩
abbrev cX10_joining : ByteArray := prog_12_method_17_code
def yX10_joining : MethodName := ⟨RX10, "joining", "(Z)I"⟩
abbrev cX10_rain : ByteArray := prog_12_method_18_code
def yX10_rain : MethodName := ⟨RX10, "rain", "(I)I"⟩
abbrev cX10_isGroup : ByteArray := prog_12_method_19_code
def yX10_isGroup : MethodName := ⟨RX10, "isGroup", "(I)Z"⟩
abbrev cX10_group : ByteArray := prog_12_method_20_code
def yX10_group : MethodName := ⟨RX10, "group", "(IIIIII)I"⟩
abbrev cX10_stays : ByteArray := prog_12_method_21_code
def yX10_stays : MethodName := ⟨RX10, "stays", "(I)I"⟩
abbrev cX10_ofGroup : ByteArray := prog_12_method_22_code
def yX10_ofGroup : MethodName := ⟨RX10, "ofGroup", "(II)I"⟩
abbrev cX10_coinOf : ByteArray := prog_12_method_23_code
def yX10_coinOf : MethodName := ⟨RX10, "coinOf", "(II)I"⟩
abbrev cX10_layNow : ByteArray := prog_12_method_24_code
def yX10_layNow : MethodName := ⟨RX10, "layNow", "()V"⟩
abbrev cX10_goDay : ByteArray := prog_12_method_25_code
def yX10_goDay : MethodName := ⟨RX10, "goDay", "()V"⟩
abbrev cX10_manyTaken : ByteArray := prog_12_method_26_code
def yX10_manyTaken : MethodName := ⟨RX10, "manyTaken", "()I"⟩
abbrev cX10_manyWait : ByteArray := prog_12_method_27_code
def yX10_manyWait : MethodName := ⟨RX10, "manyWait", "(I)I"⟩
abbrev cX10_goMinute : ByteArray := prog_12_method_28_code
def yX10_goMinute : MethodName := ⟨RX10, "goMinute", "(I)V"⟩
abbrev cX10_goes : ByteArray := prog_12_method_29_code
def yX10_goes : MethodName := ⟨RX10, "goes", "(II)V"⟩
abbrev cX10_getsUp : ByteArray := prog_12_method_30_code
def yX10_getsUp : MethodName := ⟨RX10, "getsUp", "(I)V"⟩
abbrev cX10_isInSun : ByteArray := prog_12_method_31_code
def yX10_isInSun : MethodName := ⟨RX10, "isInSun", "(I)Z"⟩
abbrev cX10_rainsOn : ByteArray := prog_12_method_32_code
def yX10_rainsOn : MethodName := ⟨RX10, "rainsOn", "(I)V"⟩
abbrev cX10_tryWaiting : ByteArray := prog_12_method_33_code
def yX10_tryWaiting : MethodName := ⟨RX10, "tryWaiting", "(I)V"⟩
abbrev cX10_triesAgain : ByteArray := prog_12_method_34_code
def yX10_triesAgain : MethodName := ⟨RX10, "triesAgain", "(II)V"⟩
abbrev cX10_comesIn : ByteArray := prog_12_method_35_code
def yX10_comesIn : MethodName := ⟨RX10, "comesIn", "(II)V"⟩
abbrev cX10_sitsDown : ByteArray := prog_12_method_36_code
def yX10_sitsDown : MethodName := ⟨RX10, "sitsDown", "(II)Z"⟩
abbrev cX10_isFree : ByteArray := prog_12_method_37_code
def yX10_isFree : MethodName := ⟨RX10, "isFree", "(I)Z"⟩
abbrev cX10_takesTable : ByteArray := prog_12_method_38_code
def yX10_takesTable : MethodName := ⟨RX10, "takesTable", "(I)Z"⟩
abbrev cX10_firstFor : ByteArray := prog_12_method_39_code
def yX10_firstFor : MethodName := ⟨RX10, "firstFor", "(I)I"⟩
abbrev cX10_smallest : ByteArray := prog_12_method_40_code
def yX10_smallest : MethodName := ⟨RX10, "smallest", "(IZ)I"⟩
abbrev cX10_joinsTwo : ByteArray := prog_12_method_41_code
def yX10_joinsTwo : MethodName := ⟨RX10, "joinsTwo", "(I)Z"⟩
abbrev cX10_allCoin : ByteArray := prog_12_method_42_code
def yX10_allCoin : MethodName := ⟨RX10, "allCoin", "()I"⟩
abbrev cX10_coinNow : ByteArray := prog_12_method_43_code
def yX10_coinNow : MethodName := ⟨RX10, "coinNow", "()I"⟩
abbrev cX10_day : ByteArray := prog_12_method_44_code
def yX10_day : MethodName := ⟨RX10, "day", "(II)I"⟩
abbrev cX10_taken : ByteArray := prog_12_method_45_code
def yX10_taken : MethodName := ⟨RX10, "taken", "(II)I"⟩
abbrev cX10_coin : ByteArray := prog_12_method_46_code
def yX10_coin : MethodName := ⟨RX10, "coin", "()I"⟩
abbrev cX10_worth : ByteArray := prog_12_method_47_code
def yX10_worth : MethodName := ⟨RX10, "worth", "(I)J"⟩
abbrev cX10_planned : ByteArray := prog_12_method_48_code
def yX10_planned : MethodName := ⟨RX10, "planned", "()I"⟩
abbrev cX10_maySit : ByteArray := prog_12_method_49_code
def yX10_maySit : MethodName := ⟨RX10, "maySit", "(II)Z"⟩
abbrev cX10_findPlan : ByteArray := prog_12_method_50_code
def yX10_findPlan : MethodName := ⟨RX10, "findPlan", "()V"⟩
abbrev cX10_offer : ByteArray := prog_12_method_51_code
def yX10_offer : MethodName := ⟨RX10, "offer", "(I)V"⟩
abbrev cX10_plan : ByteArray := prog_12_method_52_code
def yX10_plan : MethodName := ⟨RX10, "plan", "(I)I"⟩
abbrev cX10_coinBy : ByteArray := prog_12_method_53_code
def yX10_coinBy : MethodName := ⟨RX10, "coinBy", "(II)I"⟩
abbrev cX10_bestRule : ByteArray := prog_12_method_54_code
def yX10_bestRule : MethodName := ⟨RX10, "bestRule", "(I)I"⟩
abbrev cX10_waiting : ByteArray := prog_12_method_55_code
def yX10_waiting : MethodName := ⟨RX10, "waiting", "(I)I"⟩
abbrev cX10_mix : ByteArray := prog_12_method_56_code
def yX10_mix : MethodName := ⟨RX10, "mix", "(II)I"⟩
abbrev cX10_layMix : ByteArray := prog_12_method_57_code
def yX10_layMix : MethodName := ⟨RX10, "layMix", "(III)V"⟩
abbrev cX10_till : ByteArray := prog_12_method_58_code
def yX10_till : MethodName := ⟨RX10, "till", "(II)I"⟩
abbrev cX10_awaited : ByteArray := prog_12_method_59_code
def yX10_awaited : MethodName := ⟨RX10, "awaited", "(IIIII)J"⟩
abbrev cX10_hundreds : ByteArray := prog_12_method_60_code
def yX10_hundreds : MethodName := ⟨RX10, "hundreds", "(I)J"⟩
abbrev cX10_areNames : ByteArray := prog_12_method_61_code
def yX10_areNames : MethodName := ⟨RX10, "areNames", "(IIII)Z"⟩
abbrev cX10_names : ByteArray := prog_12_method_62_code
def yX10_names : MethodName := ⟨RX10, "names", "(IIIIII)J"⟩
abbrev cX10_take : ByteArray := prog_12_method_63_code
def yX10_take : MethodName := ⟨RX10, "take", "(IIII)I"⟩
abbrev cX10_sheet : ByteArray := prog_12_method_64_code
def yX10_sheet : MethodName := ⟨RX10, "sheet", "(III)I"⟩
abbrev cX10_lose : ByteArray := prog_12_method_65_code
def yX10_lose : MethodName := ⟨RX10, "lose", "(I)I"⟩
abbrev cX10_put : ByteArray := prog_12_method_66_code
def yX10_put : MethodName := ⟨RX10, "put", "(III)I"⟩
abbrev cX10_cell : ByteArray := prog_12_method_67_code
def yX10_cell : MethodName := ⟨RX10, "cell", "(III)J"⟩
abbrev cX10_copy : ByteArray := prog_12_method_68_code
def yX10_copy : MethodName := ⟨RX10, "copy", "(IIIII)I"⟩
abbrev cX10_begins : ByteArray := prog_12_method_69_code
def yX10_begins : MethodName := ⟨RX10, "begins", "(I)V"⟩
abbrev cX10_tell : ByteArray := prog_12_method_70_code
def yX10_tell : MethodName := ⟨RX10, "tell", "(I)I"⟩
abbrev cX10_serve : ByteArray := prog_12_method_71_code
def yX10_serve : MethodName := ⟨RX10, "serve", "(I)I"⟩
abbrev cX10_as : ByteArray := prog_12_method_72_code
def yX10_as : MethodName := ⟨RX10, "as", "(II)I"⟩
abbrev cX10_trace : ByteArray := prog_12_method_73_code
def yX10_trace : MethodName := ⟨RX10, "trace", "()I"⟩
abbrev cX10_fault : ByteArray := prog_12_method_74_code
def yX10_fault : MethodName := ⟨RX10, "fault", "()I"⟩
abbrev cX10_many : ByteArray := prog_12_method_75_code
def yX10_many : MethodName := ⟨RX10, "many", "(I)I"⟩
def RJ9 : String := "java/lang/Math"
abbrev cJ9_abs_067f4 : ByteArray := prog_13_method_61_code
def yJ9_abs_067f4 : MethodName := ⟨RJ9, "abs", "(J)J"⟩
abbrev cJ9_max_7cf53 : ByteArray := prog_13_method_65_code
def yJ9_max_7cf53 : MethodName := ⟨RJ9, "max", "(II)I"⟩
abbrev cJ9_min_7cf53 : ByteArray := prog_13_method_69_code
def yJ9_min_7cf53 : MethodName := ⟨RJ9, "min", "(II)I"⟩
def RJ10 : String := "java/lang/System"
def RJ7 : String := "java/util/Arrays"
abbrev cJ7_fill_53178 : ByteArray := prog_15_method_103_code
def yJ7_fill_53178 : MethodName := ⟨RJ7, "fill", "([II)V"⟩
def RL : String := "CafeTablesLaw"
abbrev cL_law : ByteArray := code
def yL_law : MethodName := ⟨RL, "law", "([I)Z"⟩
abbrev vwCl : List vw_C := [(RX0, TX0, 11), (RX1, TX1, 2), (RX2, TX2, 6), (RX3, TX3, 7), (RX4, TX4, 6), (RX5, TX5, 11), (RX6, TX6, 4), (RX7, TX7, 6), (RX8, TX8, 1), (RX9, TX9, 15), (RX10, TX10, 44)]
end
section
theorem dX10_init_0 : decode cX10_init 0 = .ok (.aload_n 0, 1) := by decide +kernel
theorem dX10_init_1 : decode cX10_init 1 = .ok (.invokespecial 1, 3) := by decide +kernel
theorem dX10_init_4 : decode cX10_init 4 = .ok (.aload_n 0, 1) := by decide +kernel
theorem dX10_init_5 : decode cX10_init 5 = .ok (.iconst 4, 1) := by decide +kernel
theorem dX10_init_6 : decode cX10_init 6 = .ok (.newarray .int, 2) := by decide +kernel
theorem dX10_init_8 : decode cX10_init 8 = .ok (.dup, 1) := by decide +kernel
theorem dX10_init_9 : decode cX10_init 9 = .ok (.iconst 0, 1) := by decide +kernel
theorem dX10_init_10 : decode cX10_init 10 = .ok (.bipush (-9), 2) := by decide +kernel
theorem dX10_init_12 : decode cX10_init 12 = .ok (.iastore, 1) := by decide +kernel
theorem dX10_init_13 : decode cX10_init 13 = .ok (.dup, 1) := by decide +kernel
theorem dX10_init_14 : decode cX10_init 14 = .ok (.iconst 1, 1) := by decide +kernel
theorem dX10_init_15 : decode cX10_init 15 = .ok (.bipush (-9), 2) := by decide +kernel
theorem dX10_init_17 : decode cX10_init 17 = .ok (.iastore, 1) := by decide +kernel
theorem dX10_init_18 : decode cX10_init 18 = .ok (.dup, 1) := by decide +kernel
theorem dX10_init_19 : decode cX10_init 19 = .ok (.iconst 2, 1) := by decide +kernel
theorem dX10_init_20 : decode cX10_init 20 = .ok (.bipush (-9), 2) := by decide +kernel
theorem dX10_init_22 : decode cX10_init 22 = .ok (.iastore, 1) := by decide +kernel
theorem dX10_init_23 : decode cX10_init 23 = .ok (.dup, 1) := by decide +kernel
theorem dX10_init_24 : decode cX10_init 24 = .ok (.iconst 3, 1) := by decide +kernel
theorem dX10_init_25 : decode cX10_init 25 = .ok (.bipush (-9), 2) := by decide +kernel
theorem dX10_init_27 : decode cX10_init 27 = .ok (.iastore, 1) := by decide +kernel
theorem dX10_init_28 : decode cX10_init 28 = .ok (.putfield 9, 3) := by decide +kernel
theorem dX10_init_31 : decode cX10_init 31 = .ok (.aload_n 0, 1) := by decide +kernel
theorem dX10_init_32 : decode cX10_init 32 = .ok (.iconst 4, 1) := by decide +kernel
theorem dX10_init_33 : decode cX10_init 33 = .ok (.newarray .int, 2) := by decide +kernel
theorem dX10_init_35 : decode cX10_init 35 = .ok (.putfield 13, 3) := by decide +kernel
theorem dX10_init_38 : decode cX10_init 38 = .ok (.aload_n 0, 1) := by decide +kernel
theorem dX10_init_39 : decode cX10_init 39 = .ok (.sipush 160, 3) := by decide +kernel
theorem dX10_init_42 : decode cX10_init 42 = .ok (.newarray .int, 2) := by decide +kernel
theorem dX10_init_44 : decode cX10_init 44 = .ok (.putfield 16, 3) := by decide +kernel
theorem dX10_init_47 : decode cX10_init 47 = .ok (.aload_n 0, 1) := by decide +kernel
theorem dX10_init_48 : decode cX10_init 48 = .ok (.bipush 6, 2) := by decide +kernel
theorem dX10_init_50 : decode cX10_init 50 = .ok (.newarray .int, 2) := by decide +kernel
theorem dX10_init_52 : decode cX10_init 52 = .ok (.putfield 19, 3) := by decide +kernel
theorem dX10_init_55 : decode cX10_init 55 = .ok (.aload_n 0, 1) := by decide +kernel
theorem dX10_init_56 : decode cX10_init 56 = .ok (.bipush 6, 2) := by decide +kernel
theorem dX10_init_58 : decode cX10_init 58 = .ok (.newarray .int, 2) := by decide +kernel
theorem dX10_init_60 : decode cX10_init 60 = .ok (.putfield 22, 3) := by decide +kernel
theorem dX10_init_63 : decode cX10_init 63 = .ok (.aload_n 0, 1) := by decide +kernel
theorem dX10_init_64 : decode cX10_init 64 = .ok (.bipush (-9), 2) := by decide +kernel
theorem dX10_init_66 : decode cX10_init 66 = .ok (.putfield 25, 3) := by decide +kernel
theorem dX10_init_69 : decode cX10_init 69 = .ok (.aload_n 0, 1) := by decide +kernel
theorem dX10_init_70 : decode cX10_init 70 = .ok (.bipush 6, 2) := by decide +kernel
theorem dX10_init_72 : decode cX10_init 72 = .ok (.newarray .int, 2) := by decide +kernel
theorem dX10_init_74 : decode cX10_init 74 = .ok (.putfield 29, 3) := by decide +kernel
theorem dX10_init_77 : decode cX10_init 77 = .ok (.aload_n 0, 1) := by decide +kernel
theorem dX10_init_78 : decode cX10_init 78 = .ok (.bipush 6, 2) := by decide +kernel
theorem dX10_init_80 : decode cX10_init 80 = .ok (.newarray .int, 2) := by decide +kernel
theorem dX10_init_82 : decode cX10_init 82 = .ok (.putfield 32, 3) := by decide +kernel
theorem dX10_init_85 : decode cX10_init 85 = .ok (.aload_n 0, 1) := by decide +kernel
theorem dX10_init_86 : decode cX10_init 86 = .ok (.bipush 8, 2) := by decide +kernel
theorem dX10_init_88 : decode cX10_init 88 = .ok (.newarray .int, 2) := by decide +kernel
theorem dX10_init_90 : decode cX10_init 90 = .ok (.putfield 35, 3) := by decide +kernel
theorem dX10_init_93 : decode cX10_init 93 = .ok (.aload_n 0, 1) := by decide +kernel
theorem dX10_init_94 : decode cX10_init 94 = .ok (.bipush 8, 2) := by decide +kernel
theorem dX10_init_96 : decode cX10_init 96 = .ok (.newarray .int, 2) := by decide +kernel
theorem dX10_init_98 : decode cX10_init 98 = .ok (.putfield 38, 3) := by decide +kernel
theorem dX10_init_101 : decode cX10_init 101 = .ok (.aload_n 0, 1) := by decide +kernel
theorem dX10_init_102 : decode cX10_init 102 = .ok (.bipush 8, 2) := by decide +kernel
theorem dX10_init_104 : decode cX10_init 104 = .ok (.newarray .int, 2) := by decide +kernel
theorem dX10_init_106 : decode cX10_init 106 = .ok (.putfield 41, 3) := by decide +kernel
theorem dX10_init_109 : decode cX10_init 109 = .ok (.aload_n 0, 1) := by decide +kernel
theorem dX10_init_110 : decode cX10_init 110 = .ok (.bipush 8, 2) := by decide +kernel
theorem dX10_init_112 : decode cX10_init 112 = .ok (.newarray .int, 2) := by decide +kernel
theorem dX10_init_114 : decode cX10_init 114 = .ok (.putfield 44, 3) := by decide +kernel
theorem dX10_init_117 : decode cX10_init 117 = .ok (.aload_n 0, 1) := by decide +kernel
theorem dX10_init_118 : decode cX10_init 118 = .ok (.bipush 8, 2) := by decide +kernel
theorem dX10_init_120 : decode cX10_init 120 = .ok (.newarray .int, 2) := by decide +kernel
theorem dX10_init_122 : decode cX10_init 122 = .ok (.putfield 47, 3) := by decide +kernel
theorem dX10_init_125 : decode cX10_init 125 = .ok (.aload_n 0, 1) := by decide +kernel
theorem dX10_init_126 : decode cX10_init 126 = .ok (.bipush 8, 2) := by decide +kernel
theorem dX10_init_128 : decode cX10_init 128 = .ok (.newarray .int, 2) := by decide +kernel
theorem dX10_init_130 : decode cX10_init 130 = .ok (.putfield 50, 3) := by decide +kernel
theorem dX10_init_133 : decode cX10_init 133 = .ok (.aload_n 0, 1) := by decide +kernel
theorem dX10_init_134 : decode cX10_init 134 = .ok (.bipush 6, 2) := by decide +kernel
theorem dX10_init_136 : decode cX10_init 136 = .ok (.newarray .int, 2) := by decide +kernel
theorem dX10_init_138 : decode cX10_init 138 = .ok (.putfield 53, 3) := by decide +kernel
theorem dX10_init_141 : decode cX10_init 141 = .ok (.aload_n 0, 1) := by decide +kernel
theorem dX10_init_142 : decode cX10_init 142 = .ok (.bipush 6, 2) := by decide +kernel
theorem dX10_init_144 : decode cX10_init 144 = .ok (.newarray .int, 2) := by decide +kernel
theorem dX10_init_146 : decode cX10_init 146 = .ok (.putfield 56, 3) := by decide +kernel
theorem dX10_init_149 : decode cX10_init 149 = .ok (.aload_n 0, 1) := by decide +kernel
theorem dX10_init_150 : decode cX10_init 150 = .ok (.bipush 6, 2) := by decide +kernel
theorem dX10_init_152 : decode cX10_init 152 = .ok (.newarray .int, 2) := by decide +kernel
theorem dX10_init_154 : decode cX10_init 154 = .ok (.putfield 59, 3) := by decide +kernel
theorem dX10_init_157 : decode cX10_init 157 = .ok (.aload_n 0, 1) := by decide +kernel
theorem dX10_init_158 : decode cX10_init 158 = .ok (.bipush 6, 2) := by decide +kernel
theorem dX10_init_160 : decode cX10_init 160 = .ok (.newarray .boolean, 2) := by decide +kernel
theorem dX10_init_162 : decode cX10_init 162 = .ok (.putfield 62, 3) := by decide +kernel
theorem dX10_init_165 : decode cX10_init 165 = .ok (.aload_n 0, 1) := by decide +kernel
theorem dX10_init_166 : decode cX10_init 166 = .ok (.bipush 8, 2) := by decide +kernel
theorem dX10_init_168 : decode cX10_init 168 = .ok (.newarray .int, 2) := by decide +kernel
theorem dX10_init_170 : decode cX10_init 170 = .ok (.putfield 66, 3) := by decide +kernel
theorem dX10_init_173 : decode cX10_init 173 = .ok (.aload_n 0, 1) := by decide +kernel
theorem dX10_init_174 : decode cX10_init 174 = .ok (.bipush 8, 2) := by decide +kernel
theorem dX10_init_176 : decode cX10_init 176 = .ok (.newarray .int, 2) := by decide +kernel
theorem dX10_init_178 : decode cX10_init 178 = .ok (.putfield 69, 3) := by decide +kernel
theorem dX10_init_181 : decode cX10_init 181 = .ok (.aload_n 0, 1) := by decide +kernel
theorem dX10_init_182 : decode cX10_init 182 = .ok (.bipush 8, 2) := by decide +kernel
theorem dX10_init_184 : decode cX10_init 184 = .ok (.newarray .int, 2) := by decide +kernel
theorem dX10_init_186 : decode cX10_init 186 = .ok (.putfield 72, 3) := by decide +kernel
theorem dX10_init_189 : decode cX10_init 189 = .ok (.aload_n 0, 1) := by decide +kernel
theorem dX10_init_190 : decode cX10_init 190 = .ok (.bipush 8, 2) := by decide +kernel
theorem dX10_init_192 : decode cX10_init 192 = .ok (.newarray .int, 2) := by decide +kernel
theorem dX10_init_194 : decode cX10_init 194 = .ok (.putfield 75, 3) := by decide +kernel
theorem dX10_init_197 : decode cX10_init 197 = .ok (.aload_n 0, 1) := by decide +kernel
theorem dX10_init_198 : decode cX10_init 198 = .ok (.bipush 8, 2) := by decide +kernel
theorem dX10_init_200 : decode cX10_init 200 = .ok (.newarray .int, 2) := by decide +kernel
theorem dX10_init_202 : decode cX10_init 202 = .ok (.putfield 78, 3) := by decide +kernel
theorem dX10_init_205 : decode cX10_init 205 = .ok (.aload_n 0, 1) := by decide +kernel
theorem dX10_init_206 : decode cX10_init 206 = .ok (.bipush 8, 2) := by decide +kernel
theorem dX10_init_208 : decode cX10_init 208 = .ok (.newarray .int, 2) := by decide +kernel
theorem dX10_init_210 : decode cX10_init 210 = .ok (.putfield 81, 3) := by decide +kernel
theorem dX10_init_213 : decode cX10_init 213 = .ok (.aload_n 0, 1) := by decide +kernel
theorem dX10_init_214 : decode cX10_init 214 = .ok (.sipush 400, 3) := by decide +kernel
theorem dX10_init_217 : decode cX10_init 217 = .ok (.newarray .int, 2) := by decide +kernel
theorem dX10_init_219 : decode cX10_init 219 = .ok (.putfield 84, 3) := by decide +kernel
theorem dX10_init_222 : decode cX10_init 222 = .ok (.aload_n 0, 1) := by decide +kernel
theorem dX10_init_223 : decode cX10_init 223 = .ok (.sipush 400, 3) := by decide +kernel
theorem dX10_init_226 : decode cX10_init 226 = .ok (.newarray .int, 2) := by decide +kernel
theorem dX10_init_228 : decode cX10_init 228 = .ok (.putfield 87, 3) := by decide +kernel
theorem dX10_init_231 : decode cX10_init 231 = .ok (.aload_n 0, 1) := by decide +kernel
theorem dX10_init_232 : decode cX10_init 232 = .ok (.bipush 8, 2) := by decide +kernel
theorem dX10_init_234 : decode cX10_init 234 = .ok (.newarray .boolean, 2) := by decide +kernel
theorem dX10_init_236 : decode cX10_init 236 = .ok (.putfield 90, 3) := by decide +kernel
theorem dX10_init_239 : decode cX10_init 239 = .ok (.aload_n 0, 1) := by decide +kernel
theorem dX10_init_240 : decode cX10_init 240 = .ok (.bipush 6, 2) := by decide +kernel
theorem dX10_init_242 : decode cX10_init 242 = .ok (.newarray .int, 2) := by decide +kernel
theorem dX10_init_244 : decode cX10_init 244 = .ok (.putfield 93, 3) := by decide +kernel
theorem dX10_init_247 : decode cX10_init 247 = .ok (.aload_n 0, 1) := by decide +kernel
theorem dX10_init_248 : decode cX10_init 248 = .ok (.bipush 6, 2) := by decide +kernel
theorem dX10_init_250 : decode cX10_init 250 = .ok (.newarray .int, 2) := by decide +kernel
theorem dX10_init_252 : decode cX10_init 252 = .ok (.putfield 96, 3) := by decide +kernel
theorem dX10_init_255 : decode cX10_init 255 = .ok (.return_, 1) := by decide +kernel
theorem dX10_fails_0 : decode cX10_fails 0 = .ok (.aload_n 0, 1) := by decide +kernel
theorem dX10_fails_1 : decode cX10_fails 1 = .ok (.iload_n 1, 1) := by decide +kernel
theorem dX10_fails_2 : decode cX10_fails 2 = .ok (.putfield 99, 3) := by decide +kernel
theorem dX10_fails_5 : decode cX10_fails 5 = .ok (.bipush (-10), 2) := by decide +kernel
theorem dX10_fails_7 : decode cX10_fails 7 = .ok (.iload_n 1, 1) := by decide +kernel
theorem dX10_fails_8 : decode cX10_fails 8 = .ok (.isub, 1) := by decide +kernel
theorem dX10_fails_9 : decode cX10_fails 9 = .ok (.ireturn, 1) := by decide +kernel
theorem dX10_lost_0 : decode cX10_lost 0 = .ok (.aload_n 0, 1) := by decide +kernel
theorem dX10_lost_1 : decode cX10_lost 1 = .ok (.iload_n 1, 1) := by decide +kernel
theorem dX10_lost_2 : decode cX10_lost 2 = .ok (.putfield 99, 3) := by decide +kernel
theorem dX10_lost_5 : decode cX10_lost 5 = .ok (.ldc2_w 102, 3) := by decide +kernel
theorem dX10_lost_8 : decode cX10_lost 8 = .ok (.lreturn, 1) := by decide +kernel
theorem dX10_within_0 : decode cX10_within 0 = .ok (.iload_n 0, 1) := by decide +kernel
theorem dX10_within_1 : decode cX10_within 1 = .ok (.iload_n 1, 1) := by decide +kernel
theorem dX10_within_2 : decode cX10_within 2 = .ok (.if_icmp .lt 12, 3) := by decide +kernel
theorem dX10_within_5 : decode cX10_within 5 = .ok (.iload_n 0, 1) := by decide +kernel
theorem dX10_within_6 : decode cX10_within 6 = .ok (.iload_n 2, 1) := by decide +kernel
theorem dX10_within_7 : decode cX10_within 7 = .ok (.if_icmp .gt 7, 3) := by decide +kernel
theorem dX10_within_10 : decode cX10_within 10 = .ok (.iconst 1, 1) := by decide +kernel
theorem dX10_within_11 : decode cX10_within 11 = .ok (.goto 4, 3) := by decide +kernel
theorem dX10_within_14 : decode cX10_within 14 = .ok (.iconst 0, 1) := by decide +kernel
theorem dX10_within_15 : decode cX10_within 15 = .ok (.ireturn, 1) := by decide +kernel
theorem dX10_share_0 : decode cX10_share 0 = .ok (.lload_n 0, 1) := by decide +kernel
theorem dX10_share_1 : decode cX10_share 1 = .ok (.lconst 0, 1) := by decide +kernel
theorem dX10_share_2 : decode cX10_share 2 = .ok (.lcmp, 1) := by decide +kernel
theorem dX10_share_3 : decode cX10_share 3 = .ok (.ifCond .ge 8, 3) := by decide +kernel
theorem dX10_share_6 : decode cX10_share 6 = .ok (.lload_n 0, 1) := by decide +kernel
theorem dX10_share_7 : decode cX10_share 7 = .ok (.lneg, 1) := by decide +kernel
theorem dX10_share_8 : decode cX10_share 8 = .ok (.goto 4, 3) := by decide +kernel
theorem dX10_share_11 : decode cX10_share 11 = .ok (.lload_n 0, 1) := by decide +kernel
theorem dX10_share_12 : decode cX10_share 12 = .ok (.lstore 5, 2) := by decide +kernel
theorem dX10_share_14 : decode cX10_share 14 = .ok (.lload_n 2, 1) := by decide +kernel
theorem dX10_share_15 : decode cX10_share 15 = .ok (.lstore 7, 2) := by decide +kernel
theorem dX10_share_17 : decode cX10_share 17 = .ok (.lload 7, 2) := by decide +kernel
theorem dX10_share_19 : decode cX10_share 19 = .ok (.lconst 0, 1) := by decide +kernel
theorem dX10_share_20 : decode cX10_share 20 = .ok (.lcmp, 1) := by decide +kernel
theorem dX10_share_21 : decode cX10_share 21 = .ok (.ifCond .eq 21, 3) := by decide +kernel
theorem dX10_share_24 : decode cX10_share 24 = .ok (.lload 5, 2) := by decide +kernel
theorem dX10_share_26 : decode cX10_share 26 = .ok (.lload 7, 2) := by decide +kernel
theorem dX10_share_28 : decode cX10_share 28 = .ok (.lrem, 1) := by decide +kernel
theorem dX10_share_29 : decode cX10_share 29 = .ok (.lstore 9, 2) := by decide +kernel
theorem dX10_share_31 : decode cX10_share 31 = .ok (.lload 7, 2) := by decide +kernel
theorem dX10_share_33 : decode cX10_share 33 = .ok (.lstore 5, 2) := by decide +kernel
theorem dX10_share_35 : decode cX10_share 35 = .ok (.lload 9, 2) := by decide +kernel
theorem dX10_share_37 : decode cX10_share 37 = .ok (.lstore 7, 2) := by decide +kernel
theorem dX10_share_39 : decode cX10_share 39 = .ok (.goto (-22), 3) := by decide +kernel
theorem dX10_share_42 : decode cX10_share 42 = .ok (.iload 4, 2) := by decide +kernel
theorem dX10_share_44 : decode cX10_share 44 = .ok (.ifCond .ne 10, 3) := by decide +kernel
theorem dX10_share_47 : decode cX10_share 47 = .ok (.lload_n 0, 1) := by decide +kernel
theorem dX10_share_48 : decode cX10_share 48 = .ok (.lload 5, 2) := by decide +kernel
theorem dX10_share_50 : decode cX10_share 50 = .ok (.ldiv, 1) := by decide +kernel
theorem dX10_share_51 : decode cX10_share 51 = .ok (.goto 7, 3) := by decide +kernel
theorem dX10_share_54 : decode cX10_share 54 = .ok (.lload_n 2, 1) := by decide +kernel
theorem dX10_share_55 : decode cX10_share 55 = .ok (.lload 5, 2) := by decide +kernel
theorem dX10_share_57 : decode cX10_share 57 = .ok (.ldiv, 1) := by decide +kernel
theorem dX10_share_58 : decode cX10_share 58 = .ok (.lreturn, 1) := by decide +kernel
theorem dX10_isSheet_0 : decode cX10_isSheet 0 = .ok (.iload_n 0, 1) := by decide +kernel
theorem dX10_isSheet_1 : decode cX10_isSheet 1 = .ok (.iconst 0, 1) := by decide +kernel
theorem dX10_isSheet_2 : decode cX10_isSheet 2 = .ok (.iconst 3, 1) := by decide +kernel
theorem dX10_isSheet_3 : decode cX10_isSheet 3 = .ok (.invokestatic 104, 3) := by decide +kernel
theorem dX10_isSheet_6 : decode cX10_isSheet 6 = .ok (.ireturn, 1) := by decide +kernel
theorem dX10_isSort_0 : decode cX10_isSort 0 = .ok (.iload_n 0, 1) := by decide +kernel
theorem dX10_isSort_1 : decode cX10_isSort 1 = .ok (.iconst 0, 1) := by decide +kernel
theorem dX10_isSort_2 : decode cX10_isSort 2 = .ok (.iconst 2, 1) := by decide +kernel
theorem dX10_isSort_3 : decode cX10_isSort 3 = .ok (.invokestatic 104, 3) := by decide +kernel
theorem dX10_isSort_6 : decode cX10_isSort 6 = .ok (.ireturn, 1) := by decide +kernel
theorem dX10_against_0 : decode cX10_against 0 = .ok (.aload_n 0, 1) := by decide +kernel
theorem dX10_against_1 : decode cX10_against 1 = .ok (.getfield 9, 3) := by decide +kernel
theorem dX10_against_4 : decode cX10_against 4 = .ok (.iload_n 1, 1) := by decide +kernel
theorem dX10_against_5 : decode cX10_against 5 = .ok (.iaload, 1) := by decide +kernel
theorem dX10_against_6 : decode cX10_against 6 = .ok (.bipush (-9), 2) := by decide +kernel
theorem dX10_against_8 : decode cX10_against 8 = .ok (.if_icmp .eq 15, 3) := by decide +kernel
theorem dX10_against_11 : decode cX10_against 11 = .ok (.aload_n 0, 1) := by decide +kernel
theorem dX10_against_12 : decode cX10_against 12 = .ok (.getfield 9, 3) := by decide +kernel
theorem dX10_against_15 : decode cX10_against 15 = .ok (.iload_n 1, 1) := by decide +kernel
theorem dX10_against_16 : decode cX10_against 16 = .ok (.iaload, 1) := by decide +kernel
theorem dX10_against_17 : decode cX10_against 17 = .ok (.iload_n 2, 1) := by decide +kernel
theorem dX10_against_18 : decode cX10_against 18 = .ok (.if_icmp .eq 5, 3) := by decide +kernel
theorem dX10_against_21 : decode cX10_against 21 = .ok (.iconst 2, 1) := by decide +kernel
theorem dX10_against_22 : decode cX10_against 22 = .ok (.ireturn, 1) := by decide +kernel
theorem dX10_against_23 : decode cX10_against 23 = .ok (.aload_n 0, 1) := by decide +kernel
theorem dX10_against_24 : decode cX10_against 24 = .ok (.getfield 9, 3) := by decide +kernel
theorem dX10_against_27 : decode cX10_against 27 = .ok (.iload_n 1, 1) := by decide +kernel
theorem dX10_against_28 : decode cX10_against 28 = .ok (.iaload, 1) := by decide +kernel
theorem dX10_against_29 : decode cX10_against 29 = .ok (.bipush (-9), 2) := by decide +kernel
theorem dX10_against_31 : decode cX10_against 31 = .ok (.if_icmp .ne 5, 3) := by decide +kernel
theorem dX10_against_34 : decode cX10_against 34 = .ok (.iconst 1, 1) := by decide +kernel
theorem dX10_against_35 : decode cX10_against 35 = .ok (.ireturn, 1) := by decide +kernel
theorem dX10_against_36 : decode cX10_against 36 = .ok (.iload 4, 2) := by decide +kernel
theorem dX10_against_38 : decode cX10_against 38 = .ok (.ifCond .ge 5, 3) := by decide +kernel
theorem dX10_against_41 : decode cX10_against 41 = .ok (.iconst 4, 1) := by decide +kernel
theorem dX10_against_42 : decode cX10_against 42 = .ok (.ireturn, 1) := by decide +kernel
theorem dX10_against_43 : decode cX10_against 43 = .ok (.iload_n 3, 1) := by decide +kernel
theorem dX10_against_44 : decode cX10_against 44 = .ok (.ifCond .lt 26, 3) := by decide +kernel
theorem dX10_against_47 : decode cX10_against 47 = .ok (.iload_n 3, 1) := by decide +kernel
theorem dX10_against_48 : decode cX10_against 48 = .ok (.aload_n 0, 1) := by decide +kernel
theorem dX10_against_49 : decode cX10_against 49 = .ok (.getfield 13, 3) := by decide +kernel
theorem dX10_against_52 : decode cX10_against 52 = .ok (.iload_n 1, 1) := by decide +kernel
theorem dX10_against_53 : decode cX10_against 53 = .ok (.iaload, 1) := by decide +kernel
theorem dX10_against_54 : decode cX10_against 54 = .ok (.if_icmp .gt 16, 3) := by decide +kernel
theorem dX10_against_57 : decode cX10_against 57 = .ok (.iload 4, 2) := by decide +kernel
theorem dX10_against_59 : decode cX10_against 59 = .ok (.aload_n 0, 1) := by decide +kernel
theorem dX10_against_60 : decode cX10_against 60 = .ok (.getfield 13, 3) := by decide +kernel
theorem dX10_against_63 : decode cX10_against 63 = .ok (.iload_n 1, 1) := by decide +kernel
theorem dX10_against_64 : decode cX10_against 64 = .ok (.iaload, 1) := by decide +kernel
theorem dX10_against_65 : decode cX10_against 65 = .ok (.iload_n 3, 1) := by decide +kernel
theorem dX10_against_66 : decode cX10_against 66 = .ok (.isub, 1) := by decide +kernel
theorem dX10_against_67 : decode cX10_against 67 = .ok (.if_icmp .le 7, 3) := by decide +kernel
theorem dX10_against_70 : decode cX10_against 70 = .ok (.iconst 3, 1) := by decide +kernel
theorem dX10_against_71 : decode cX10_against 71 = .ok (.goto 4, 3) := by decide +kernel
theorem dX10_against_74 : decode cX10_against 74 = .ok (.iconst 0, 1) := by decide +kernel
theorem dX10_against_75 : decode cX10_against 75 = .ok (.ireturn, 1) := by decide +kernel
theorem dX10_isCafe_0 : decode cX10_isCafe 0 = .ok (.aload_n 0, 1) := by decide +kernel
theorem dX10_isCafe_1 : decode cX10_isCafe 1 = .ok (.getfield 108, 3) := by decide +kernel
theorem dX10_isCafe_4 : decode cX10_isCafe 4 = .ok (.ifCond .le 7, 3) := by decide +kernel
theorem dX10_isCafe_7 : decode cX10_isCafe 7 = .ok (.iconst 1, 1) := by decide +kernel
theorem dX10_isCafe_8 : decode cX10_isCafe 8 = .ok (.goto 4, 3) := by decide +kernel
theorem dX10_isCafe_11 : decode cX10_isCafe 11 = .ok (.iconst 0, 1) := by decide +kernel
theorem dX10_isCafe_12 : decode cX10_isCafe 12 = .ok (.ireturn, 1) := by decide +kernel
theorem dX10_isCode_0 : decode cX10_isCode 0 = .ok (.aload_n 0, 1) := by decide +kernel
theorem dX10_isCode_1 : decode cX10_isCode 1 = .ok (.getfield 111, 3) := by decide +kernel
theorem dX10_isCode_4 : decode cX10_isCode 4 = .ok (.iload_n 2, 1) := by decide +kernel
theorem dX10_isCode_5 : decode cX10_isCode 5 = .ok (.if_icmp .ge 20, 3) := by decide +kernel
theorem dX10_isCode_8 : decode cX10_isCode 8 = .ok (.aload_n 0, 1) := by decide +kernel
theorem dX10_isCode_9 : decode cX10_isCode 9 = .ok (.getfield 16, 3) := by decide +kernel
theorem dX10_isCode_12 : decode cX10_isCode 12 = .ok (.aload_n 0, 1) := by decide +kernel
theorem dX10_isCode_13 : decode cX10_isCode 13 = .ok (.getfield 111, 3) := by decide +kernel
theorem dX10_isCode_16 : decode cX10_isCode 16 = .ok (.iaload, 1) := by decide +kernel
theorem dX10_isCode_17 : decode cX10_isCode 17 = .ok (.iload_n 1, 1) := by decide +kernel
theorem dX10_isCode_18 : decode cX10_isCode 18 = .ok (.if_icmp .ne 7, 3) := by decide +kernel
theorem dX10_isCode_21 : decode cX10_isCode 21 = .ok (.iconst 1, 1) := by decide +kernel
theorem dX10_isCode_22 : decode cX10_isCode 22 = .ok (.goto 4, 3) := by decide +kernel
theorem dX10_isCode_25 : decode cX10_isCode 25 = .ok (.iconst 0, 1) := by decide +kernel
theorem dX10_isCode_26 : decode cX10_isCode 26 = .ok (.ireturn, 1) := by decide +kernel
theorem dX10_cafe_0 : decode cX10_cafe 0 = .ok (.aload_n 0, 1) := by decide +kernel
theorem dX10_cafe_1 : decode cX10_cafe 1 = .ok (.iconst 0, 1) := by decide +kernel
theorem dX10_cafe_2 : decode cX10_cafe 2 = .ok (.putfield 99, 3) := by decide +kernel
theorem dX10_cafe_5 : decode cX10_cafe 5 = .ok (.iload_n 1, 1) := by decide +kernel
theorem dX10_cafe_6 : decode cX10_cafe 6 = .ok (.invokestatic 114, 3) := by decide +kernel
theorem dX10_cafe_9 : decode cX10_cafe 9 = .ok (.ifCond .ne 5, 3) := by decide +kernel
theorem dX10_cafe_12 : decode cX10_cafe 12 = .ok (.iconst (-1), 1) := by decide +kernel
theorem dX10_cafe_13 : decode cX10_cafe 13 = .ok (.ireturn, 1) := by decide +kernel
theorem dX10_cafe_14 : decode cX10_cafe 14 = .ok (.iload_n 2, 1) := by decide +kernel
theorem dX10_cafe_15 : decode cX10_cafe 15 = .ok (.invokestatic 118, 3) := by decide +kernel
theorem dX10_cafe_18 : decode cX10_cafe 18 = .ok (.ifCond .ne 6, 3) := by decide +kernel
theorem dX10_cafe_21 : decode cX10_cafe 21 = .ok (.bipush (-2), 2) := by decide +kernel
theorem dX10_cafe_23 : decode cX10_cafe 23 = .ok (.ireturn, 1) := by decide +kernel
theorem dX10_cafe_24 : decode cX10_cafe 24 = .ok (.aload_n 0, 1) := by decide +kernel
theorem dX10_cafe_25 : decode cX10_cafe 25 = .ok (.iload_n 1, 1) := by decide +kernel
theorem dX10_cafe_26 : decode cX10_cafe 26 = .ok (.iload_n 2, 1) := by decide +kernel
theorem dX10_cafe_27 : decode cX10_cafe 27 = .ok (.iload_n 3, 1) := by decide +kernel
theorem dX10_cafe_28 : decode cX10_cafe 28 = .ok (.iload 4, 2) := by decide +kernel
theorem dX10_cafe_30 : decode cX10_cafe 30 = .ok (.invokevirtual 121, 3) := by decide +kernel
theorem dX10_cafe_33 : decode cX10_cafe 33 = .ok (.istore 5, 2) := by decide +kernel
theorem dX10_cafe_35 : decode cX10_cafe 35 = .ok (.iload 5, 2) := by decide +kernel
theorem dX10_cafe_37 : decode cX10_cafe 37 = .ok (.ifCond .eq 10, 3) := by decide +kernel
theorem dX10_cafe_40 : decode cX10_cafe 40 = .ok (.aload_n 0, 1) := by decide +kernel
theorem dX10_cafe_41 : decode cX10_cafe 41 = .ok (.iload 5, 2) := by decide +kernel
theorem dX10_cafe_43 : decode cX10_cafe 43 = .ok (.invokevirtual 125, 3) := by decide +kernel
theorem dX10_cafe_46 : decode cX10_cafe 46 = .ok (.ireturn, 1) := by decide +kernel
theorem dX10_cafe_47 : decode cX10_cafe 47 = .ok (.bipush 40, 2) := by decide +kernel
theorem dX10_cafe_49 : decode cX10_cafe 49 = .ok (.iload_n 1, 1) := by decide +kernel
theorem dX10_cafe_50 : decode cX10_cafe 50 = .ok (.imul, 1) := by decide +kernel
theorem dX10_cafe_51 : decode cX10_cafe 51 = .ok (.iload_n 3, 1) := by decide +kernel
theorem dX10_cafe_52 : decode cX10_cafe 52 = .ok (.iadd, 1) := by decide +kernel
theorem dX10_cafe_53 : decode cX10_cafe 53 = .ok (.istore 6, 2) := by decide +kernel
theorem dX10_cafe_55 : decode cX10_cafe 55 = .ok (.aload_n 0, 1) := by decide +kernel
theorem dX10_cafe_56 : decode cX10_cafe 56 = .ok (.iload 6, 2) := by decide +kernel
theorem dX10_cafe_58 : decode cX10_cafe 58 = .ok (.putfield 111, 3) := by decide +kernel
theorem dX10_cafe_61 : decode cX10_cafe 61 = .ok (.aload_n 0, 1) := by decide +kernel
theorem dX10_cafe_62 : decode cX10_cafe 62 = .ok (.iload 6, 2) := by decide +kernel
theorem dX10_cafe_64 : decode cX10_cafe 64 = .ok (.iload 4, 2) := by decide +kernel
theorem dX10_cafe_66 : decode cX10_cafe 66 = .ok (.iadd, 1) := by decide +kernel
theorem dX10_cafe_67 : decode cX10_cafe 67 = .ok (.invokevirtual 129, 3) := by decide +kernel
theorem dX10_cafe_70 : decode cX10_cafe 70 = .ok (.ifCond .ne 14, 3) := by decide +kernel
theorem dX10_cafe_73 : decode cX10_cafe 73 = .ok (.bipush (-100), 2) := by decide +kernel
theorem dX10_cafe_75 : decode cX10_cafe 75 = .ok (.aload_n 0, 1) := by decide +kernel
theorem dX10_cafe_76 : decode cX10_cafe 76 = .ok (.getfield 111, 3) := by decide +kernel
theorem dX10_cafe_79 : decode cX10_cafe 79 = .ok (.iload 6, 2) := by decide +kernel
theorem dX10_cafe_81 : decode cX10_cafe 81 = .ok (.isub, 1) := by decide +kernel
theorem dX10_cafe_82 : decode cX10_cafe 82 = .ok (.isub, 1) := by decide +kernel
theorem dX10_cafe_83 : decode cX10_cafe 83 = .ok (.ireturn, 1) := by decide +kernel
theorem dX10_cafe_84 : decode cX10_cafe 84 = .ok (.aload_n 0, 1) := by decide +kernel
theorem dX10_cafe_85 : decode cX10_cafe 85 = .ok (.aload_n 0, 1) := by decide +kernel
theorem dX10_cafe_86 : decode cX10_cafe 86 = .ok (.getfield 132, 3) := by decide +kernel
theorem dX10_cafe_89 : decode cX10_cafe 89 = .ok (.putfield 108, 3) := by decide +kernel
theorem dX10_cafe_92 : decode cX10_cafe 92 = .ok (.iconst 0, 1) := by decide +kernel
theorem dX10_cafe_93 : decode cX10_cafe 93 = .ok (.istore 7, 2) := by decide +kernel
theorem dX10_cafe_95 : decode cX10_cafe 95 = .ok (.iload 7, 2) := by decide +kernel
theorem dX10_cafe_97 : decode cX10_cafe 97 = .ok (.aload_n 0, 1) := by decide +kernel
theorem dX10_cafe_98 : decode cX10_cafe 98 = .ok (.getfield 108, 3) := by decide +kernel
theorem dX10_cafe_101 : decode cX10_cafe 101 = .ok (.if_icmp .ge 37, 3) := by decide +kernel
theorem dX10_cafe_104 : decode cX10_cafe 104 = .ok (.aload_n 0, 1) := by decide +kernel
theorem dX10_cafe_105 : decode cX10_cafe 105 = .ok (.getfield 19, 3) := by decide +kernel
theorem dX10_cafe_108 : decode cX10_cafe 108 = .ok (.iload 7, 2) := by decide +kernel
theorem dX10_cafe_110 : decode cX10_cafe 110 = .ok (.aload_n 0, 1) := by decide +kernel
theorem dX10_cafe_111 : decode cX10_cafe 111 = .ok (.getfield 29, 3) := by decide +kernel
theorem dX10_cafe_114 : decode cX10_cafe 114 = .ok (.iload 7, 2) := by decide +kernel
theorem dX10_cafe_116 : decode cX10_cafe 116 = .ok (.iaload, 1) := by decide +kernel
theorem dX10_cafe_117 : decode cX10_cafe 117 = .ok (.iastore, 1) := by decide +kernel
theorem dX10_cafe_118 : decode cX10_cafe 118 = .ok (.aload_n 0, 1) := by decide +kernel
theorem dX10_cafe_119 : decode cX10_cafe 119 = .ok (.getfield 22, 3) := by decide +kernel
theorem dX10_cafe_122 : decode cX10_cafe 122 = .ok (.iload 7, 2) := by decide +kernel
theorem dX10_cafe_124 : decode cX10_cafe 124 = .ok (.aload_n 0, 1) := by decide +kernel
theorem dX10_cafe_125 : decode cX10_cafe 125 = .ok (.getfield 32, 3) := by decide +kernel
theorem dX10_cafe_128 : decode cX10_cafe 128 = .ok (.iload 7, 2) := by decide +kernel
theorem dX10_cafe_130 : decode cX10_cafe 130 = .ok (.iaload, 1) := by decide +kernel
theorem dX10_cafe_131 : decode cX10_cafe 131 = .ok (.iastore, 1) := by decide +kernel
theorem dX10_cafe_132 : decode cX10_cafe 132 = .ok (.iinc 7 1, 3) := by decide +kernel
theorem dX10_cafe_135 : decode cX10_cafe 135 = .ok (.goto (-40), 3) := by decide +kernel
theorem dX10_cafe_138 : decode cX10_cafe 138 = .ok (.aload_n 0, 1) := by decide +kernel
theorem dX10_cafe_139 : decode cX10_cafe 139 = .ok (.iconst 0, 1) := by decide +kernel
theorem dX10_cafe_140 : decode cX10_cafe 140 = .ok (.putfield 135, 3) := by decide +kernel
theorem dX10_cafe_143 : decode cX10_cafe 143 = .ok (.aload_n 0, 1) := by decide +kernel
theorem dX10_cafe_144 : decode cX10_cafe 144 = .ok (.iconst 0, 1) := by decide +kernel
theorem dX10_cafe_145 : decode cX10_cafe 145 = .ok (.putfield 138, 3) := by decide +kernel
theorem dX10_cafe_148 : decode cX10_cafe 148 = .ok (.aload_n 0, 1) := by decide +kernel
theorem dX10_cafe_149 : decode cX10_cafe 149 = .ok (.iconst 0, 1) := by decide +kernel
theorem dX10_cafe_150 : decode cX10_cafe 150 = .ok (.putfield 141, 3) := by decide +kernel
theorem dX10_cafe_153 : decode cX10_cafe 153 = .ok (.aload_n 0, 1) := by decide +kernel
theorem dX10_cafe_154 : decode cX10_cafe 154 = .ok (.iconst 0, 1) := by decide +kernel
theorem dX10_cafe_155 : decode cX10_cafe 155 = .ok (.putfield 144, 3) := by decide +kernel
theorem dX10_cafe_158 : decode cX10_cafe 158 = .ok (.aload_n 0, 1) := by decide +kernel
theorem dX10_cafe_159 : decode cX10_cafe 159 = .ok (.bipush (-9), 2) := by decide +kernel
theorem dX10_cafe_161 : decode cX10_cafe 161 = .ok (.putfield 25, 3) := by decide +kernel
theorem dX10_cafe_164 : decode cX10_cafe 164 = .ok (.aload_n 0, 1) := by decide +kernel
theorem dX10_cafe_165 : decode cX10_cafe 165 = .ok (.getfield 108, 3) := by decide +kernel
theorem dX10_cafe_168 : decode cX10_cafe 168 = .ok (.ireturn, 1) := by decide +kernel
theorem dX10_readCafe_0 : decode cX10_readCafe 0 = .ok (.aload_n 0, 1) := by decide +kernel
theorem dX10_readCafe_1 : decode cX10_readCafe 1 = .ok (.iconst 0, 1) := by decide +kernel
theorem dX10_readCafe_2 : decode cX10_readCafe 2 = .ok (.putfield 132, 3) := by decide +kernel
theorem dX10_readCafe_5 : decode cX10_readCafe 5 = .ok (.aload_n 0, 1) := by decide +kernel
theorem dX10_readCafe_6 : decode cX10_readCafe 6 = .ok (.getfield 132, 3) := by decide +kernel
theorem dX10_readCafe_9 : decode cX10_readCafe 9 = .ok (.ifCond .eq 11, 3) := by decide +kernel
theorem dX10_readCafe_12 : decode cX10_readCafe 12 = .ok (.aload_n 0, 1) := by decide +kernel
theorem dX10_readCafe_13 : decode cX10_readCafe 13 = .ok (.getfield 111, 3) := by decide +kernel
theorem dX10_readCafe_16 : decode cX10_readCafe 16 = .ok (.iload_n 1, 1) := by decide +kernel
theorem dX10_readCafe_17 : decode cX10_readCafe 17 = .ok (.if_icmp .ge 195, 3) := by decide +kernel
theorem dX10_readCafe_20 : decode cX10_readCafe 20 = .ok (.aload_n 0, 1) := by decide +kernel
theorem dX10_readCafe_21 : decode cX10_readCafe 21 = .ok (.getfield 132, 3) := by decide +kernel
theorem dX10_readCafe_24 : decode cX10_readCafe 24 = .ok (.ifCond .le 34, 3) := by decide +kernel
theorem dX10_readCafe_27 : decode cX10_readCafe 27 = .ok (.aload_n 0, 1) := by decide +kernel
theorem dX10_readCafe_28 : decode cX10_readCafe 28 = .ok (.getfield 132, 3) := by decide +kernel
theorem dX10_readCafe_31 : decode cX10_readCafe 31 = .ok (.bipush 6, 2) := by decide +kernel
theorem dX10_readCafe_33 : decode cX10_readCafe 33 = .ok (.if_icmp .eq 13, 3) := by decide +kernel
theorem dX10_readCafe_36 : decode cX10_readCafe 36 = .ok (.aload_n 0, 1) := by decide +kernel
theorem dX10_readCafe_37 : decode cX10_readCafe 37 = .ok (.bipush 59, 2) := by decide +kernel
theorem dX10_readCafe_39 : decode cX10_readCafe 39 = .ok (.iload_n 1, 1) := by decide +kernel
theorem dX10_readCafe_40 : decode cX10_readCafe 40 = .ok (.invokevirtual 148, 3) := by decide +kernel
theorem dX10_readCafe_43 : decode cX10_readCafe 43 = .ok (.ifCond .ne 5, 3) := by decide +kernel
theorem dX10_readCafe_46 : decode cX10_readCafe 46 = .ok (.iconst 0, 1) := by decide +kernel
theorem dX10_readCafe_47 : decode cX10_readCafe 47 = .ok (.ireturn, 1) := by decide +kernel
theorem dX10_readCafe_48 : decode cX10_readCafe 48 = .ok (.aload_n 0, 1) := by decide +kernel
theorem dX10_readCafe_49 : decode cX10_readCafe 49 = .ok (.dup, 1) := by decide +kernel
theorem dX10_readCafe_50 : decode cX10_readCafe 50 = .ok (.getfield 111, 3) := by decide +kernel
theorem dX10_readCafe_53 : decode cX10_readCafe 53 = .ok (.iconst 1, 1) := by decide +kernel
theorem dX10_readCafe_54 : decode cX10_readCafe 54 = .ok (.iadd, 1) := by decide +kernel
theorem dX10_readCafe_55 : decode cX10_readCafe 55 = .ok (.putfield 111, 3) := by decide +kernel
theorem dX10_readCafe_58 : decode cX10_readCafe 58 = .ok (.aload_n 0, 1) := by decide +kernel
theorem dX10_readCafe_59 : decode cX10_readCafe 59 = .ok (.bipush 115, 2) := by decide +kernel
theorem dX10_readCafe_61 : decode cX10_readCafe 61 = .ok (.iload_n 1, 1) := by decide +kernel
theorem dX10_readCafe_62 : decode cX10_readCafe 62 = .ok (.invokevirtual 148, 3) := by decide +kernel
theorem dX10_readCafe_65 : decode cX10_readCafe 65 = .ok (.ifCond .eq 16, 3) := by decide +kernel
theorem dX10_readCafe_68 : decode cX10_readCafe 68 = .ok (.aload_n 0, 1) := by decide +kernel
theorem dX10_readCafe_69 : decode cX10_readCafe 69 = .ok (.getfield 29, 3) := by decide +kernel
theorem dX10_readCafe_72 : decode cX10_readCafe 72 = .ok (.aload_n 0, 1) := by decide +kernel
theorem dX10_readCafe_73 : decode cX10_readCafe 73 = .ok (.getfield 132, 3) := by decide +kernel
theorem dX10_readCafe_76 : decode cX10_readCafe 76 = .ok (.iconst 0, 1) := by decide +kernel
theorem dX10_readCafe_77 : decode cX10_readCafe 77 = .ok (.iastore, 1) := by decide +kernel
theorem dX10_readCafe_78 : decode cX10_readCafe 78 = .ok (.goto 51, 3) := by decide +kernel
theorem dX10_readCafe_81 : decode cX10_readCafe 81 = .ok (.aload_n 0, 1) := by decide +kernel
theorem dX10_readCafe_82 : decode cX10_readCafe 82 = .ok (.bipush 119, 2) := by decide +kernel
theorem dX10_readCafe_84 : decode cX10_readCafe 84 = .ok (.iload_n 1, 1) := by decide +kernel
theorem dX10_readCafe_85 : decode cX10_readCafe 85 = .ok (.invokevirtual 148, 3) := by decide +kernel
theorem dX10_readCafe_88 : decode cX10_readCafe 88 = .ok (.ifCond .eq 16, 3) := by decide +kernel
theorem dX10_readCafe_91 : decode cX10_readCafe 91 = .ok (.aload_n 0, 1) := by decide +kernel
theorem dX10_readCafe_92 : decode cX10_readCafe 92 = .ok (.getfield 29, 3) := by decide +kernel
theorem dX10_readCafe_95 : decode cX10_readCafe 95 = .ok (.aload_n 0, 1) := by decide +kernel
theorem dX10_readCafe_96 : decode cX10_readCafe 96 = .ok (.getfield 132, 3) := by decide +kernel
theorem dX10_readCafe_99 : decode cX10_readCafe 99 = .ok (.iconst 1, 1) := by decide +kernel
theorem dX10_readCafe_100 : decode cX10_readCafe 100 = .ok (.iastore, 1) := by decide +kernel
theorem dX10_readCafe_101 : decode cX10_readCafe 101 = .ok (.goto 28, 3) := by decide +kernel
theorem dX10_readCafe_104 : decode cX10_readCafe 104 = .ok (.aload_n 0, 1) := by decide +kernel
theorem dX10_readCafe_105 : decode cX10_readCafe 105 = .ok (.bipush 105, 2) := by decide +kernel
theorem dX10_readCafe_107 : decode cX10_readCafe 107 = .ok (.iload_n 1, 1) := by decide +kernel
theorem dX10_readCafe_108 : decode cX10_readCafe 108 = .ok (.invokevirtual 148, 3) := by decide +kernel
theorem dX10_readCafe_111 : decode cX10_readCafe 111 = .ok (.ifCond .eq 16, 3) := by decide +kernel
theorem dX10_readCafe_114 : decode cX10_readCafe 114 = .ok (.aload_n 0, 1) := by decide +kernel
theorem dX10_readCafe_115 : decode cX10_readCafe 115 = .ok (.getfield 29, 3) := by decide +kernel
theorem dX10_readCafe_118 : decode cX10_readCafe 118 = .ok (.aload_n 0, 1) := by decide +kernel
theorem dX10_readCafe_119 : decode cX10_readCafe 119 = .ok (.getfield 132, 3) := by decide +kernel
theorem dX10_readCafe_122 : decode cX10_readCafe 122 = .ok (.iconst 2, 1) := by decide +kernel
theorem dX10_readCafe_123 : decode cX10_readCafe 123 = .ok (.iastore, 1) := by decide +kernel
theorem dX10_readCafe_124 : decode cX10_readCafe 124 = .ok (.goto 5, 3) := by decide +kernel
theorem dX10_readCafe_127 : decode cX10_readCafe 127 = .ok (.iconst 0, 1) := by decide +kernel
theorem dX10_readCafe_128 : decode cX10_readCafe 128 = .ok (.ireturn, 1) := by decide +kernel
theorem dX10_readCafe_129 : decode cX10_readCafe 129 = .ok (.aload_n 0, 1) := by decide +kernel
theorem dX10_readCafe_130 : decode cX10_readCafe 130 = .ok (.dup, 1) := by decide +kernel
theorem dX10_readCafe_131 : decode cX10_readCafe 131 = .ok (.getfield 111, 3) := by decide +kernel
theorem dX10_readCafe_134 : decode cX10_readCafe 134 = .ok (.iconst 1, 1) := by decide +kernel
theorem dX10_readCafe_135 : decode cX10_readCafe 135 = .ok (.iadd, 1) := by decide +kernel
theorem dX10_readCafe_136 : decode cX10_readCafe 136 = .ok (.putfield 111, 3) := by decide +kernel
theorem dX10_readCafe_139 : decode cX10_readCafe 139 = .ok (.aload_n 0, 1) := by decide +kernel
theorem dX10_readCafe_140 : decode cX10_readCafe 140 = .ok (.getfield 111, 3) := by decide +kernel
theorem dX10_readCafe_143 : decode cX10_readCafe 143 = .ok (.iload_n 1, 1) := by decide +kernel
theorem dX10_readCafe_144 : decode cX10_readCafe 144 = .ok (.if_icmp .ge 22, 3) := by decide +kernel
theorem dX10_readCafe_147 : decode cX10_readCafe 147 = .ok (.aload_n 0, 1) := by decide +kernel
theorem dX10_readCafe_148 : decode cX10_readCafe 148 = .ok (.getfield 16, 3) := by decide +kernel
theorem dX10_readCafe_151 : decode cX10_readCafe 151 = .ok (.aload_n 0, 1) := by decide +kernel
theorem dX10_readCafe_152 : decode cX10_readCafe 152 = .ok (.getfield 111, 3) := by decide +kernel
theorem dX10_readCafe_155 : decode cX10_readCafe 155 = .ok (.iaload, 1) := by decide +kernel
theorem dX10_readCafe_156 : decode cX10_readCafe 156 = .ok (.bipush 49, 2) := by decide +kernel
theorem dX10_readCafe_158 : decode cX10_readCafe 158 = .ok (.bipush 54, 2) := by decide +kernel
theorem dX10_readCafe_160 : decode cX10_readCafe 160 = .ok (.invokestatic 104, 3) := by decide +kernel
theorem dX10_readCafe_163 : decode cX10_readCafe 163 = .ok (.ifCond .ne 5, 3) := by decide +kernel
theorem dX10_readCafe_166 : decode cX10_readCafe 166 = .ok (.iconst 0, 1) := by decide +kernel
theorem dX10_readCafe_167 : decode cX10_readCafe 167 = .ok (.ireturn, 1) := by decide +kernel
theorem dX10_readCafe_168 : decode cX10_readCafe 168 = .ok (.aload_n 0, 1) := by decide +kernel
theorem dX10_readCafe_169 : decode cX10_readCafe 169 = .ok (.getfield 32, 3) := by decide +kernel
theorem dX10_readCafe_172 : decode cX10_readCafe 172 = .ok (.aload_n 0, 1) := by decide +kernel
theorem dX10_readCafe_173 : decode cX10_readCafe 173 = .ok (.getfield 132, 3) := by decide +kernel
theorem dX10_readCafe_176 : decode cX10_readCafe 176 = .ok (.aload_n 0, 1) := by decide +kernel
theorem dX10_readCafe_177 : decode cX10_readCafe 177 = .ok (.getfield 16, 3) := by decide +kernel
theorem dX10_readCafe_180 : decode cX10_readCafe 180 = .ok (.aload_n 0, 1) := by decide +kernel
theorem dX10_readCafe_181 : decode cX10_readCafe 181 = .ok (.getfield 111, 3) := by decide +kernel
theorem dX10_readCafe_184 : decode cX10_readCafe 184 = .ok (.iaload, 1) := by decide +kernel
theorem dX10_readCafe_185 : decode cX10_readCafe 185 = .ok (.bipush 48, 2) := by decide +kernel
theorem dX10_readCafe_187 : decode cX10_readCafe 187 = .ok (.isub, 1) := by decide +kernel
theorem dX10_readCafe_188 : decode cX10_readCafe 188 = .ok (.iastore, 1) := by decide +kernel
theorem dX10_readCafe_189 : decode cX10_readCafe 189 = .ok (.aload_n 0, 1) := by decide +kernel
theorem dX10_readCafe_190 : decode cX10_readCafe 190 = .ok (.dup, 1) := by decide +kernel
theorem dX10_readCafe_191 : decode cX10_readCafe 191 = .ok (.getfield 132, 3) := by decide +kernel
theorem dX10_readCafe_194 : decode cX10_readCafe 194 = .ok (.iconst 1, 1) := by decide +kernel
theorem dX10_readCafe_195 : decode cX10_readCafe 195 = .ok (.iadd, 1) := by decide +kernel
theorem dX10_readCafe_196 : decode cX10_readCafe 196 = .ok (.putfield 132, 3) := by decide +kernel
theorem dX10_readCafe_199 : decode cX10_readCafe 199 = .ok (.aload_n 0, 1) := by decide +kernel
theorem dX10_readCafe_200 : decode cX10_readCafe 200 = .ok (.dup, 1) := by decide +kernel
theorem dX10_readCafe_201 : decode cX10_readCafe 201 = .ok (.getfield 111, 3) := by decide +kernel
theorem dX10_readCafe_204 : decode cX10_readCafe 204 = .ok (.iconst 1, 1) := by decide +kernel
theorem dX10_readCafe_205 : decode cX10_readCafe 205 = .ok (.iadd, 1) := by decide +kernel
theorem dX10_readCafe_206 : decode cX10_readCafe 206 = .ok (.putfield 111, 3) := by decide +kernel
theorem dX10_readCafe_209 : decode cX10_readCafe 209 = .ok (.goto (-204), 3) := by decide +kernel
theorem dX10_readCafe_212 : decode cX10_readCafe 212 = .ok (.iconst 1, 1) := by decide +kernel
theorem dX10_readCafe_213 : decode cX10_readCafe 213 = .ok (.ireturn, 1) := by decide +kernel
theorem dX10_ofTable_0 : decode cX10_ofTable 0 = .ok (.iload_n 1, 1) := by decide +kernel
theorem dX10_ofTable_1 : decode cX10_ofTable 1 = .ok (.ifCond .lt 11, 3) := by decide +kernel
theorem dX10_ofTable_4 : decode cX10_ofTable 4 = .ok (.iload_n 1, 1) := by decide +kernel
theorem dX10_ofTable_5 : decode cX10_ofTable 5 = .ok (.aload_n 0, 1) := by decide +kernel
theorem dX10_ofTable_6 : decode cX10_ofTable 6 = .ok (.getfield 108, 3) := by decide +kernel
theorem dX10_ofTable_9 : decode cX10_ofTable 9 = .ok (.if_icmp .lt 5, 3) := by decide +kernel
theorem dX10_ofTable_12 : decode cX10_ofTable 12 = .ok (.iconst (-1), 1) := by decide +kernel
theorem dX10_ofTable_13 : decode cX10_ofTable 13 = .ok (.ireturn, 1) := by decide +kernel
theorem dX10_ofTable_14 : decode cX10_ofTable 14 = .ok (.iload_n 2, 1) := by decide +kernel
theorem dX10_ofTable_15 : decode cX10_ofTable 15 = .ok (.ifCond .ne 12, 3) := by decide +kernel
theorem dX10_ofTable_18 : decode cX10_ofTable 18 = .ok (.aload_n 0, 1) := by decide +kernel
theorem dX10_ofTable_19 : decode cX10_ofTable 19 = .ok (.getfield 19, 3) := by decide +kernel
theorem dX10_ofTable_22 : decode cX10_ofTable 22 = .ok (.iload_n 1, 1) := by decide +kernel
theorem dX10_ofTable_23 : decode cX10_ofTable 23 = .ok (.iaload, 1) := by decide +kernel
theorem dX10_ofTable_24 : decode cX10_ofTable 24 = .ok (.goto 19, 3) := by decide +kernel
theorem dX10_ofTable_27 : decode cX10_ofTable 27 = .ok (.iload_n 2, 1) := by decide +kernel
theorem dX10_ofTable_28 : decode cX10_ofTable 28 = .ok (.iconst 1, 1) := by decide +kernel
theorem dX10_ofTable_29 : decode cX10_ofTable 29 = .ok (.if_icmp .ne 12, 3) := by decide +kernel
theorem dX10_ofTable_32 : decode cX10_ofTable 32 = .ok (.aload_n 0, 1) := by decide +kernel
theorem dX10_ofTable_33 : decode cX10_ofTable 33 = .ok (.getfield 22, 3) := by decide +kernel
theorem dX10_ofTable_36 : decode cX10_ofTable 36 = .ok (.iload_n 1, 1) := by decide +kernel
theorem dX10_ofTable_37 : decode cX10_ofTable 37 = .ok (.iaload, 1) := by decide +kernel
theorem dX10_ofTable_38 : decode cX10_ofTable 38 = .ok (.goto 5, 3) := by decide +kernel
theorem dX10_ofTable_41 : decode cX10_ofTable 41 = .ok (.bipush (-2), 2) := by decide +kernel
theorem dX10_ofTable_43 : decode cX10_ofTable 43 = .ok (.ireturn, 1) := by decide +kernel
theorem dX10_rule_0 : decode cX10_rule 0 = .ok (.iload_n 1, 1) := by decide +kernel
theorem dX10_rule_1 : decode cX10_rule 1 = .ok (.iconst 0, 1) := by decide +kernel
theorem dX10_rule_2 : decode cX10_rule 2 = .ok (.iconst 2, 1) := by decide +kernel
theorem dX10_rule_3 : decode cX10_rule 3 = .ok (.invokestatic 104, 3) := by decide +kernel
theorem dX10_rule_6 : decode cX10_rule 6 = .ok (.ifCond .ne 6, 3) := by decide +kernel
theorem dX10_rule_9 : decode cX10_rule 9 = .ok (.bipush (-2), 2) := by decide +kernel
theorem dX10_rule_11 : decode cX10_rule 11 = .ok (.ireturn, 1) := by decide +kernel
theorem dX10_rule_12 : decode cX10_rule 12 = .ok (.aload_n 0, 1) := by decide +kernel
theorem dX10_rule_13 : decode cX10_rule 13 = .ok (.invokevirtual 152, 3) := by decide +kernel
theorem dX10_rule_16 : decode cX10_rule 16 = .ok (.ifCond .ne 6, 3) := by decide +kernel
theorem dX10_rule_19 : decode cX10_rule 19 = .ok (.bipush (-3), 2) := by decide +kernel
theorem dX10_rule_21 : decode cX10_rule 21 = .ok (.ireturn, 1) := by decide +kernel
theorem dX10_rule_22 : decode cX10_rule 22 = .ok (.aload_n 0, 1) := by decide +kernel
theorem dX10_rule_23 : decode cX10_rule 23 = .ok (.getfield 138, 3) := by decide +kernel
theorem dX10_rule_26 : decode cX10_rule 26 = .ok (.istore_n 2, 1) := by decide +kernel
theorem dX10_rule_27 : decode cX10_rule 27 = .ok (.aload_n 0, 1) := by decide +kernel
theorem dX10_rule_28 : decode cX10_rule 28 = .ok (.iload_n 1, 1) := by decide +kernel
theorem dX10_rule_29 : decode cX10_rule 29 = .ok (.putfield 138, 3) := by decide +kernel
theorem dX10_rule_32 : decode cX10_rule 32 = .ok (.iload_n 2, 1) := by decide +kernel
theorem dX10_rule_33 : decode cX10_rule 33 = .ok (.ireturn, 1) := by decide +kernel
theorem dX10_patience_0 : decode cX10_patience 0 = .ok (.iload_n 1, 1) := by decide +kernel
theorem dX10_patience_1 : decode cX10_patience 1 = .ok (.iconst 0, 1) := by decide +kernel
theorem dX10_patience_2 : decode cX10_patience 2 = .ok (.bipush 30, 2) := by decide +kernel
theorem dX10_patience_4 : decode cX10_patience 4 = .ok (.invokestatic 104, 3) := by decide +kernel
theorem dX10_patience_7 : decode cX10_patience 7 = .ok (.ifCond .ne 6, 3) := by decide +kernel
theorem dX10_patience_10 : decode cX10_patience 10 = .ok (.bipush (-2), 2) := by decide +kernel
theorem dX10_patience_12 : decode cX10_patience 12 = .ok (.ireturn, 1) := by decide +kernel
theorem dX10_patience_13 : decode cX10_patience 13 = .ok (.aload_n 0, 1) := by decide +kernel
theorem dX10_patience_14 : decode cX10_patience 14 = .ok (.invokevirtual 152, 3) := by decide +kernel
theorem dX10_patience_17 : decode cX10_patience 17 = .ok (.ifCond .ne 6, 3) := by decide +kernel
theorem dX10_patience_20 : decode cX10_patience 20 = .ok (.bipush (-3), 2) := by decide +kernel
theorem dX10_patience_22 : decode cX10_patience 22 = .ok (.ireturn, 1) := by decide +kernel
theorem dX10_patience_23 : decode cX10_patience 23 = .ok (.aload_n 0, 1) := by decide +kernel
theorem dX10_patience_24 : decode cX10_patience 24 = .ok (.getfield 141, 3) := by decide +kernel
theorem dX10_patience_27 : decode cX10_patience 27 = .ok (.istore_n 2, 1) := by decide +kernel
theorem dX10_patience_28 : decode cX10_patience 28 = .ok (.aload_n 0, 1) := by decide +kernel
theorem dX10_patience_29 : decode cX10_patience 29 = .ok (.iload_n 1, 1) := by decide +kernel
theorem dX10_patience_30 : decode cX10_patience 30 = .ok (.putfield 141, 3) := by decide +kernel
theorem dX10_patience_33 : decode cX10_patience 33 = .ok (.iload_n 2, 1) := by decide +kernel
theorem dX10_patience_34 : decode cX10_patience 34 = .ok (.ireturn, 1) := by decide +kernel
theorem dX10_joining_0 : decode cX10_joining 0 = .ok (.aload_n 0, 1) := by decide +kernel
theorem dX10_joining_1 : decode cX10_joining 1 = .ok (.invokevirtual 152, 3) := by decide +kernel
theorem dX10_joining_4 : decode cX10_joining 4 = .ok (.ifCond .ne 6, 3) := by decide +kernel
theorem dX10_joining_7 : decode cX10_joining 7 = .ok (.bipush (-3), 2) := by decide +kernel
theorem dX10_joining_9 : decode cX10_joining 9 = .ok (.ireturn, 1) := by decide +kernel
theorem dX10_joining_10 : decode cX10_joining 10 = .ok (.aload_n 0, 1) := by decide +kernel
theorem dX10_joining_11 : decode cX10_joining 11 = .ok (.getfield 144, 3) := by decide +kernel
theorem dX10_joining_14 : decode cX10_joining 14 = .ok (.istore_n 2, 1) := by decide +kernel
theorem dX10_joining_15 : decode cX10_joining 15 = .ok (.aload_n 0, 1) := by decide +kernel
theorem dX10_joining_16 : decode cX10_joining 16 = .ok (.iload_n 1, 1) := by decide +kernel
theorem dX10_joining_17 : decode cX10_joining 17 = .ok (.putfield 144, 3) := by decide +kernel
theorem dX10_joining_20 : decode cX10_joining 20 = .ok (.iload_n 2, 1) := by decide +kernel
theorem dX10_joining_21 : decode cX10_joining 21 = .ok (.iload_n 1, 1) := by decide +kernel
theorem dX10_joining_22 : decode cX10_joining 22 = .ok (.if_icmp .ne 7, 3) := by decide +kernel
theorem dX10_joining_25 : decode cX10_joining 25 = .ok (.iconst 0, 1) := by decide +kernel
theorem dX10_joining_26 : decode cX10_joining 26 = .ok (.goto 4, 3) := by decide +kernel
theorem dX10_joining_29 : decode cX10_joining 29 = .ok (.iconst 1, 1) := by decide +kernel
theorem dX10_joining_30 : decode cX10_joining 30 = .ok (.ireturn, 1) := by decide +kernel
theorem dX10_rain_0 : decode cX10_rain 0 = .ok (.iload_n 1, 1) := by decide +kernel
theorem dX10_rain_1 : decode cX10_rain 1 = .ok (.bipush (-9), 2) := by decide +kernel
theorem dX10_rain_3 : decode cX10_rain 3 = .ok (.if_icmp .eq 17, 3) := by decide +kernel
theorem dX10_rain_6 : decode cX10_rain 6 = .ok (.iload_n 1, 1) := by decide +kernel
theorem dX10_rain_7 : decode cX10_rain 7 = .ok (.iconst 0, 1) := by decide +kernel
theorem dX10_rain_8 : decode cX10_rain 8 = .ok (.sipush 399, 3) := by decide +kernel
theorem dX10_rain_11 : decode cX10_rain 11 = .ok (.invokestatic 104, 3) := by decide +kernel
theorem dX10_rain_14 : decode cX10_rain 14 = .ok (.ifCond .ne 6, 3) := by decide +kernel
theorem dX10_rain_17 : decode cX10_rain 17 = .ok (.bipush (-2), 2) := by decide +kernel
theorem dX10_rain_19 : decode cX10_rain 19 = .ok (.ireturn, 1) := by decide +kernel
theorem dX10_rain_20 : decode cX10_rain 20 = .ok (.aload_n 0, 1) := by decide +kernel
theorem dX10_rain_21 : decode cX10_rain 21 = .ok (.invokevirtual 152, 3) := by decide +kernel
theorem dX10_rain_24 : decode cX10_rain 24 = .ok (.ifCond .ne 6, 3) := by decide +kernel
theorem dX10_rain_27 : decode cX10_rain 27 = .ok (.bipush (-3), 2) := by decide +kernel
theorem dX10_rain_29 : decode cX10_rain 29 = .ok (.ireturn, 1) := by decide +kernel
theorem dX10_rain_30 : decode cX10_rain 30 = .ok (.aload_n 0, 1) := by decide +kernel
theorem dX10_rain_31 : decode cX10_rain 31 = .ok (.iload_n 1, 1) := by decide +kernel
theorem dX10_rain_32 : decode cX10_rain 32 = .ok (.putfield 25, 3) := by decide +kernel
theorem dX10_rain_35 : decode cX10_rain 35 = .ok (.iconst 1, 1) := by decide +kernel
theorem dX10_rain_36 : decode cX10_rain 36 = .ok (.ireturn, 1) := by decide +kernel
theorem dX10_isGroup_0 : decode cX10_isGroup 0 = .ok (.iload_n 1, 1) := by decide +kernel
theorem dX10_isGroup_1 : decode cX10_isGroup 1 = .ok (.ifCond .lt 15, 3) := by decide +kernel
theorem dX10_isGroup_4 : decode cX10_isGroup 4 = .ok (.iload_n 1, 1) := by decide +kernel
theorem dX10_isGroup_5 : decode cX10_isGroup 5 = .ok (.aload_n 0, 1) := by decide +kernel
theorem dX10_isGroup_6 : decode cX10_isGroup 6 = .ok (.getfield 135, 3) := by decide +kernel
theorem dX10_isGroup_9 : decode cX10_isGroup 9 = .ok (.if_icmp .ge 7, 3) := by decide +kernel
theorem dX10_isGroup_12 : decode cX10_isGroup 12 = .ok (.iconst 1, 1) := by decide +kernel
theorem dX10_isGroup_13 : decode cX10_isGroup 13 = .ok (.goto 4, 3) := by decide +kernel
theorem dX10_isGroup_16 : decode cX10_isGroup 16 = .ok (.iconst 0, 1) := by decide +kernel
theorem dX10_isGroup_17 : decode cX10_isGroup 17 = .ok (.ireturn, 1) := by decide +kernel
theorem dX10_group_0 : decode cX10_group 0 = .ok (.iload_n 1, 1) := by decide +kernel
theorem dX10_group_1 : decode cX10_group 1 = .ok (.iconst 0, 1) := by decide +kernel
theorem dX10_group_2 : decode cX10_group 2 = .ok (.iconst 2, 1) := by decide +kernel
theorem dX10_group_3 : decode cX10_group 3 = .ok (.invokestatic 104, 3) := by decide +kernel
theorem dX10_group_6 : decode cX10_group 6 = .ok (.ifCond .eq 55, 3) := by decide +kernel
theorem dX10_group_9 : decode cX10_group 9 = .ok (.iload_n 2, 1) := by decide +kernel
theorem dX10_group_10 : decode cX10_group 10 = .ok (.iconst 1, 1) := by decide +kernel
theorem dX10_group_11 : decode cX10_group 11 = .ok (.bipush 6, 2) := by decide +kernel
theorem dX10_group_13 : decode cX10_group 13 = .ok (.invokestatic 104, 3) := by decide +kernel
theorem dX10_group_16 : decode cX10_group 16 = .ok (.ifCond .eq 45, 3) := by decide +kernel
theorem dX10_group_19 : decode cX10_group 19 = .ok (.iload_n 3, 1) := by decide +kernel
theorem dX10_group_20 : decode cX10_group 20 = .ok (.iconst 0, 1) := by decide +kernel
theorem dX10_group_21 : decode cX10_group 21 = .ok (.bipush 99, 2) := by decide +kernel
theorem dX10_group_23 : decode cX10_group 23 = .ok (.invokestatic 104, 3) := by decide +kernel
theorem dX10_group_26 : decode cX10_group 26 = .ok (.ifCond .eq 35, 3) := by decide +kernel
theorem dX10_group_29 : decode cX10_group 29 = .ok (.iload 4, 2) := by decide +kernel
theorem dX10_group_31 : decode cX10_group 31 = .ok (.iconst 1, 1) := by decide +kernel
theorem dX10_group_32 : decode cX10_group 32 = .ok (.bipush 60, 2) := by decide +kernel
theorem dX10_group_34 : decode cX10_group 34 = .ok (.invokestatic 104, 3) := by decide +kernel
theorem dX10_group_37 : decode cX10_group 37 = .ok (.ifCond .eq 24, 3) := by decide +kernel
theorem dX10_group_40 : decode cX10_group 40 = .ok (.iload 5, 2) := by decide +kernel
theorem dX10_group_42 : decode cX10_group 42 = .ok (.iconst 0, 1) := by decide +kernel
theorem dX10_group_43 : decode cX10_group 43 = .ok (.iconst 2, 1) := by decide +kernel
theorem dX10_group_44 : decode cX10_group 44 = .ok (.invokestatic 104, 3) := by decide +kernel
theorem dX10_group_47 : decode cX10_group 47 = .ok (.ifCond .eq 14, 3) := by decide +kernel
theorem dX10_group_50 : decode cX10_group 50 = .ok (.iload 6, 2) := by decide +kernel
theorem dX10_group_52 : decode cX10_group 52 = .ok (.iconst 0, 1) := by decide +kernel
theorem dX10_group_53 : decode cX10_group 53 = .ok (.bipush 6, 2) := by decide +kernel
theorem dX10_group_55 : decode cX10_group 55 = .ok (.invokestatic 104, 3) := by decide +kernel
theorem dX10_group_58 : decode cX10_group 58 = .ok (.ifCond .ne 6, 3) := by decide +kernel
theorem dX10_group_61 : decode cX10_group 61 = .ok (.bipush (-2), 2) := by decide +kernel
theorem dX10_group_63 : decode cX10_group 63 = .ok (.ireturn, 1) := by decide +kernel
theorem dX10_group_64 : decode cX10_group 64 = .ok (.aload_n 0, 1) := by decide +kernel
theorem dX10_group_65 : decode cX10_group 65 = .ok (.invokevirtual 152, 3) := by decide +kernel
theorem dX10_group_68 : decode cX10_group 68 = .ok (.ifCond .ne 6, 3) := by decide +kernel
theorem dX10_group_71 : decode cX10_group 71 = .ok (.bipush (-3), 2) := by decide +kernel
theorem dX10_group_73 : decode cX10_group 73 = .ok (.ireturn, 1) := by decide +kernel
theorem dX10_group_74 : decode cX10_group 74 = .ok (.aload_n 0, 1) := by decide +kernel
theorem dX10_group_75 : decode cX10_group 75 = .ok (.getfield 135, 3) := by decide +kernel
theorem dX10_group_78 : decode cX10_group 78 = .ok (.bipush 8, 2) := by decide +kernel
theorem dX10_group_80 : decode cX10_group 80 = .ok (.if_icmp .ne 6, 3) := by decide +kernel
theorem dX10_group_83 : decode cX10_group 83 = .ok (.bipush (-4), 2) := by decide +kernel
theorem dX10_group_85 : decode cX10_group 85 = .ok (.ireturn, 1) := by decide +kernel
theorem dX10_group_86 : decode cX10_group 86 = .ok (.aload_n 0, 1) := by decide +kernel
theorem dX10_group_87 : decode cX10_group 87 = .ok (.getfield 35, 3) := by decide +kernel
theorem dX10_group_90 : decode cX10_group 90 = .ok (.aload_n 0, 1) := by decide +kernel
theorem dX10_group_91 : decode cX10_group 91 = .ok (.getfield 135, 3) := by decide +kernel
theorem dX10_group_94 : decode cX10_group 94 = .ok (.iload_n 1, 1) := by decide +kernel
theorem dX10_group_95 : decode cX10_group 95 = .ok (.iastore, 1) := by decide +kernel
theorem dX10_group_96 : decode cX10_group 96 = .ok (.aload_n 0, 1) := by decide +kernel
theorem dX10_group_97 : decode cX10_group 97 = .ok (.getfield 38, 3) := by decide +kernel
theorem dX10_group_100 : decode cX10_group 100 = .ok (.aload_n 0, 1) := by decide +kernel
theorem dX10_group_101 : decode cX10_group 101 = .ok (.getfield 135, 3) := by decide +kernel
theorem dX10_group_104 : decode cX10_group 104 = .ok (.iload_n 2, 1) := by decide +kernel
theorem dX10_group_105 : decode cX10_group 105 = .ok (.iastore, 1) := by decide +kernel
theorem dX10_group_106 : decode cX10_group 106 = .ok (.aload_n 0, 1) := by decide +kernel
theorem dX10_group_107 : decode cX10_group 107 = .ok (.getfield 41, 3) := by decide +kernel
theorem dX10_group_110 : decode cX10_group 110 = .ok (.aload_n 0, 1) := by decide +kernel
theorem dX10_group_111 : decode cX10_group 111 = .ok (.getfield 135, 3) := by decide +kernel
theorem dX10_group_114 : decode cX10_group 114 = .ok (.iload_n 3, 1) := by decide +kernel
theorem dX10_group_115 : decode cX10_group 115 = .ok (.iastore, 1) := by decide +kernel
theorem dX10_group_116 : decode cX10_group 116 = .ok (.aload_n 0, 1) := by decide +kernel
theorem dX10_group_117 : decode cX10_group 117 = .ok (.getfield 44, 3) := by decide +kernel
theorem dX10_group_120 : decode cX10_group 120 = .ok (.aload_n 0, 1) := by decide +kernel
theorem dX10_group_121 : decode cX10_group 121 = .ok (.getfield 135, 3) := by decide +kernel
theorem dX10_group_124 : decode cX10_group 124 = .ok (.iload 4, 2) := by decide +kernel
theorem dX10_group_126 : decode cX10_group 126 = .ok (.iastore, 1) := by decide +kernel
theorem dX10_group_127 : decode cX10_group 127 = .ok (.aload_n 0, 1) := by decide +kernel
theorem dX10_group_128 : decode cX10_group 128 = .ok (.getfield 47, 3) := by decide +kernel
theorem dX10_group_131 : decode cX10_group 131 = .ok (.aload_n 0, 1) := by decide +kernel
theorem dX10_group_132 : decode cX10_group 132 = .ok (.getfield 135, 3) := by decide +kernel
theorem dX10_group_135 : decode cX10_group 135 = .ok (.iload 5, 2) := by decide +kernel
theorem dX10_group_137 : decode cX10_group 137 = .ok (.iastore, 1) := by decide +kernel
theorem dX10_group_138 : decode cX10_group 138 = .ok (.aload_n 0, 1) := by decide +kernel
theorem dX10_group_139 : decode cX10_group 139 = .ok (.getfield 50, 3) := by decide +kernel
theorem dX10_group_142 : decode cX10_group 142 = .ok (.aload_n 0, 1) := by decide +kernel
theorem dX10_group_143 : decode cX10_group 143 = .ok (.getfield 135, 3) := by decide +kernel
theorem dX10_group_146 : decode cX10_group 146 = .ok (.iload 6, 2) := by decide +kernel
theorem dX10_group_148 : decode cX10_group 148 = .ok (.iastore, 1) := by decide +kernel
theorem dX10_group_149 : decode cX10_group 149 = .ok (.aload_n 0, 1) := by decide +kernel
theorem dX10_group_150 : decode cX10_group 150 = .ok (.dup, 1) := by decide +kernel
theorem dX10_group_151 : decode cX10_group 151 = .ok (.getfield 135, 3) := by decide +kernel
theorem dX10_group_154 : decode cX10_group 154 = .ok (.iconst 1, 1) := by decide +kernel
theorem dX10_group_155 : decode cX10_group 155 = .ok (.iadd, 1) := by decide +kernel
theorem dX10_group_156 : decode cX10_group 156 = .ok (.putfield 135, 3) := by decide +kernel
theorem dX10_group_159 : decode cX10_group 159 = .ok (.aload_n 0, 1) := by decide +kernel
theorem dX10_group_160 : decode cX10_group 160 = .ok (.getfield 135, 3) := by decide +kernel
theorem dX10_group_163 : decode cX10_group 163 = .ok (.iconst 1, 1) := by decide +kernel
theorem dX10_group_164 : decode cX10_group 164 = .ok (.isub, 1) := by decide +kernel
theorem dX10_group_165 : decode cX10_group 165 = .ok (.ireturn, 1) := by decide +kernel
theorem dX10_stays_0 : decode cX10_stays 0 = .ok (.aload_n 0, 1) := by decide +kernel
theorem dX10_stays_1 : decode cX10_stays 1 = .ok (.getfield 35, 3) := by decide +kernel
theorem dX10_stays_4 : decode cX10_stays 4 = .ok (.iload_n 1, 1) := by decide +kernel
theorem dX10_stays_5 : decode cX10_stays 5 = .ok (.iaload, 1) := by decide +kernel
theorem dX10_stays_6 : decode cX10_stays 6 = .ok (.ifCond .le 14, 3) := by decide +kernel
theorem dX10_stays_9 : decode cX10_stays 9 = .ok (.iconst 2, 1) := by decide +kernel
theorem dX10_stays_10 : decode cX10_stays 10 = .ok (.aload_n 0, 1) := by decide +kernel
theorem dX10_stays_11 : decode cX10_stays 11 = .ok (.getfield 44, 3) := by decide +kernel
theorem dX10_stays_14 : decode cX10_stays 14 = .ok (.iload_n 1, 1) := by decide +kernel
theorem dX10_stays_15 : decode cX10_stays 15 = .ok (.iaload, 1) := by decide +kernel
theorem dX10_stays_16 : decode cX10_stays 16 = .ok (.imul, 1) := by decide +kernel
theorem dX10_stays_17 : decode cX10_stays 17 = .ok (.goto 9, 3) := by decide +kernel
theorem dX10_stays_20 : decode cX10_stays 20 = .ok (.aload_n 0, 1) := by decide +kernel
theorem dX10_stays_21 : decode cX10_stays 21 = .ok (.getfield 44, 3) := by decide +kernel
theorem dX10_stays_24 : decode cX10_stays 24 = .ok (.iload_n 1, 1) := by decide +kernel
theorem dX10_stays_25 : decode cX10_stays 25 = .ok (.iaload, 1) := by decide +kernel
theorem dX10_stays_26 : decode cX10_stays 26 = .ok (.ireturn, 1) := by decide +kernel
theorem dX10_ofGroup_0 : decode cX10_ofGroup 0 = .ok (.aload_n 0, 1) := by decide +kernel
theorem dX10_ofGroup_1 : decode cX10_ofGroup 1 = .ok (.iload_n 1, 1) := by decide +kernel
theorem dX10_ofGroup_2 : decode cX10_ofGroup 2 = .ok (.invokevirtual 156, 3) := by decide +kernel
theorem dX10_ofGroup_5 : decode cX10_ofGroup 5 = .ok (.ifCond .ne 5, 3) := by decide +kernel
theorem dX10_ofGroup_8 : decode cX10_ofGroup 8 = .ok (.iconst (-1), 1) := by decide +kernel
theorem dX10_ofGroup_9 : decode cX10_ofGroup 9 = .ok (.ireturn, 1) := by decide +kernel
theorem dX10_ofGroup_10 : decode cX10_ofGroup 10 = .ok (.iload_n 2, 1) := by decide +kernel
theorem dX10_ofGroup_11 : decode cX10_ofGroup 11 = .ok (.tableswitch 89 0 6 #[41, 48, 55, 62, 69, 76, 83], 41) := by decide +kernel
theorem dX10_ofGroup_52 : decode cX10_ofGroup 52 = .ok (.aload_n 0, 1) := by decide +kernel
theorem dX10_ofGroup_53 : decode cX10_ofGroup 53 = .ok (.getfield 35, 3) := by decide +kernel
theorem dX10_ofGroup_56 : decode cX10_ofGroup 56 = .ok (.iload_n 1, 1) := by decide +kernel
theorem dX10_ofGroup_57 : decode cX10_ofGroup 57 = .ok (.iaload, 1) := by decide +kernel
theorem dX10_ofGroup_58 : decode cX10_ofGroup 58 = .ok (.ireturn, 1) := by decide +kernel
theorem dX10_ofGroup_59 : decode cX10_ofGroup 59 = .ok (.aload_n 0, 1) := by decide +kernel
theorem dX10_ofGroup_60 : decode cX10_ofGroup 60 = .ok (.getfield 38, 3) := by decide +kernel
theorem dX10_ofGroup_63 : decode cX10_ofGroup 63 = .ok (.iload_n 1, 1) := by decide +kernel
theorem dX10_ofGroup_64 : decode cX10_ofGroup 64 = .ok (.iaload, 1) := by decide +kernel
theorem dX10_ofGroup_65 : decode cX10_ofGroup 65 = .ok (.ireturn, 1) := by decide +kernel
theorem dX10_ofGroup_66 : decode cX10_ofGroup 66 = .ok (.aload_n 0, 1) := by decide +kernel
theorem dX10_ofGroup_67 : decode cX10_ofGroup 67 = .ok (.getfield 41, 3) := by decide +kernel
theorem dX10_ofGroup_70 : decode cX10_ofGroup 70 = .ok (.iload_n 1, 1) := by decide +kernel
theorem dX10_ofGroup_71 : decode cX10_ofGroup 71 = .ok (.iaload, 1) := by decide +kernel
theorem dX10_ofGroup_72 : decode cX10_ofGroup 72 = .ok (.ireturn, 1) := by decide +kernel
theorem dX10_ofGroup_73 : decode cX10_ofGroup 73 = .ok (.aload_n 0, 1) := by decide +kernel
theorem dX10_ofGroup_74 : decode cX10_ofGroup 74 = .ok (.getfield 44, 3) := by decide +kernel
theorem dX10_ofGroup_77 : decode cX10_ofGroup 77 = .ok (.iload_n 1, 1) := by decide +kernel
theorem dX10_ofGroup_78 : decode cX10_ofGroup 78 = .ok (.iaload, 1) := by decide +kernel
theorem dX10_ofGroup_79 : decode cX10_ofGroup 79 = .ok (.ireturn, 1) := by decide +kernel
theorem dX10_ofGroup_80 : decode cX10_ofGroup 80 = .ok (.aload_n 0, 1) := by decide +kernel
theorem dX10_ofGroup_81 : decode cX10_ofGroup 81 = .ok (.getfield 47, 3) := by decide +kernel
theorem dX10_ofGroup_84 : decode cX10_ofGroup 84 = .ok (.iload_n 1, 1) := by decide +kernel
theorem dX10_ofGroup_85 : decode cX10_ofGroup 85 = .ok (.iaload, 1) := by decide +kernel
theorem dX10_ofGroup_86 : decode cX10_ofGroup 86 = .ok (.ireturn, 1) := by decide +kernel
theorem dX10_ofGroup_87 : decode cX10_ofGroup 87 = .ok (.aload_n 0, 1) := by decide +kernel
theorem dX10_ofGroup_88 : decode cX10_ofGroup 88 = .ok (.getfield 50, 3) := by decide +kernel
theorem dX10_ofGroup_91 : decode cX10_ofGroup 91 = .ok (.iload_n 1, 1) := by decide +kernel
theorem dX10_ofGroup_92 : decode cX10_ofGroup 92 = .ok (.iaload, 1) := by decide +kernel
theorem dX10_ofGroup_93 : decode cX10_ofGroup 93 = .ok (.ireturn, 1) := by decide +kernel
theorem dX10_ofGroup_94 : decode cX10_ofGroup 94 = .ok (.aload_n 0, 1) := by decide +kernel
theorem dX10_ofGroup_95 : decode cX10_ofGroup 95 = .ok (.iload_n 1, 1) := by decide +kernel
theorem dX10_ofGroup_96 : decode cX10_ofGroup 96 = .ok (.invokevirtual 159, 3) := by decide +kernel
theorem dX10_ofGroup_99 : decode cX10_ofGroup 99 = .ok (.ireturn, 1) := by decide +kernel
theorem dX10_ofGroup_100 : decode cX10_ofGroup 100 = .ok (.bipush (-2), 2) := by decide +kernel
theorem dX10_ofGroup_102 : decode cX10_ofGroup 102 = .ok (.ireturn, 1) := by decide +kernel
theorem dX10_coinOf_0 : decode cX10_coinOf 0 = .ok (.aload_n 0, 1) := by decide +kernel
theorem dX10_coinOf_1 : decode cX10_coinOf 1 = .ok (.getfield 38, 3) := by decide +kernel
theorem dX10_coinOf_4 : decode cX10_coinOf 4 = .ok (.iload_n 1, 1) := by decide +kernel
theorem dX10_coinOf_5 : decode cX10_coinOf 5 = .ok (.iaload, 1) := by decide +kernel
theorem dX10_coinOf_6 : decode cX10_coinOf 6 = .ok (.iconst 5, 1) := by decide +kernel
theorem dX10_coinOf_7 : decode cX10_coinOf 7 = .ok (.iload_n 2, 1) := by decide +kernel
theorem dX10_coinOf_8 : decode cX10_coinOf 8 = .ok (.aload_n 0, 1) := by decide +kernel
theorem dX10_coinOf_9 : decode cX10_coinOf 9 = .ok (.getfield 35, 3) := by decide +kernel
theorem dX10_coinOf_12 : decode cX10_coinOf 12 = .ok (.iload_n 1, 1) := by decide +kernel
theorem dX10_coinOf_13 : decode cX10_coinOf 13 = .ok (.iaload, 1) := by decide +kernel
theorem dX10_coinOf_14 : decode cX10_coinOf 14 = .ok (.ifCond .le 8, 3) := by decide +kernel
theorem dX10_coinOf_17 : decode cX10_coinOf 17 = .ok (.bipush 20, 2) := by decide +kernel
theorem dX10_coinOf_19 : decode cX10_coinOf 19 = .ok (.goto 5, 3) := by decide +kernel
theorem dX10_coinOf_22 : decode cX10_coinOf 22 = .ok (.bipush 10, 2) := by decide +kernel
theorem dX10_coinOf_24 : decode cX10_coinOf 24 = .ok (.idiv, 1) := by decide +kernel
theorem dX10_coinOf_25 : decode cX10_coinOf 25 = .ok (.iadd, 1) := by decide +kernel
theorem dX10_coinOf_26 : decode cX10_coinOf 26 = .ok (.imul, 1) := by decide +kernel
theorem dX10_coinOf_27 : decode cX10_coinOf 27 = .ok (.ireturn, 1) := by decide +kernel
theorem dX10_layNow_0 : decode cX10_layNow 0 = .ok (.aload_n 0, 1) := by decide +kernel
theorem dX10_layNow_1 : decode cX10_layNow 1 = .ok (.aload_n 0, 1) := by decide +kernel
theorem dX10_layNow_2 : decode cX10_layNow 2 = .ok (.getfield 108, 3) := by decide +kernel
theorem dX10_layNow_5 : decode cX10_layNow 5 = .ok (.putfield 162, 3) := by decide +kernel
theorem dX10_layNow_8 : decode cX10_layNow 8 = .ok (.iconst 0, 1) := by decide +kernel
theorem dX10_layNow_9 : decode cX10_layNow 9 = .ok (.istore_n 1, 1) := by decide +kernel
theorem dX10_layNow_10 : decode cX10_layNow 10 = .ok (.iload_n 1, 1) := by decide +kernel
theorem dX10_layNow_11 : decode cX10_layNow 11 = .ok (.aload_n 0, 1) := by decide +kernel
theorem dX10_layNow_12 : decode cX10_layNow 12 = .ok (.getfield 108, 3) := by decide +kernel
theorem dX10_layNow_15 : decode cX10_layNow 15 = .ok (.if_icmp .ge 33, 3) := by decide +kernel
theorem dX10_layNow_18 : decode cX10_layNow 18 = .ok (.aload_n 0, 1) := by decide +kernel
theorem dX10_layNow_19 : decode cX10_layNow 19 = .ok (.getfield 53, 3) := by decide +kernel
theorem dX10_layNow_22 : decode cX10_layNow 22 = .ok (.iload_n 1, 1) := by decide +kernel
theorem dX10_layNow_23 : decode cX10_layNow 23 = .ok (.aload_n 0, 1) := by decide +kernel
theorem dX10_layNow_24 : decode cX10_layNow 24 = .ok (.getfield 19, 3) := by decide +kernel
theorem dX10_layNow_27 : decode cX10_layNow 27 = .ok (.iload_n 1, 1) := by decide +kernel
theorem dX10_layNow_28 : decode cX10_layNow 28 = .ok (.iaload, 1) := by decide +kernel
theorem dX10_layNow_29 : decode cX10_layNow 29 = .ok (.iastore, 1) := by decide +kernel
theorem dX10_layNow_30 : decode cX10_layNow 30 = .ok (.aload_n 0, 1) := by decide +kernel
theorem dX10_layNow_31 : decode cX10_layNow 31 = .ok (.getfield 56, 3) := by decide +kernel
theorem dX10_layNow_34 : decode cX10_layNow 34 = .ok (.iload_n 1, 1) := by decide +kernel
theorem dX10_layNow_35 : decode cX10_layNow 35 = .ok (.aload_n 0, 1) := by decide +kernel
theorem dX10_layNow_36 : decode cX10_layNow 36 = .ok (.getfield 22, 3) := by decide +kernel
theorem dX10_layNow_39 : decode cX10_layNow 39 = .ok (.iload_n 1, 1) := by decide +kernel
theorem dX10_layNow_40 : decode cX10_layNow 40 = .ok (.iaload, 1) := by decide +kernel
theorem dX10_layNow_41 : decode cX10_layNow 41 = .ok (.iastore, 1) := by decide +kernel
theorem dX10_layNow_42 : decode cX10_layNow 42 = .ok (.iinc 1 1, 3) := by decide +kernel
theorem dX10_layNow_45 : decode cX10_layNow 45 = .ok (.goto (-35), 3) := by decide +kernel
theorem dX10_layNow_48 : decode cX10_layNow 48 = .ok (.aload_n 0, 1) := by decide +kernel
theorem dX10_layNow_49 : decode cX10_layNow 49 = .ok (.aload_n 0, 1) := by decide +kernel
theorem dX10_layNow_50 : decode cX10_layNow 50 = .ok (.getfield 138, 3) := by decide +kernel
theorem dX10_layNow_53 : decode cX10_layNow 53 = .ok (.putfield 165, 3) := by decide +kernel
theorem dX10_layNow_56 : decode cX10_layNow 56 = .ok (.aload_n 0, 1) := by decide +kernel
theorem dX10_layNow_57 : decode cX10_layNow 57 = .ok (.aload_n 0, 1) := by decide +kernel
theorem dX10_layNow_58 : decode cX10_layNow 58 = .ok (.getfield 141, 3) := by decide +kernel
theorem dX10_layNow_61 : decode cX10_layNow 61 = .ok (.putfield 168, 3) := by decide +kernel
theorem dX10_layNow_64 : decode cX10_layNow 64 = .ok (.aload_n 0, 1) := by decide +kernel
theorem dX10_layNow_65 : decode cX10_layNow 65 = .ok (.aload_n 0, 1) := by decide +kernel
theorem dX10_layNow_66 : decode cX10_layNow 66 = .ok (.getfield 25, 3) := by decide +kernel
theorem dX10_layNow_69 : decode cX10_layNow 69 = .ok (.putfield 171, 3) := by decide +kernel
theorem dX10_layNow_72 : decode cX10_layNow 72 = .ok (.aload_n 0, 1) := by decide +kernel
theorem dX10_layNow_73 : decode cX10_layNow 73 = .ok (.bipush (-9), 2) := by decide +kernel
theorem dX10_layNow_75 : decode cX10_layNow 75 = .ok (.putfield 174, 3) := by decide +kernel
theorem dX10_layNow_78 : decode cX10_layNow 78 = .ok (.return_, 1) := by decide +kernel
theorem dX10_goDay_0 : decode cX10_goDay 0 = .ok (.iconst 0, 1) := by decide +kernel
theorem dX10_goDay_1 : decode cX10_goDay 1 = .ok (.istore_n 1, 1) := by decide +kernel
theorem dX10_goDay_2 : decode cX10_goDay 2 = .ok (.iload_n 1, 1) := by decide +kernel
theorem dX10_goDay_3 : decode cX10_goDay 3 = .ok (.bipush 6, 2) := by decide +kernel
theorem dX10_goDay_5 : decode cX10_goDay 5 = .ok (.if_icmp .ge 24, 3) := by decide +kernel
theorem dX10_goDay_8 : decode cX10_goDay 8 = .ok (.aload_n 0, 1) := by decide +kernel
theorem dX10_goDay_9 : decode cX10_goDay 9 = .ok (.getfield 59, 3) := by decide +kernel
theorem dX10_goDay_12 : decode cX10_goDay 12 = .ok (.iload_n 1, 1) := by decide +kernel
theorem dX10_goDay_13 : decode cX10_goDay 13 = .ok (.bipush (-9), 2) := by decide +kernel
theorem dX10_goDay_15 : decode cX10_goDay 15 = .ok (.iastore, 1) := by decide +kernel
theorem dX10_goDay_16 : decode cX10_goDay 16 = .ok (.aload_n 0, 1) := by decide +kernel
theorem dX10_goDay_17 : decode cX10_goDay 17 = .ok (.getfield 62, 3) := by decide +kernel
theorem dX10_goDay_20 : decode cX10_goDay 20 = .ok (.iload_n 1, 1) := by decide +kernel
theorem dX10_goDay_21 : decode cX10_goDay 21 = .ok (.iconst 0, 1) := by decide +kernel
theorem dX10_goDay_22 : decode cX10_goDay 22 = .ok (.bastore, 1) := by decide +kernel
theorem dX10_goDay_23 : decode cX10_goDay 23 = .ok (.iinc 1 1, 3) := by decide +kernel
theorem dX10_goDay_26 : decode cX10_goDay 26 = .ok (.goto (-24), 3) := by decide +kernel
theorem dX10_goDay_29 : decode cX10_goDay 29 = .ok (.iconst 0, 1) := by decide +kernel
theorem dX10_goDay_30 : decode cX10_goDay 30 = .ok (.istore_n 1, 1) := by decide +kernel
theorem dX10_goDay_31 : decode cX10_goDay 31 = .ok (.iload_n 1, 1) := by decide +kernel
theorem dX10_goDay_32 : decode cX10_goDay 32 = .ok (.bipush 8, 2) := by decide +kernel
theorem dX10_goDay_34 : decode cX10_goDay 34 = .ok (.if_icmp .ge 54, 3) := by decide +kernel
theorem dX10_goDay_37 : decode cX10_goDay 37 = .ok (.aload_n 0, 1) := by decide +kernel
theorem dX10_goDay_38 : decode cX10_goDay 38 = .ok (.getfield 66, 3) := by decide +kernel
theorem dX10_goDay_41 : decode cX10_goDay 41 = .ok (.iload_n 1, 1) := by decide +kernel
theorem dX10_goDay_42 : decode cX10_goDay 42 = .ok (.iconst 0, 1) := by decide +kernel
theorem dX10_goDay_43 : decode cX10_goDay 43 = .ok (.iastore, 1) := by decide +kernel
theorem dX10_goDay_44 : decode cX10_goDay 44 = .ok (.aload_n 0, 1) := by decide +kernel
theorem dX10_goDay_45 : decode cX10_goDay 45 = .ok (.getfield 69, 3) := by decide +kernel
theorem dX10_goDay_48 : decode cX10_goDay 48 = .ok (.iload_n 1, 1) := by decide +kernel
theorem dX10_goDay_49 : decode cX10_goDay 49 = .ok (.bipush (-9), 2) := by decide +kernel
theorem dX10_goDay_51 : decode cX10_goDay 51 = .ok (.iastore, 1) := by decide +kernel
theorem dX10_goDay_52 : decode cX10_goDay 52 = .ok (.aload_n 0, 1) := by decide +kernel
theorem dX10_goDay_53 : decode cX10_goDay 53 = .ok (.getfield 72, 3) := by decide +kernel
theorem dX10_goDay_56 : decode cX10_goDay 56 = .ok (.iload_n 1, 1) := by decide +kernel
theorem dX10_goDay_57 : decode cX10_goDay 57 = .ok (.bipush (-9), 2) := by decide +kernel
theorem dX10_goDay_59 : decode cX10_goDay 59 = .ok (.iastore, 1) := by decide +kernel
theorem dX10_goDay_60 : decode cX10_goDay 60 = .ok (.aload_n 0, 1) := by decide +kernel
theorem dX10_goDay_61 : decode cX10_goDay 61 = .ok (.getfield 75, 3) := by decide +kernel
theorem dX10_goDay_64 : decode cX10_goDay 64 = .ok (.iload_n 1, 1) := by decide +kernel
theorem dX10_goDay_65 : decode cX10_goDay 65 = .ok (.bipush (-9), 2) := by decide +kernel
theorem dX10_goDay_67 : decode cX10_goDay 67 = .ok (.iastore, 1) := by decide +kernel
theorem dX10_goDay_68 : decode cX10_goDay 68 = .ok (.aload_n 0, 1) := by decide +kernel
theorem dX10_goDay_69 : decode cX10_goDay 69 = .ok (.getfield 78, 3) := by decide +kernel
theorem dX10_goDay_72 : decode cX10_goDay 72 = .ok (.iload_n 1, 1) := by decide +kernel
theorem dX10_goDay_73 : decode cX10_goDay 73 = .ok (.iconst 0, 1) := by decide +kernel
theorem dX10_goDay_74 : decode cX10_goDay 74 = .ok (.iastore, 1) := by decide +kernel
theorem dX10_goDay_75 : decode cX10_goDay 75 = .ok (.aload_n 0, 1) := by decide +kernel
theorem dX10_goDay_76 : decode cX10_goDay 76 = .ok (.getfield 81, 3) := by decide +kernel
theorem dX10_goDay_79 : decode cX10_goDay 79 = .ok (.iload_n 1, 1) := by decide +kernel
theorem dX10_goDay_80 : decode cX10_goDay 80 = .ok (.iconst 0, 1) := by decide +kernel
theorem dX10_goDay_81 : decode cX10_goDay 81 = .ok (.iastore, 1) := by decide +kernel
theorem dX10_goDay_82 : decode cX10_goDay 82 = .ok (.iinc 1 1, 3) := by decide +kernel
theorem dX10_goDay_85 : decode cX10_goDay 85 = .ok (.goto (-54), 3) := by decide +kernel
theorem dX10_goDay_88 : decode cX10_goDay 88 = .ok (.iconst 0, 1) := by decide +kernel
theorem dX10_goDay_89 : decode cX10_goDay 89 = .ok (.istore_n 1, 1) := by decide +kernel
theorem dX10_goDay_90 : decode cX10_goDay 90 = .ok (.iload_n 1, 1) := by decide +kernel
theorem dX10_goDay_91 : decode cX10_goDay 91 = .ok (.sipush 400, 3) := by decide +kernel
theorem dX10_goDay_94 : decode cX10_goDay 94 = .ok (.if_icmp .ge 36, 3) := by decide +kernel
theorem dX10_goDay_97 : decode cX10_goDay 97 = .ok (.aload_n 0, 1) := by decide +kernel
theorem dX10_goDay_98 : decode cX10_goDay 98 = .ok (.iload_n 1, 1) := by decide +kernel
theorem dX10_goDay_99 : decode cX10_goDay 99 = .ok (.invokevirtual 177, 3) := by decide +kernel
theorem dX10_goDay_102 : decode cX10_goDay 102 = .ok (.aload_n 0, 1) := by decide +kernel
theorem dX10_goDay_103 : decode cX10_goDay 103 = .ok (.getfield 84, 3) := by decide +kernel
theorem dX10_goDay_106 : decode cX10_goDay 106 = .ok (.iload_n 1, 1) := by decide +kernel
theorem dX10_goDay_107 : decode cX10_goDay 107 = .ok (.aload_n 0, 1) := by decide +kernel
theorem dX10_goDay_108 : decode cX10_goDay 108 = .ok (.invokevirtual 181, 3) := by decide +kernel
theorem dX10_goDay_111 : decode cX10_goDay 111 = .ok (.iastore, 1) := by decide +kernel
theorem dX10_goDay_112 : decode cX10_goDay 112 = .ok (.aload_n 0, 1) := by decide +kernel
theorem dX10_goDay_113 : decode cX10_goDay 113 = .ok (.getfield 87, 3) := by decide +kernel
theorem dX10_goDay_116 : decode cX10_goDay 116 = .ok (.iload_n 1, 1) := by decide +kernel
theorem dX10_goDay_117 : decode cX10_goDay 117 = .ok (.aload_n 0, 1) := by decide +kernel
theorem dX10_goDay_118 : decode cX10_goDay 118 = .ok (.bipush (-9), 2) := by decide +kernel
theorem dX10_goDay_120 : decode cX10_goDay 120 = .ok (.invokevirtual 185, 3) := by decide +kernel
theorem dX10_goDay_123 : decode cX10_goDay 123 = .ok (.iastore, 1) := by decide +kernel
theorem dX10_goDay_124 : decode cX10_goDay 124 = .ok (.iinc 1 1, 3) := by decide +kernel
theorem dX10_goDay_127 : decode cX10_goDay 127 = .ok (.goto (-37), 3) := by decide +kernel
theorem dX10_goDay_130 : decode cX10_goDay 130 = .ok (.return_, 1) := by decide +kernel
theorem dX10_manyTaken_0 : decode cX10_manyTaken 0 = .ok (.iconst 0, 1) := by decide +kernel
theorem dX10_manyTaken_1 : decode cX10_manyTaken 1 = .ok (.istore_n 1, 1) := by decide +kernel
theorem dX10_manyTaken_2 : decode cX10_manyTaken 2 = .ok (.iconst 0, 1) := by decide +kernel
theorem dX10_manyTaken_3 : decode cX10_manyTaken 3 = .ok (.istore_n 2, 1) := by decide +kernel
theorem dX10_manyTaken_4 : decode cX10_manyTaken 4 = .ok (.iload_n 2, 1) := by decide +kernel
theorem dX10_manyTaken_5 : decode cX10_manyTaken 5 = .ok (.aload_n 0, 1) := by decide +kernel
theorem dX10_manyTaken_6 : decode cX10_manyTaken 6 = .ok (.getfield 162, 3) := by decide +kernel
theorem dX10_manyTaken_9 : decode cX10_manyTaken 9 = .ok (.if_icmp .ge 28, 3) := by decide +kernel
theorem dX10_manyTaken_12 : decode cX10_manyTaken 12 = .ok (.iload_n 1, 1) := by decide +kernel
theorem dX10_manyTaken_13 : decode cX10_manyTaken 13 = .ok (.aload_n 0, 1) := by decide +kernel
theorem dX10_manyTaken_14 : decode cX10_manyTaken 14 = .ok (.getfield 59, 3) := by decide +kernel
theorem dX10_manyTaken_17 : decode cX10_manyTaken 17 = .ok (.iload_n 2, 1) := by decide +kernel
theorem dX10_manyTaken_18 : decode cX10_manyTaken 18 = .ok (.iaload, 1) := by decide +kernel
theorem dX10_manyTaken_19 : decode cX10_manyTaken 19 = .ok (.bipush (-9), 2) := by decide +kernel
theorem dX10_manyTaken_21 : decode cX10_manyTaken 21 = .ok (.if_icmp .ne 7, 3) := by decide +kernel
theorem dX10_manyTaken_24 : decode cX10_manyTaken 24 = .ok (.iconst 0, 1) := by decide +kernel
theorem dX10_manyTaken_25 : decode cX10_manyTaken 25 = .ok (.goto 4, 3) := by decide +kernel
theorem dX10_manyTaken_28 : decode cX10_manyTaken 28 = .ok (.iconst 1, 1) := by decide +kernel
theorem dX10_manyTaken_29 : decode cX10_manyTaken 29 = .ok (.iadd, 1) := by decide +kernel
theorem dX10_manyTaken_30 : decode cX10_manyTaken 30 = .ok (.istore_n 1, 1) := by decide +kernel
theorem dX10_manyTaken_31 : decode cX10_manyTaken 31 = .ok (.iinc 2 1, 3) := by decide +kernel
theorem dX10_manyTaken_34 : decode cX10_manyTaken 34 = .ok (.goto (-30), 3) := by decide +kernel
theorem dX10_manyTaken_37 : decode cX10_manyTaken 37 = .ok (.iload_n 1, 1) := by decide +kernel
theorem dX10_manyTaken_38 : decode cX10_manyTaken 38 = .ok (.ireturn, 1) := by decide +kernel
theorem dX10_manyWait_0 : decode cX10_manyWait 0 = .ok (.iconst 0, 1) := by decide +kernel
theorem dX10_manyWait_1 : decode cX10_manyWait 1 = .ok (.istore_n 2, 1) := by decide +kernel
theorem dX10_manyWait_2 : decode cX10_manyWait 2 = .ok (.iconst 0, 1) := by decide +kernel
theorem dX10_manyWait_3 : decode cX10_manyWait 3 = .ok (.istore_n 3, 1) := by decide +kernel
theorem dX10_manyWait_4 : decode cX10_manyWait 4 = .ok (.iload_n 3, 1) := by decide +kernel
theorem dX10_manyWait_5 : decode cX10_manyWait 5 = .ok (.aload_n 0, 1) := by decide +kernel
theorem dX10_manyWait_6 : decode cX10_manyWait 6 = .ok (.getfield 135, 3) := by decide +kernel
theorem dX10_manyWait_9 : decode cX10_manyWait 9 = .ok (.if_icmp .ge 32, 3) := by decide +kernel
theorem dX10_manyWait_12 : decode cX10_manyWait 12 = .ok (.iload_n 2, 1) := by decide +kernel
theorem dX10_manyWait_13 : decode cX10_manyWait 13 = .ok (.iload_n 3, 1) := by decide +kernel
theorem dX10_manyWait_14 : decode cX10_manyWait 14 = .ok (.iload_n 1, 1) := by decide +kernel
theorem dX10_manyWait_15 : decode cX10_manyWait 15 = .ok (.if_icmp .eq 17, 3) := by decide +kernel
theorem dX10_manyWait_18 : decode cX10_manyWait 18 = .ok (.aload_n 0, 1) := by decide +kernel
theorem dX10_manyWait_19 : decode cX10_manyWait 19 = .ok (.getfield 66, 3) := by decide +kernel
theorem dX10_manyWait_22 : decode cX10_manyWait 22 = .ok (.iload_n 3, 1) := by decide +kernel
theorem dX10_manyWait_23 : decode cX10_manyWait 23 = .ok (.iaload, 1) := by decide +kernel
theorem dX10_manyWait_24 : decode cX10_manyWait 24 = .ok (.iconst 2, 1) := by decide +kernel
theorem dX10_manyWait_25 : decode cX10_manyWait 25 = .ok (.if_icmp .ne 7, 3) := by decide +kernel
theorem dX10_manyWait_28 : decode cX10_manyWait 28 = .ok (.iconst 1, 1) := by decide +kernel
theorem dX10_manyWait_29 : decode cX10_manyWait 29 = .ok (.goto 4, 3) := by decide +kernel
theorem dX10_manyWait_32 : decode cX10_manyWait 32 = .ok (.iconst 0, 1) := by decide +kernel
theorem dX10_manyWait_33 : decode cX10_manyWait 33 = .ok (.iadd, 1) := by decide +kernel
theorem dX10_manyWait_34 : decode cX10_manyWait 34 = .ok (.istore_n 2, 1) := by decide +kernel
theorem dX10_manyWait_35 : decode cX10_manyWait 35 = .ok (.iinc 3 1, 3) := by decide +kernel
theorem dX10_manyWait_38 : decode cX10_manyWait 38 = .ok (.goto (-34), 3) := by decide +kernel
theorem dX10_manyWait_41 : decode cX10_manyWait 41 = .ok (.iload_n 2, 1) := by decide +kernel
theorem dX10_manyWait_42 : decode cX10_manyWait 42 = .ok (.ireturn, 1) := by decide +kernel
theorem dX10_goMinute_0 : decode cX10_goMinute 0 = .ok (.iconst 0, 1) := by decide +kernel
theorem dX10_goMinute_1 : decode cX10_goMinute 1 = .ok (.istore_n 2, 1) := by decide +kernel
theorem dX10_goMinute_2 : decode cX10_goMinute 2 = .ok (.iload_n 2, 1) := by decide +kernel
theorem dX10_goMinute_3 : decode cX10_goMinute 3 = .ok (.aload_n 0, 1) := by decide +kernel
theorem dX10_goMinute_4 : decode cX10_goMinute 4 = .ok (.getfield 135, 3) := by decide +kernel
theorem dX10_goMinute_7 : decode cX10_goMinute 7 = .ok (.if_icmp .ge 40, 3) := by decide +kernel
theorem dX10_goMinute_10 : decode cX10_goMinute 10 = .ok (.aload_n 0, 1) := by decide +kernel
theorem dX10_goMinute_11 : decode cX10_goMinute 11 = .ok (.getfield 66, 3) := by decide +kernel
theorem dX10_goMinute_14 : decode cX10_goMinute 14 = .ok (.iload_n 2, 1) := by decide +kernel
theorem dX10_goMinute_15 : decode cX10_goMinute 15 = .ok (.iaload, 1) := by decide +kernel
theorem dX10_goMinute_16 : decode cX10_goMinute 16 = .ok (.iconst 1, 1) := by decide +kernel
theorem dX10_goMinute_17 : decode cX10_goMinute 17 = .ok (.if_icmp .ne 24, 3) := by decide +kernel
theorem dX10_goMinute_20 : decode cX10_goMinute 20 = .ok (.aload_n 0, 1) := by decide +kernel
theorem dX10_goMinute_21 : decode cX10_goMinute 21 = .ok (.getfield 75, 3) := by decide +kernel
theorem dX10_goMinute_24 : decode cX10_goMinute 24 = .ok (.iload_n 2, 1) := by decide +kernel
theorem dX10_goMinute_25 : decode cX10_goMinute 25 = .ok (.iaload, 1) := by decide +kernel
theorem dX10_goMinute_26 : decode cX10_goMinute 26 = .ok (.iload_n 1, 1) := by decide +kernel
theorem dX10_goMinute_27 : decode cX10_goMinute 27 = .ok (.if_icmp .gt 14, 3) := by decide +kernel
theorem dX10_goMinute_30 : decode cX10_goMinute 30 = .ok (.aload_n 0, 1) := by decide +kernel
theorem dX10_goMinute_31 : decode cX10_goMinute 31 = .ok (.iload_n 2, 1) := by decide +kernel
theorem dX10_goMinute_32 : decode cX10_goMinute 32 = .ok (.invokevirtual 188, 3) := by decide +kernel
theorem dX10_goMinute_35 : decode cX10_goMinute 35 = .ok (.aload_n 0, 1) := by decide +kernel
theorem dX10_goMinute_36 : decode cX10_goMinute 36 = .ok (.iload_n 2, 1) := by decide +kernel
theorem dX10_goMinute_37 : decode cX10_goMinute 37 = .ok (.iload_n 1, 1) := by decide +kernel
theorem dX10_goMinute_38 : decode cX10_goMinute 38 = .ok (.invokevirtual 191, 3) := by decide +kernel
theorem dX10_goMinute_41 : decode cX10_goMinute 41 = .ok (.iinc 2 1, 3) := by decide +kernel
theorem dX10_goMinute_44 : decode cX10_goMinute 44 = .ok (.goto (-42), 3) := by decide +kernel
theorem dX10_goMinute_47 : decode cX10_goMinute 47 = .ok (.iload_n 1, 1) := by decide +kernel
theorem dX10_goMinute_48 : decode cX10_goMinute 48 = .ok (.aload_n 0, 1) := by decide +kernel
theorem dX10_goMinute_49 : decode cX10_goMinute 49 = .ok (.getfield 171, 3) := by decide +kernel
theorem dX10_goMinute_52 : decode cX10_goMinute 52 = .ok (.if_icmp .ne 8, 3) := by decide +kernel
theorem dX10_goMinute_55 : decode cX10_goMinute 55 = .ok (.aload_n 0, 1) := by decide +kernel
theorem dX10_goMinute_56 : decode cX10_goMinute 56 = .ok (.iload_n 1, 1) := by decide +kernel
theorem dX10_goMinute_57 : decode cX10_goMinute 57 = .ok (.invokevirtual 195, 3) := by decide +kernel
theorem dX10_goMinute_60 : decode cX10_goMinute 60 = .ok (.aload_n 0, 1) := by decide +kernel
theorem dX10_goMinute_61 : decode cX10_goMinute 61 = .ok (.iload_n 1, 1) := by decide +kernel
theorem dX10_goMinute_62 : decode cX10_goMinute 62 = .ok (.invokevirtual 198, 3) := by decide +kernel
theorem dX10_goMinute_65 : decode cX10_goMinute 65 = .ok (.iconst 0, 1) := by decide +kernel
theorem dX10_goMinute_66 : decode cX10_goMinute 66 = .ok (.istore_n 2, 1) := by decide +kernel
theorem dX10_goMinute_67 : decode cX10_goMinute 67 = .ok (.iload_n 2, 1) := by decide +kernel
theorem dX10_goMinute_68 : decode cX10_goMinute 68 = .ok (.aload_n 0, 1) := by decide +kernel
theorem dX10_goMinute_69 : decode cX10_goMinute 69 = .ok (.getfield 135, 3) := by decide +kernel
theorem dX10_goMinute_72 : decode cX10_goMinute 72 = .ok (.if_icmp .ge 33, 3) := by decide +kernel
theorem dX10_goMinute_75 : decode cX10_goMinute 75 = .ok (.aload_n 0, 1) := by decide +kernel
theorem dX10_goMinute_76 : decode cX10_goMinute 76 = .ok (.getfield 41, 3) := by decide +kernel
theorem dX10_goMinute_79 : decode cX10_goMinute 79 = .ok (.iload_n 2, 1) := by decide +kernel
theorem dX10_goMinute_80 : decode cX10_goMinute 80 = .ok (.iaload, 1) := by decide +kernel
theorem dX10_goMinute_81 : decode cX10_goMinute 81 = .ok (.iload_n 1, 1) := by decide +kernel
theorem dX10_goMinute_82 : decode cX10_goMinute 82 = .ok (.if_icmp .ne 17, 3) := by decide +kernel
theorem dX10_goMinute_85 : decode cX10_goMinute 85 = .ok (.iload_n 2, 1) := by decide +kernel
theorem dX10_goMinute_86 : decode cX10_goMinute 86 = .ok (.aload_n 0, 1) := by decide +kernel
theorem dX10_goMinute_87 : decode cX10_goMinute 87 = .ok (.getfield 174, 3) := by decide +kernel
theorem dX10_goMinute_90 : decode cX10_goMinute 90 = .ok (.if_icmp .eq 9, 3) := by decide +kernel
theorem dX10_goMinute_93 : decode cX10_goMinute 93 = .ok (.aload_n 0, 1) := by decide +kernel
theorem dX10_goMinute_94 : decode cX10_goMinute 94 = .ok (.iload_n 2, 1) := by decide +kernel
theorem dX10_goMinute_95 : decode cX10_goMinute 95 = .ok (.iload_n 1, 1) := by decide +kernel
theorem dX10_goMinute_96 : decode cX10_goMinute 96 = .ok (.invokevirtual 201, 3) := by decide +kernel
theorem dX10_goMinute_99 : decode cX10_goMinute 99 = .ok (.iinc 2 1, 3) := by decide +kernel
theorem dX10_goMinute_102 : decode cX10_goMinute 102 = .ok (.goto (-35), 3) := by decide +kernel
theorem dX10_goMinute_105 : decode cX10_goMinute 105 = .ok (.return_, 1) := by decide +kernel
theorem dX10_goes_0 : decode cX10_goes 0 = .ok (.aload_n 0, 1) := by decide +kernel
theorem dX10_goes_1 : decode cX10_goes 1 = .ok (.getfield 66, 3) := by decide +kernel
theorem dX10_goes_4 : decode cX10_goes 4 = .ok (.iload_n 1, 1) := by decide +kernel
theorem dX10_goes_5 : decode cX10_goes 5 = .ok (.iconst 5, 1) := by decide +kernel
theorem dX10_goes_6 : decode cX10_goes 6 = .ok (.iastore, 1) := by decide +kernel
theorem dX10_goes_7 : decode cX10_goes 7 = .ok (.aload_n 0, 1) := by decide +kernel
theorem dX10_goes_8 : decode cX10_goes 8 = .ok (.getfield 78, 3) := by decide +kernel
theorem dX10_goes_11 : decode cX10_goes 11 = .ok (.iload_n 1, 1) := by decide +kernel
theorem dX10_goes_12 : decode cX10_goes 12 = .ok (.aload_n 0, 1) := by decide +kernel
theorem dX10_goes_13 : decode cX10_goes 13 = .ok (.iload_n 1, 1) := by decide +kernel
theorem dX10_goes_14 : decode cX10_goes 14 = .ok (.iload_n 2, 1) := by decide +kernel
theorem dX10_goes_15 : decode cX10_goes 15 = .ok (.aload_n 0, 1) := by decide +kernel
theorem dX10_goes_16 : decode cX10_goes 16 = .ok (.getfield 72, 3) := by decide +kernel
theorem dX10_goes_19 : decode cX10_goes 19 = .ok (.iload_n 1, 1) := by decide +kernel
theorem dX10_goes_20 : decode cX10_goes 20 = .ok (.iaload, 1) := by decide +kernel
theorem dX10_goes_21 : decode cX10_goes 21 = .ok (.isub, 1) := by decide +kernel
theorem dX10_goes_22 : decode cX10_goes 22 = .ok (.invokevirtual 204, 3) := by decide +kernel
theorem dX10_goes_25 : decode cX10_goes 25 = .ok (.iastore, 1) := by decide +kernel
theorem dX10_goes_26 : decode cX10_goes 26 = .ok (.return_, 1) := by decide +kernel
theorem dX10_getsUp_0 : decode cX10_getsUp 0 = .ok (.iconst 0, 1) := by decide +kernel
theorem dX10_getsUp_1 : decode cX10_getsUp 1 = .ok (.istore_n 2, 1) := by decide +kernel
theorem dX10_getsUp_2 : decode cX10_getsUp 2 = .ok (.iload_n 2, 1) := by decide +kernel
theorem dX10_getsUp_3 : decode cX10_getsUp 3 = .ok (.aload_n 0, 1) := by decide +kernel
theorem dX10_getsUp_4 : decode cX10_getsUp 4 = .ok (.getfield 162, 3) := by decide +kernel
theorem dX10_getsUp_7 : decode cX10_getsUp 7 = .ok (.if_icmp .ge 27, 3) := by decide +kernel
theorem dX10_getsUp_10 : decode cX10_getsUp 10 = .ok (.aload_n 0, 1) := by decide +kernel
theorem dX10_getsUp_11 : decode cX10_getsUp 11 = .ok (.getfield 59, 3) := by decide +kernel
theorem dX10_getsUp_14 : decode cX10_getsUp 14 = .ok (.iload_n 2, 1) := by decide +kernel
theorem dX10_getsUp_15 : decode cX10_getsUp 15 = .ok (.iaload, 1) := by decide +kernel
theorem dX10_getsUp_16 : decode cX10_getsUp 16 = .ok (.iload_n 1, 1) := by decide +kernel
theorem dX10_getsUp_17 : decode cX10_getsUp 17 = .ok (.if_icmp .ne 11, 3) := by decide +kernel
theorem dX10_getsUp_20 : decode cX10_getsUp 20 = .ok (.aload_n 0, 1) := by decide +kernel
theorem dX10_getsUp_21 : decode cX10_getsUp 21 = .ok (.getfield 59, 3) := by decide +kernel
theorem dX10_getsUp_24 : decode cX10_getsUp 24 = .ok (.iload_n 2, 1) := by decide +kernel
theorem dX10_getsUp_25 : decode cX10_getsUp 25 = .ok (.bipush (-9), 2) := by decide +kernel
theorem dX10_getsUp_27 : decode cX10_getsUp 27 = .ok (.iastore, 1) := by decide +kernel
theorem dX10_getsUp_28 : decode cX10_getsUp 28 = .ok (.iinc 2 1, 3) := by decide +kernel
theorem dX10_getsUp_31 : decode cX10_getsUp 31 = .ok (.goto (-29), 3) := by decide +kernel
theorem dX10_getsUp_34 : decode cX10_getsUp 34 = .ok (.return_, 1) := by decide +kernel
theorem dX10_isInSun_0 : decode cX10_isInSun 0 = .ok (.iconst 0, 1) := by decide +kernel
theorem dX10_isInSun_1 : decode cX10_isInSun 1 = .ok (.istore_n 2, 1) := by decide +kernel
theorem dX10_isInSun_2 : decode cX10_isInSun 2 = .ok (.iconst 0, 1) := by decide +kernel
theorem dX10_isInSun_3 : decode cX10_isInSun 3 = .ok (.istore_n 3, 1) := by decide +kernel
theorem dX10_isInSun_4 : decode cX10_isInSun 4 = .ok (.iload_n 3, 1) := by decide +kernel
theorem dX10_isInSun_5 : decode cX10_isInSun 5 = .ok (.aload_n 0, 1) := by decide +kernel
theorem dX10_isInSun_6 : decode cX10_isInSun 6 = .ok (.getfield 162, 3) := by decide +kernel
theorem dX10_isInSun_9 : decode cX10_isInSun 9 = .ok (.if_icmp .ge 38, 3) := by decide +kernel
theorem dX10_isInSun_12 : decode cX10_isInSun 12 = .ok (.iload_n 2, 1) := by decide +kernel
theorem dX10_isInSun_13 : decode cX10_isInSun 13 = .ok (.ifCond .ne 22, 3) := by decide +kernel
theorem dX10_isInSun_16 : decode cX10_isInSun 16 = .ok (.aload_n 0, 1) := by decide +kernel
theorem dX10_isInSun_17 : decode cX10_isInSun 17 = .ok (.getfield 59, 3) := by decide +kernel
theorem dX10_isInSun_20 : decode cX10_isInSun 20 = .ok (.iload_n 3, 1) := by decide +kernel
theorem dX10_isInSun_21 : decode cX10_isInSun 21 = .ok (.iaload, 1) := by decide +kernel
theorem dX10_isInSun_22 : decode cX10_isInSun 22 = .ok (.iload_n 1, 1) := by decide +kernel
theorem dX10_isInSun_23 : decode cX10_isInSun 23 = .ok (.if_icmp .ne 16, 3) := by decide +kernel
theorem dX10_isInSun_26 : decode cX10_isInSun 26 = .ok (.aload_n 0, 1) := by decide +kernel
theorem dX10_isInSun_27 : decode cX10_isInSun 27 = .ok (.getfield 53, 3) := by decide +kernel
theorem dX10_isInSun_30 : decode cX10_isInSun 30 = .ok (.iload_n 3, 1) := by decide +kernel
theorem dX10_isInSun_31 : decode cX10_isInSun 31 = .ok (.iaload, 1) := by decide +kernel
theorem dX10_isInSun_32 : decode cX10_isInSun 32 = .ok (.ifCond .ne 7, 3) := by decide +kernel
theorem dX10_isInSun_35 : decode cX10_isInSun 35 = .ok (.iconst 1, 1) := by decide +kernel
theorem dX10_isInSun_36 : decode cX10_isInSun 36 = .ok (.goto 4, 3) := by decide +kernel
theorem dX10_isInSun_39 : decode cX10_isInSun 39 = .ok (.iconst 0, 1) := by decide +kernel
theorem dX10_isInSun_40 : decode cX10_isInSun 40 = .ok (.istore_n 2, 1) := by decide +kernel
theorem dX10_isInSun_41 : decode cX10_isInSun 41 = .ok (.iinc 3 1, 3) := by decide +kernel
theorem dX10_isInSun_44 : decode cX10_isInSun 44 = .ok (.goto (-40), 3) := by decide +kernel
theorem dX10_isInSun_47 : decode cX10_isInSun 47 = .ok (.iload_n 2, 1) := by decide +kernel
theorem dX10_isInSun_48 : decode cX10_isInSun 48 = .ok (.ireturn, 1) := by decide +kernel
theorem dX10_rainsOn_0 : decode cX10_rainsOn 0 = .ok (.iconst 0, 1) := by decide +kernel
theorem dX10_rainsOn_1 : decode cX10_rainsOn 1 = .ok (.istore_n 2, 1) := by decide +kernel
theorem dX10_rainsOn_2 : decode cX10_rainsOn 2 = .ok (.iload_n 2, 1) := by decide +kernel
theorem dX10_rainsOn_3 : decode cX10_rainsOn 3 = .ok (.aload_n 0, 1) := by decide +kernel
theorem dX10_rainsOn_4 : decode cX10_rainsOn 4 = .ok (.getfield 135, 3) := by decide +kernel
theorem dX10_rainsOn_7 : decode cX10_rainsOn 7 = .ok (.if_icmp .ge 38, 3) := by decide +kernel
theorem dX10_rainsOn_10 : decode cX10_rainsOn 10 = .ok (.aload_n 0, 1) := by decide +kernel
theorem dX10_rainsOn_11 : decode cX10_rainsOn 11 = .ok (.getfield 90, 3) := by decide +kernel
theorem dX10_rainsOn_14 : decode cX10_rainsOn 14 = .ok (.iload_n 2, 1) := by decide +kernel
theorem dX10_rainsOn_15 : decode cX10_rainsOn 15 = .ok (.aload_n 0, 1) := by decide +kernel
theorem dX10_rainsOn_16 : decode cX10_rainsOn 16 = .ok (.getfield 66, 3) := by decide +kernel
theorem dX10_rainsOn_19 : decode cX10_rainsOn 19 = .ok (.iload_n 2, 1) := by decide +kernel
theorem dX10_rainsOn_20 : decode cX10_rainsOn 20 = .ok (.iaload, 1) := by decide +kernel
theorem dX10_rainsOn_21 : decode cX10_rainsOn 21 = .ok (.iconst 1, 1) := by decide +kernel
theorem dX10_rainsOn_22 : decode cX10_rainsOn 22 = .ok (.if_icmp .ne 15, 3) := by decide +kernel
theorem dX10_rainsOn_25 : decode cX10_rainsOn 25 = .ok (.aload_n 0, 1) := by decide +kernel
theorem dX10_rainsOn_26 : decode cX10_rainsOn 26 = .ok (.iload_n 2, 1) := by decide +kernel
theorem dX10_rainsOn_27 : decode cX10_rainsOn 27 = .ok (.invokevirtual 208, 3) := by decide +kernel
theorem dX10_rainsOn_30 : decode cX10_rainsOn 30 = .ok (.ifCond .eq 7, 3) := by decide +kernel
theorem dX10_rainsOn_33 : decode cX10_rainsOn 33 = .ok (.iconst 1, 1) := by decide +kernel
theorem dX10_rainsOn_34 : decode cX10_rainsOn 34 = .ok (.goto 4, 3) := by decide +kernel
theorem dX10_rainsOn_37 : decode cX10_rainsOn 37 = .ok (.iconst 0, 1) := by decide +kernel
theorem dX10_rainsOn_38 : decode cX10_rainsOn 38 = .ok (.bastore, 1) := by decide +kernel
theorem dX10_rainsOn_39 : decode cX10_rainsOn 39 = .ok (.iinc 2 1, 3) := by decide +kernel
theorem dX10_rainsOn_42 : decode cX10_rainsOn 42 = .ok (.goto (-40), 3) := by decide +kernel
theorem dX10_rainsOn_45 : decode cX10_rainsOn 45 = .ok (.iconst 0, 1) := by decide +kernel
theorem dX10_rainsOn_46 : decode cX10_rainsOn 46 = .ok (.istore_n 2, 1) := by decide +kernel
theorem dX10_rainsOn_47 : decode cX10_rainsOn 47 = .ok (.iload_n 2, 1) := by decide +kernel
theorem dX10_rainsOn_48 : decode cX10_rainsOn 48 = .ok (.aload_n 0, 1) := by decide +kernel
theorem dX10_rainsOn_49 : decode cX10_rainsOn 49 = .ok (.getfield 135, 3) := by decide +kernel
theorem dX10_rainsOn_52 : decode cX10_rainsOn 52 = .ok (.if_icmp .ge 23, 3) := by decide +kernel
theorem dX10_rainsOn_55 : decode cX10_rainsOn 55 = .ok (.aload_n 0, 1) := by decide +kernel
theorem dX10_rainsOn_56 : decode cX10_rainsOn 56 = .ok (.getfield 90, 3) := by decide +kernel
theorem dX10_rainsOn_59 : decode cX10_rainsOn 59 = .ok (.iload_n 2, 1) := by decide +kernel
theorem dX10_rainsOn_60 : decode cX10_rainsOn 60 = .ok (.baload, 1) := by decide +kernel
theorem dX10_rainsOn_61 : decode cX10_rainsOn 61 = .ok (.ifCond .eq 8, 3) := by decide +kernel
theorem dX10_rainsOn_64 : decode cX10_rainsOn 64 = .ok (.aload_n 0, 1) := by decide +kernel
theorem dX10_rainsOn_65 : decode cX10_rainsOn 65 = .ok (.iload_n 2, 1) := by decide +kernel
theorem dX10_rainsOn_66 : decode cX10_rainsOn 66 = .ok (.invokevirtual 188, 3) := by decide +kernel
theorem dX10_rainsOn_69 : decode cX10_rainsOn 69 = .ok (.iinc 2 1, 3) := by decide +kernel
theorem dX10_rainsOn_72 : decode cX10_rainsOn 72 = .ok (.goto (-25), 3) := by decide +kernel
theorem dX10_rainsOn_75 : decode cX10_rainsOn 75 = .ok (.iconst 0, 1) := by decide +kernel
theorem dX10_rainsOn_76 : decode cX10_rainsOn 76 = .ok (.istore_n 2, 1) := by decide +kernel
theorem dX10_rainsOn_77 : decode cX10_rainsOn 77 = .ok (.iload_n 2, 1) := by decide +kernel
theorem dX10_rainsOn_78 : decode cX10_rainsOn 78 = .ok (.aload_n 0, 1) := by decide +kernel
theorem dX10_rainsOn_79 : decode cX10_rainsOn 79 = .ok (.getfield 162, 3) := by decide +kernel
theorem dX10_rainsOn_82 : decode cX10_rainsOn 82 = .ok (.if_icmp .ge 29, 3) := by decide +kernel
theorem dX10_rainsOn_85 : decode cX10_rainsOn 85 = .ok (.aload_n 0, 1) := by decide +kernel
theorem dX10_rainsOn_86 : decode cX10_rainsOn 86 = .ok (.getfield 62, 3) := by decide +kernel
theorem dX10_rainsOn_89 : decode cX10_rainsOn 89 = .ok (.iload_n 2, 1) := by decide +kernel
theorem dX10_rainsOn_90 : decode cX10_rainsOn 90 = .ok (.aload_n 0, 1) := by decide +kernel
theorem dX10_rainsOn_91 : decode cX10_rainsOn 91 = .ok (.getfield 53, 3) := by decide +kernel
theorem dX10_rainsOn_94 : decode cX10_rainsOn 94 = .ok (.iload_n 2, 1) := by decide +kernel
theorem dX10_rainsOn_95 : decode cX10_rainsOn 95 = .ok (.iaload, 1) := by decide +kernel
theorem dX10_rainsOn_96 : decode cX10_rainsOn 96 = .ok (.ifCond .ne 7, 3) := by decide +kernel
theorem dX10_rainsOn_99 : decode cX10_rainsOn 99 = .ok (.iconst 1, 1) := by decide +kernel
theorem dX10_rainsOn_100 : decode cX10_rainsOn 100 = .ok (.goto 4, 3) := by decide +kernel
theorem dX10_rainsOn_103 : decode cX10_rainsOn 103 = .ok (.iconst 0, 1) := by decide +kernel
theorem dX10_rainsOn_104 : decode cX10_rainsOn 104 = .ok (.bastore, 1) := by decide +kernel
theorem dX10_rainsOn_105 : decode cX10_rainsOn 105 = .ok (.iinc 2 1, 3) := by decide +kernel
theorem dX10_rainsOn_108 : decode cX10_rainsOn 108 = .ok (.goto (-31), 3) := by decide +kernel
theorem dX10_rainsOn_111 : decode cX10_rainsOn 111 = .ok (.iconst 0, 1) := by decide +kernel
theorem dX10_rainsOn_112 : decode cX10_rainsOn 112 = .ok (.istore_n 2, 1) := by decide +kernel
theorem dX10_rainsOn_113 : decode cX10_rainsOn 113 = .ok (.iload_n 2, 1) := by decide +kernel
theorem dX10_rainsOn_114 : decode cX10_rainsOn 114 = .ok (.aload_n 0, 1) := by decide +kernel
theorem dX10_rainsOn_115 : decode cX10_rainsOn 115 = .ok (.getfield 135, 3) := by decide +kernel
theorem dX10_rainsOn_118 : decode cX10_rainsOn 118 = .ok (.if_icmp .ge 39, 3) := by decide +kernel
theorem dX10_rainsOn_121 : decode cX10_rainsOn 121 = .ok (.aload_n 0, 1) := by decide +kernel
theorem dX10_rainsOn_122 : decode cX10_rainsOn 122 = .ok (.getfield 90, 3) := by decide +kernel
theorem dX10_rainsOn_125 : decode cX10_rainsOn 125 = .ok (.iload_n 2, 1) := by decide +kernel
theorem dX10_rainsOn_126 : decode cX10_rainsOn 126 = .ok (.baload, 1) := by decide +kernel
theorem dX10_rainsOn_127 : decode cX10_rainsOn 127 = .ok (.ifCond .eq 24, 3) := by decide +kernel
theorem dX10_rainsOn_130 : decode cX10_rainsOn 130 = .ok (.aload_n 0, 1) := by decide +kernel
theorem dX10_rainsOn_131 : decode cX10_rainsOn 131 = .ok (.iload_n 2, 1) := by decide +kernel
theorem dX10_rainsOn_132 : decode cX10_rainsOn 132 = .ok (.invokevirtual 211, 3) := by decide +kernel
theorem dX10_rainsOn_135 : decode cX10_rainsOn 135 = .ok (.ifCond .ne 16, 3) := by decide +kernel
theorem dX10_rainsOn_138 : decode cX10_rainsOn 138 = .ok (.aload_n 0, 1) := by decide +kernel
theorem dX10_rainsOn_139 : decode cX10_rainsOn 139 = .ok (.iload_n 2, 1) := by decide +kernel
theorem dX10_rainsOn_140 : decode cX10_rainsOn 140 = .ok (.iload_n 1, 1) := by decide +kernel
theorem dX10_rainsOn_141 : decode cX10_rainsOn 141 = .ok (.invokevirtual 191, 3) := by decide +kernel
theorem dX10_rainsOn_144 : decode cX10_rainsOn 144 = .ok (.aload_n 0, 1) := by decide +kernel
theorem dX10_rainsOn_145 : decode cX10_rainsOn 145 = .ok (.getfield 75, 3) := by decide +kernel
theorem dX10_rainsOn_148 : decode cX10_rainsOn 148 = .ok (.iload_n 2, 1) := by decide +kernel
theorem dX10_rainsOn_149 : decode cX10_rainsOn 149 = .ok (.iload_n 1, 1) := by decide +kernel
theorem dX10_rainsOn_150 : decode cX10_rainsOn 150 = .ok (.iastore, 1) := by decide +kernel
theorem dX10_rainsOn_151 : decode cX10_rainsOn 151 = .ok (.iinc 2 1, 3) := by decide +kernel
theorem dX10_rainsOn_154 : decode cX10_rainsOn 154 = .ok (.goto (-41), 3) := by decide +kernel
theorem dX10_rainsOn_157 : decode cX10_rainsOn 157 = .ok (.return_, 1) := by decide +kernel
theorem dX10_tryWaiting_0 : decode cX10_tryWaiting 0 = .ok (.iconst 0, 1) := by decide +kernel
theorem dX10_tryWaiting_1 : decode cX10_tryWaiting 1 = .ok (.istore_n 2, 1) := by decide +kernel
theorem dX10_tryWaiting_2 : decode cX10_tryWaiting 2 = .ok (.iload_n 2, 1) := by decide +kernel
theorem dX10_tryWaiting_3 : decode cX10_tryWaiting 3 = .ok (.iload_n 1, 1) := by decide +kernel
theorem dX10_tryWaiting_4 : decode cX10_tryWaiting 4 = .ok (.if_icmp .gt 57, 3) := by decide +kernel
theorem dX10_tryWaiting_7 : decode cX10_tryWaiting 7 = .ok (.iload_n 2, 1) := by decide +kernel
theorem dX10_tryWaiting_8 : decode cX10_tryWaiting 8 = .ok (.bipush 100, 2) := by decide +kernel
theorem dX10_tryWaiting_10 : decode cX10_tryWaiting 10 = .ok (.if_icmp .ge 51, 3) := by decide +kernel
theorem dX10_tryWaiting_13 : decode cX10_tryWaiting 13 = .ok (.iconst 0, 1) := by decide +kernel
theorem dX10_tryWaiting_14 : decode cX10_tryWaiting 14 = .ok (.istore_n 3, 1) := by decide +kernel
theorem dX10_tryWaiting_15 : decode cX10_tryWaiting 15 = .ok (.iload_n 3, 1) := by decide +kernel
theorem dX10_tryWaiting_16 : decode cX10_tryWaiting 16 = .ok (.aload_n 0, 1) := by decide +kernel
theorem dX10_tryWaiting_17 : decode cX10_tryWaiting 17 = .ok (.getfield 135, 3) := by decide +kernel
theorem dX10_tryWaiting_20 : decode cX10_tryWaiting 20 = .ok (.if_icmp .ge 35, 3) := by decide +kernel
theorem dX10_tryWaiting_23 : decode cX10_tryWaiting 23 = .ok (.aload_n 0, 1) := by decide +kernel
theorem dX10_tryWaiting_24 : decode cX10_tryWaiting 24 = .ok (.getfield 66, 3) := by decide +kernel
theorem dX10_tryWaiting_27 : decode cX10_tryWaiting 27 = .ok (.iload_n 3, 1) := by decide +kernel
theorem dX10_tryWaiting_28 : decode cX10_tryWaiting 28 = .ok (.iaload, 1) := by decide +kernel
theorem dX10_tryWaiting_29 : decode cX10_tryWaiting 29 = .ok (.iconst 2, 1) := by decide +kernel
theorem dX10_tryWaiting_30 : decode cX10_tryWaiting 30 = .ok (.if_icmp .ne 19, 3) := by decide +kernel
theorem dX10_tryWaiting_33 : decode cX10_tryWaiting 33 = .ok (.aload_n 0, 1) := by decide +kernel
theorem dX10_tryWaiting_34 : decode cX10_tryWaiting 34 = .ok (.getfield 41, 3) := by decide +kernel
theorem dX10_tryWaiting_37 : decode cX10_tryWaiting 37 = .ok (.iload_n 3, 1) := by decide +kernel
theorem dX10_tryWaiting_38 : decode cX10_tryWaiting 38 = .ok (.iaload, 1) := by decide +kernel
theorem dX10_tryWaiting_39 : decode cX10_tryWaiting 39 = .ok (.iload_n 2, 1) := by decide +kernel
theorem dX10_tryWaiting_40 : decode cX10_tryWaiting 40 = .ok (.if_icmp .ne 9, 3) := by decide +kernel
theorem dX10_tryWaiting_43 : decode cX10_tryWaiting 43 = .ok (.aload_n 0, 1) := by decide +kernel
theorem dX10_tryWaiting_44 : decode cX10_tryWaiting 44 = .ok (.iload_n 3, 1) := by decide +kernel
theorem dX10_tryWaiting_45 : decode cX10_tryWaiting 45 = .ok (.iload_n 1, 1) := by decide +kernel
theorem dX10_tryWaiting_46 : decode cX10_tryWaiting 46 = .ok (.invokevirtual 214, 3) := by decide +kernel
theorem dX10_tryWaiting_49 : decode cX10_tryWaiting 49 = .ok (.iinc 3 1, 3) := by decide +kernel
theorem dX10_tryWaiting_52 : decode cX10_tryWaiting 52 = .ok (.goto (-37), 3) := by decide +kernel
theorem dX10_tryWaiting_55 : decode cX10_tryWaiting 55 = .ok (.iinc 2 1, 3) := by decide +kernel
theorem dX10_tryWaiting_58 : decode cX10_tryWaiting 58 = .ok (.goto (-56), 3) := by decide +kernel
theorem dX10_tryWaiting_61 : decode cX10_tryWaiting 61 = .ok (.return_, 1) := by decide +kernel
theorem dX10_triesAgain_0 : decode cX10_triesAgain 0 = .ok (.aload_n 0, 1) := by decide +kernel
theorem dX10_triesAgain_1 : decode cX10_triesAgain 1 = .ok (.iload_n 1, 1) := by decide +kernel
theorem dX10_triesAgain_2 : decode cX10_triesAgain 2 = .ok (.iload_n 2, 1) := by decide +kernel
theorem dX10_triesAgain_3 : decode cX10_triesAgain 3 = .ok (.invokevirtual 217, 3) := by decide +kernel
theorem dX10_triesAgain_6 : decode cX10_triesAgain 6 = .ok (.ifCond .eq 20, 3) := by decide +kernel
theorem dX10_triesAgain_9 : decode cX10_triesAgain 9 = .ok (.aload_n 0, 1) := by decide +kernel
theorem dX10_triesAgain_10 : decode cX10_triesAgain 10 = .ok (.getfield 81, 3) := by decide +kernel
theorem dX10_triesAgain_13 : decode cX10_triesAgain 13 = .ok (.iload_n 1, 1) := by decide +kernel
theorem dX10_triesAgain_14 : decode cX10_triesAgain 14 = .ok (.iload_n 2, 1) := by decide +kernel
theorem dX10_triesAgain_15 : decode cX10_triesAgain 15 = .ok (.aload_n 0, 1) := by decide +kernel
theorem dX10_triesAgain_16 : decode cX10_triesAgain 16 = .ok (.getfield 41, 3) := by decide +kernel
theorem dX10_triesAgain_19 : decode cX10_triesAgain 19 = .ok (.iload_n 1, 1) := by decide +kernel
theorem dX10_triesAgain_20 : decode cX10_triesAgain 20 = .ok (.iaload, 1) := by decide +kernel
theorem dX10_triesAgain_21 : decode cX10_triesAgain 21 = .ok (.isub, 1) := by decide +kernel
theorem dX10_triesAgain_22 : decode cX10_triesAgain 22 = .ok (.iastore, 1) := by decide +kernel
theorem dX10_triesAgain_23 : decode cX10_triesAgain 23 = .ok (.goto 39, 3) := by decide +kernel
theorem dX10_triesAgain_26 : decode cX10_triesAgain 26 = .ok (.iload_n 2, 1) := by decide +kernel
theorem dX10_triesAgain_27 : decode cX10_triesAgain 27 = .ok (.aload_n 0, 1) := by decide +kernel
theorem dX10_triesAgain_28 : decode cX10_triesAgain 28 = .ok (.getfield 41, 3) := by decide +kernel
theorem dX10_triesAgain_31 : decode cX10_triesAgain 31 = .ok (.iload_n 1, 1) := by decide +kernel
theorem dX10_triesAgain_32 : decode cX10_triesAgain 32 = .ok (.iaload, 1) := by decide +kernel
theorem dX10_triesAgain_33 : decode cX10_triesAgain 33 = .ok (.isub, 1) := by decide +kernel
theorem dX10_triesAgain_34 : decode cX10_triesAgain 34 = .ok (.aload_n 0, 1) := by decide +kernel
theorem dX10_triesAgain_35 : decode cX10_triesAgain 35 = .ok (.getfield 168, 3) := by decide +kernel
theorem dX10_triesAgain_38 : decode cX10_triesAgain 38 = .ok (.if_icmp .lt 24, 3) := by decide +kernel
theorem dX10_triesAgain_41 : decode cX10_triesAgain 41 = .ok (.aload_n 0, 1) := by decide +kernel
theorem dX10_triesAgain_42 : decode cX10_triesAgain 42 = .ok (.getfield 66, 3) := by decide +kernel
theorem dX10_triesAgain_45 : decode cX10_triesAgain 45 = .ok (.iload_n 1, 1) := by decide +kernel
theorem dX10_triesAgain_46 : decode cX10_triesAgain 46 = .ok (.iconst 3, 1) := by decide +kernel
theorem dX10_triesAgain_47 : decode cX10_triesAgain 47 = .ok (.iastore, 1) := by decide +kernel
theorem dX10_triesAgain_48 : decode cX10_triesAgain 48 = .ok (.aload_n 0, 1) := by decide +kernel
theorem dX10_triesAgain_49 : decode cX10_triesAgain 49 = .ok (.getfield 81, 3) := by decide +kernel
theorem dX10_triesAgain_52 : decode cX10_triesAgain 52 = .ok (.iload_n 1, 1) := by decide +kernel
theorem dX10_triesAgain_53 : decode cX10_triesAgain 53 = .ok (.iload_n 2, 1) := by decide +kernel
theorem dX10_triesAgain_54 : decode cX10_triesAgain 54 = .ok (.aload_n 0, 1) := by decide +kernel
theorem dX10_triesAgain_55 : decode cX10_triesAgain 55 = .ok (.getfield 41, 3) := by decide +kernel
theorem dX10_triesAgain_58 : decode cX10_triesAgain 58 = .ok (.iload_n 1, 1) := by decide +kernel
theorem dX10_triesAgain_59 : decode cX10_triesAgain 59 = .ok (.iaload, 1) := by decide +kernel
theorem dX10_triesAgain_60 : decode cX10_triesAgain 60 = .ok (.isub, 1) := by decide +kernel
theorem dX10_triesAgain_61 : decode cX10_triesAgain 61 = .ok (.iastore, 1) := by decide +kernel
theorem dX10_triesAgain_62 : decode cX10_triesAgain 62 = .ok (.return_, 1) := by decide +kernel
theorem dX10_comesIn_0 : decode cX10_comesIn 0 = .ok (.aload_n 0, 1) := by decide +kernel
theorem dX10_comesIn_1 : decode cX10_comesIn 1 = .ok (.invokevirtual 181, 3) := by decide +kernel
theorem dX10_comesIn_4 : decode cX10_comesIn 4 = .ok (.aload_n 0, 1) := by decide +kernel
theorem dX10_comesIn_5 : decode cX10_comesIn 5 = .ok (.getfield 50, 3) := by decide +kernel
theorem dX10_comesIn_8 : decode cX10_comesIn 8 = .ok (.iload_n 1, 1) := by decide +kernel
theorem dX10_comesIn_9 : decode cX10_comesIn 9 = .ok (.iaload, 1) := by decide +kernel
theorem dX10_comesIn_10 : decode cX10_comesIn 10 = .ok (.if_icmp .ge 13, 3) := by decide +kernel
theorem dX10_comesIn_13 : decode cX10_comesIn 13 = .ok (.aload_n 0, 1) := by decide +kernel
theorem dX10_comesIn_14 : decode cX10_comesIn 14 = .ok (.getfield 66, 3) := by decide +kernel
theorem dX10_comesIn_17 : decode cX10_comesIn 17 = .ok (.iload_n 1, 1) := by decide +kernel
theorem dX10_comesIn_18 : decode cX10_comesIn 18 = .ok (.iconst 4, 1) := by decide +kernel
theorem dX10_comesIn_19 : decode cX10_comesIn 19 = .ok (.iastore, 1) := by decide +kernel
theorem dX10_comesIn_20 : decode cX10_comesIn 20 = .ok (.goto 30, 3) := by decide +kernel
theorem dX10_comesIn_23 : decode cX10_comesIn 23 = .ok (.aload_n 0, 1) := by decide +kernel
theorem dX10_comesIn_24 : decode cX10_comesIn 24 = .ok (.iload_n 1, 1) := by decide +kernel
theorem dX10_comesIn_25 : decode cX10_comesIn 25 = .ok (.iload_n 2, 1) := by decide +kernel
theorem dX10_comesIn_26 : decode cX10_comesIn 26 = .ok (.invokevirtual 217, 3) := by decide +kernel
theorem dX10_comesIn_29 : decode cX10_comesIn 29 = .ok (.ifCond .ne 21, 3) := by decide +kernel
theorem dX10_comesIn_32 : decode cX10_comesIn 32 = .ok (.aload_n 0, 1) := by decide +kernel
theorem dX10_comesIn_33 : decode cX10_comesIn 33 = .ok (.getfield 66, 3) := by decide +kernel
theorem dX10_comesIn_36 : decode cX10_comesIn 36 = .ok (.iload_n 1, 1) := by decide +kernel
theorem dX10_comesIn_37 : decode cX10_comesIn 37 = .ok (.aload_n 0, 1) := by decide +kernel
theorem dX10_comesIn_38 : decode cX10_comesIn 38 = .ok (.getfield 168, 3) := by decide +kernel
theorem dX10_comesIn_41 : decode cX10_comesIn 41 = .ok (.ifCond .le 7, 3) := by decide +kernel
theorem dX10_comesIn_44 : decode cX10_comesIn 44 = .ok (.iconst 2, 1) := by decide +kernel
theorem dX10_comesIn_45 : decode cX10_comesIn 45 = .ok (.goto 4, 3) := by decide +kernel
theorem dX10_comesIn_48 : decode cX10_comesIn 48 = .ok (.iconst 3, 1) := by decide +kernel
theorem dX10_comesIn_49 : decode cX10_comesIn 49 = .ok (.iastore, 1) := by decide +kernel
theorem dX10_comesIn_50 : decode cX10_comesIn 50 = .ok (.return_, 1) := by decide +kernel
theorem dX10_sitsDown_0 : decode cX10_sitsDown 0 = .ok (.aload_n 0, 1) := by decide +kernel
theorem dX10_sitsDown_1 : decode cX10_sitsDown 1 = .ok (.getfield 35, 3) := by decide +kernel
theorem dX10_sitsDown_4 : decode cX10_sitsDown 4 = .ok (.iload_n 1, 1) := by decide +kernel
theorem dX10_sitsDown_5 : decode cX10_sitsDown 5 = .ok (.iaload, 1) := by decide +kernel
theorem dX10_sitsDown_6 : decode cX10_sitsDown 6 = .ok (.iconst 2, 1) := by decide +kernel
theorem dX10_sitsDown_7 : decode cX10_sitsDown 7 = .ok (.if_icmp .ne 22, 3) := by decide +kernel
theorem dX10_sitsDown_10 : decode cX10_sitsDown 10 = .ok (.aload_n 0, 1) := by decide +kernel
theorem dX10_sitsDown_11 : decode cX10_sitsDown 11 = .ok (.iload_n 1, 1) := by decide +kernel
theorem dX10_sitsDown_12 : decode cX10_sitsDown 12 = .ok (.invokevirtual 185, 3) := by decide +kernel
theorem dX10_sitsDown_15 : decode cX10_sitsDown 15 = .ok (.ifCond .le 14, 3) := by decide +kernel
theorem dX10_sitsDown_18 : decode cX10_sitsDown 18 = .ok (.aload_n 0, 1) := by decide +kernel
theorem dX10_sitsDown_19 : decode cX10_sitsDown 19 = .ok (.iload_n 1, 1) := by decide +kernel
theorem dX10_sitsDown_20 : decode cX10_sitsDown 20 = .ok (.invokevirtual 159, 3) := by decide +kernel
theorem dX10_sitsDown_23 : decode cX10_sitsDown 23 = .ok (.bipush 9, 2) := by decide +kernel
theorem dX10_sitsDown_25 : decode cX10_sitsDown 25 = .ok (.idiv, 1) := by decide +kernel
theorem dX10_sitsDown_26 : decode cX10_sitsDown 26 = .ok (.goto 4, 3) := by decide +kernel
theorem dX10_sitsDown_29 : decode cX10_sitsDown 29 = .ok (.iconst 0, 1) := by decide +kernel
theorem dX10_sitsDown_30 : decode cX10_sitsDown 30 = .ok (.istore_n 3, 1) := by decide +kernel
theorem dX10_sitsDown_31 : decode cX10_sitsDown 31 = .ok (.aload_n 0, 1) := by decide +kernel
theorem dX10_sitsDown_32 : decode cX10_sitsDown 32 = .ok (.iload_n 1, 1) := by decide +kernel
theorem dX10_sitsDown_33 : decode cX10_sitsDown 33 = .ok (.invokevirtual 211, 3) := by decide +kernel
theorem dX10_sitsDown_36 : decode cX10_sitsDown 36 = .ok (.ifCond .ne 5, 3) := by decide +kernel
theorem dX10_sitsDown_39 : decode cX10_sitsDown 39 = .ok (.iconst 0, 1) := by decide +kernel
theorem dX10_sitsDown_40 : decode cX10_sitsDown 40 = .ok (.ireturn, 1) := by decide +kernel
theorem dX10_sitsDown_41 : decode cX10_sitsDown 41 = .ok (.aload_n 0, 1) := by decide +kernel
theorem dX10_sitsDown_42 : decode cX10_sitsDown 42 = .ok (.getfield 66, 3) := by decide +kernel
theorem dX10_sitsDown_45 : decode cX10_sitsDown 45 = .ok (.iload_n 1, 1) := by decide +kernel
theorem dX10_sitsDown_46 : decode cX10_sitsDown 46 = .ok (.iconst 1, 1) := by decide +kernel
theorem dX10_sitsDown_47 : decode cX10_sitsDown 47 = .ok (.iastore, 1) := by decide +kernel
theorem dX10_sitsDown_48 : decode cX10_sitsDown 48 = .ok (.aload_n 0, 1) := by decide +kernel
theorem dX10_sitsDown_49 : decode cX10_sitsDown 49 = .ok (.getfield 72, 3) := by decide +kernel
theorem dX10_sitsDown_52 : decode cX10_sitsDown 52 = .ok (.iload_n 1, 1) := by decide +kernel
theorem dX10_sitsDown_53 : decode cX10_sitsDown 53 = .ok (.iload_n 2, 1) := by decide +kernel
theorem dX10_sitsDown_54 : decode cX10_sitsDown 54 = .ok (.iastore, 1) := by decide +kernel
theorem dX10_sitsDown_55 : decode cX10_sitsDown 55 = .ok (.aload_n 0, 1) := by decide +kernel
theorem dX10_sitsDown_56 : decode cX10_sitsDown 56 = .ok (.getfield 75, 3) := by decide +kernel
theorem dX10_sitsDown_59 : decode cX10_sitsDown 59 = .ok (.iload_n 1, 1) := by decide +kernel
theorem dX10_sitsDown_60 : decode cX10_sitsDown 60 = .ok (.iload_n 2, 1) := by decide +kernel
theorem dX10_sitsDown_61 : decode cX10_sitsDown 61 = .ok (.aload_n 0, 1) := by decide +kernel
theorem dX10_sitsDown_62 : decode cX10_sitsDown 62 = .ok (.iload_n 1, 1) := by decide +kernel
theorem dX10_sitsDown_63 : decode cX10_sitsDown 63 = .ok (.invokevirtual 159, 3) := by decide +kernel
theorem dX10_sitsDown_66 : decode cX10_sitsDown 66 = .ok (.iadd, 1) := by decide +kernel
theorem dX10_sitsDown_67 : decode cX10_sitsDown 67 = .ok (.iload_n 3, 1) := by decide +kernel
theorem dX10_sitsDown_68 : decode cX10_sitsDown 68 = .ok (.iadd, 1) := by decide +kernel
theorem dX10_sitsDown_69 : decode cX10_sitsDown 69 = .ok (.iastore, 1) := by decide +kernel
theorem dX10_sitsDown_70 : decode cX10_sitsDown 70 = .ok (.aload_n 0, 1) := by decide +kernel
theorem dX10_sitsDown_71 : decode cX10_sitsDown 71 = .ok (.getfield 162, 3) := by decide +kernel
theorem dX10_sitsDown_74 : decode cX10_sitsDown 74 = .ok (.iconst 1, 1) := by decide +kernel
theorem dX10_sitsDown_75 : decode cX10_sitsDown 75 = .ok (.isub, 1) := by decide +kernel
theorem dX10_sitsDown_76 : decode cX10_sitsDown 76 = .ok (.istore 4, 2) := by decide +kernel
theorem dX10_sitsDown_78 : decode cX10_sitsDown 78 = .ok (.iload 4, 2) := by decide +kernel
theorem dX10_sitsDown_80 : decode cX10_sitsDown 80 = .ok (.ifCond .lt 37, 3) := by decide +kernel
theorem dX10_sitsDown_83 : decode cX10_sitsDown 83 = .ok (.aload_n 0, 1) := by decide +kernel
theorem dX10_sitsDown_84 : decode cX10_sitsDown 84 = .ok (.getfield 69, 3) := by decide +kernel
theorem dX10_sitsDown_87 : decode cX10_sitsDown 87 = .ok (.iload_n 1, 1) := by decide +kernel
theorem dX10_sitsDown_88 : decode cX10_sitsDown 88 = .ok (.aload_n 0, 1) := by decide +kernel
theorem dX10_sitsDown_89 : decode cX10_sitsDown 89 = .ok (.getfield 59, 3) := by decide +kernel
theorem dX10_sitsDown_92 : decode cX10_sitsDown 92 = .ok (.iload 4, 2) := by decide +kernel
theorem dX10_sitsDown_94 : decode cX10_sitsDown 94 = .ok (.iaload, 1) := by decide +kernel
theorem dX10_sitsDown_95 : decode cX10_sitsDown 95 = .ok (.iload_n 1, 1) := by decide +kernel
theorem dX10_sitsDown_96 : decode cX10_sitsDown 96 = .ok (.if_icmp .ne 8, 3) := by decide +kernel
theorem dX10_sitsDown_99 : decode cX10_sitsDown 99 = .ok (.iload 4, 2) := by decide +kernel
theorem dX10_sitsDown_101 : decode cX10_sitsDown 101 = .ok (.goto 9, 3) := by decide +kernel
theorem dX10_sitsDown_104 : decode cX10_sitsDown 104 = .ok (.aload_n 0, 1) := by decide +kernel
theorem dX10_sitsDown_105 : decode cX10_sitsDown 105 = .ok (.getfield 69, 3) := by decide +kernel
theorem dX10_sitsDown_108 : decode cX10_sitsDown 108 = .ok (.iload_n 1, 1) := by decide +kernel
theorem dX10_sitsDown_109 : decode cX10_sitsDown 109 = .ok (.iaload, 1) := by decide +kernel
theorem dX10_sitsDown_110 : decode cX10_sitsDown 110 = .ok (.iastore, 1) := by decide +kernel
theorem dX10_sitsDown_111 : decode cX10_sitsDown 111 = .ok (.iinc 4 (-1), 3) := by decide +kernel
theorem dX10_sitsDown_114 : decode cX10_sitsDown 114 = .ok (.goto (-36), 3) := by decide +kernel
theorem dX10_sitsDown_117 : decode cX10_sitsDown 117 = .ok (.iconst 1, 1) := by decide +kernel
theorem dX10_sitsDown_118 : decode cX10_sitsDown 118 = .ok (.ireturn, 1) := by decide +kernel
theorem dX10_isFree_0 : decode cX10_isFree 0 = .ok (.aload_n 0, 1) := by decide +kernel
theorem dX10_isFree_1 : decode cX10_isFree 1 = .ok (.getfield 59, 3) := by decide +kernel
theorem dX10_isFree_4 : decode cX10_isFree 4 = .ok (.iload_n 1, 1) := by decide +kernel
theorem dX10_isFree_5 : decode cX10_isFree 5 = .ok (.iaload, 1) := by decide +kernel
theorem dX10_isFree_6 : decode cX10_isFree 6 = .ok (.bipush (-9), 2) := by decide +kernel
theorem dX10_isFree_8 : decode cX10_isFree 8 = .ok (.if_icmp .ne 16, 3) := by decide +kernel
theorem dX10_isFree_11 : decode cX10_isFree 11 = .ok (.aload_n 0, 1) := by decide +kernel
theorem dX10_isFree_12 : decode cX10_isFree 12 = .ok (.getfield 62, 3) := by decide +kernel
theorem dX10_isFree_15 : decode cX10_isFree 15 = .ok (.iload_n 1, 1) := by decide +kernel
theorem dX10_isFree_16 : decode cX10_isFree 16 = .ok (.baload, 1) := by decide +kernel
theorem dX10_isFree_17 : decode cX10_isFree 17 = .ok (.ifCond .ne 7, 3) := by decide +kernel
theorem dX10_isFree_20 : decode cX10_isFree 20 = .ok (.iconst 1, 1) := by decide +kernel
theorem dX10_isFree_21 : decode cX10_isFree 21 = .ok (.goto 4, 3) := by decide +kernel
theorem dX10_isFree_24 : decode cX10_isFree 24 = .ok (.iconst 0, 1) := by decide +kernel
theorem dX10_isFree_25 : decode cX10_isFree 25 = .ok (.ireturn, 1) := by decide +kernel
theorem dX10_takesTable_0 : decode cX10_takesTable 0 = .ok (.bipush (-9), 2) := by decide +kernel
theorem dX10_takesTable_2 : decode cX10_takesTable 2 = .ok (.istore_n 2, 1) := by decide +kernel
theorem dX10_takesTable_3 : decode cX10_takesTable 3 = .ok (.aload_n 0, 1) := by decide +kernel
theorem dX10_takesTable_4 : decode cX10_takesTable 4 = .ok (.getfield 165, 3) := by decide +kernel
theorem dX10_takesTable_7 : decode cX10_takesTable 7 = .ok (.iconst 2, 1) := by decide +kernel
theorem dX10_takesTable_8 : decode cX10_takesTable 8 = .ok (.if_icmp .ne 10, 3) := by decide +kernel
theorem dX10_takesTable_11 : decode cX10_takesTable 11 = .ok (.aload_n 0, 1) := by decide +kernel
theorem dX10_takesTable_12 : decode cX10_takesTable 12 = .ok (.iload_n 1, 1) := by decide +kernel
theorem dX10_takesTable_13 : decode cX10_takesTable 13 = .ok (.iconst 1, 1) := by decide +kernel
theorem dX10_takesTable_14 : decode cX10_takesTable 14 = .ok (.invokevirtual 220, 3) := by decide +kernel
theorem dX10_takesTable_17 : decode cX10_takesTable 17 = .ok (.istore_n 2, 1) := by decide +kernel
theorem dX10_takesTable_18 : decode cX10_takesTable 18 = .ok (.iload_n 2, 1) := by decide +kernel
theorem dX10_takesTable_19 : decode cX10_takesTable 19 = .ok (.bipush (-9), 2) := by decide +kernel
theorem dX10_takesTable_21 : decode cX10_takesTable 21 = .ok (.if_icmp .ne 25, 3) := by decide +kernel
theorem dX10_takesTable_24 : decode cX10_takesTable 24 = .ok (.aload_n 0, 1) := by decide +kernel
theorem dX10_takesTable_25 : decode cX10_takesTable 25 = .ok (.getfield 165, 3) := by decide +kernel
theorem dX10_takesTable_28 : decode cX10_takesTable 28 = .ok (.ifCond .ne 11, 3) := by decide +kernel
theorem dX10_takesTable_31 : decode cX10_takesTable 31 = .ok (.aload_n 0, 1) := by decide +kernel
theorem dX10_takesTable_32 : decode cX10_takesTable 32 = .ok (.iload_n 1, 1) := by decide +kernel
theorem dX10_takesTable_33 : decode cX10_takesTable 33 = .ok (.invokevirtual 224, 3) := by decide +kernel
theorem dX10_takesTable_36 : decode cX10_takesTable 36 = .ok (.goto 9, 3) := by decide +kernel
theorem dX10_takesTable_39 : decode cX10_takesTable 39 = .ok (.aload_n 0, 1) := by decide +kernel
theorem dX10_takesTable_40 : decode cX10_takesTable 40 = .ok (.iload_n 1, 1) := by decide +kernel
theorem dX10_takesTable_41 : decode cX10_takesTable 41 = .ok (.iconst 0, 1) := by decide +kernel
theorem dX10_takesTable_42 : decode cX10_takesTable 42 = .ok (.invokevirtual 220, 3) := by decide +kernel
theorem dX10_takesTable_45 : decode cX10_takesTable 45 = .ok (.istore_n 2, 1) := by decide +kernel
theorem dX10_takesTable_46 : decode cX10_takesTable 46 = .ok (.iload_n 2, 1) := by decide +kernel
theorem dX10_takesTable_47 : decode cX10_takesTable 47 = .ok (.bipush (-9), 2) := by decide +kernel
theorem dX10_takesTable_49 : decode cX10_takesTable 49 = .ok (.if_icmp .eq 12, 3) := by decide +kernel
theorem dX10_takesTable_52 : decode cX10_takesTable 52 = .ok (.aload_n 0, 1) := by decide +kernel
theorem dX10_takesTable_53 : decode cX10_takesTable 53 = .ok (.getfield 59, 3) := by decide +kernel
theorem dX10_takesTable_56 : decode cX10_takesTable 56 = .ok (.iload_n 2, 1) := by decide +kernel
theorem dX10_takesTable_57 : decode cX10_takesTable 57 = .ok (.iload_n 1, 1) := by decide +kernel
theorem dX10_takesTable_58 : decode cX10_takesTable 58 = .ok (.iastore, 1) := by decide +kernel
theorem dX10_takesTable_59 : decode cX10_takesTable 59 = .ok (.iconst 1, 1) := by decide +kernel
theorem dX10_takesTable_60 : decode cX10_takesTable 60 = .ok (.ireturn, 1) := by decide +kernel
theorem dX10_takesTable_61 : decode cX10_takesTable 61 = .ok (.aload_n 0, 1) := by decide +kernel
theorem dX10_takesTable_62 : decode cX10_takesTable 62 = .ok (.getfield 144, 3) := by decide +kernel
theorem dX10_takesTable_65 : decode cX10_takesTable 65 = .ok (.ifCond .eq 15, 3) := by decide +kernel
theorem dX10_takesTable_68 : decode cX10_takesTable 68 = .ok (.aload_n 0, 1) := by decide +kernel
theorem dX10_takesTable_69 : decode cX10_takesTable 69 = .ok (.iload_n 1, 1) := by decide +kernel
theorem dX10_takesTable_70 : decode cX10_takesTable 70 = .ok (.invokevirtual 227, 3) := by decide +kernel
theorem dX10_takesTable_73 : decode cX10_takesTable 73 = .ok (.ifCond .eq 7, 3) := by decide +kernel
theorem dX10_takesTable_76 : decode cX10_takesTable 76 = .ok (.iconst 1, 1) := by decide +kernel
theorem dX10_takesTable_77 : decode cX10_takesTable 77 = .ok (.goto 4, 3) := by decide +kernel
theorem dX10_takesTable_80 : decode cX10_takesTable 80 = .ok (.iconst 0, 1) := by decide +kernel
theorem dX10_takesTable_81 : decode cX10_takesTable 81 = .ok (.ireturn, 1) := by decide +kernel
theorem dX10_firstFor_0 : decode cX10_firstFor 0 = .ok (.iconst 0, 1) := by decide +kernel
theorem dX10_firstFor_1 : decode cX10_firstFor 1 = .ok (.istore_n 2, 1) := by decide +kernel
theorem dX10_firstFor_2 : decode cX10_firstFor 2 = .ok (.iload_n 2, 1) := by decide +kernel
theorem dX10_firstFor_3 : decode cX10_firstFor 3 = .ok (.aload_n 0, 1) := by decide +kernel
theorem dX10_firstFor_4 : decode cX10_firstFor 4 = .ok (.getfield 162, 3) := by decide +kernel
theorem dX10_firstFor_7 : decode cX10_firstFor 7 = .ok (.if_icmp .ge 34, 3) := by decide +kernel
theorem dX10_firstFor_10 : decode cX10_firstFor 10 = .ok (.aload_n 0, 1) := by decide +kernel
theorem dX10_firstFor_11 : decode cX10_firstFor 11 = .ok (.iload_n 2, 1) := by decide +kernel
theorem dX10_firstFor_12 : decode cX10_firstFor 12 = .ok (.invokevirtual 230, 3) := by decide +kernel
theorem dX10_firstFor_15 : decode cX10_firstFor 15 = .ok (.ifCond .eq 20, 3) := by decide +kernel
theorem dX10_firstFor_18 : decode cX10_firstFor 18 = .ok (.aload_n 0, 1) := by decide +kernel
theorem dX10_firstFor_19 : decode cX10_firstFor 19 = .ok (.getfield 56, 3) := by decide +kernel
theorem dX10_firstFor_22 : decode cX10_firstFor 22 = .ok (.iload_n 2, 1) := by decide +kernel
theorem dX10_firstFor_23 : decode cX10_firstFor 23 = .ok (.iaload, 1) := by decide +kernel
theorem dX10_firstFor_24 : decode cX10_firstFor 24 = .ok (.aload_n 0, 1) := by decide +kernel
theorem dX10_firstFor_25 : decode cX10_firstFor 25 = .ok (.getfield 38, 3) := by decide +kernel
theorem dX10_firstFor_28 : decode cX10_firstFor 28 = .ok (.iload_n 1, 1) := by decide +kernel
theorem dX10_firstFor_29 : decode cX10_firstFor 29 = .ok (.iaload, 1) := by decide +kernel
theorem dX10_firstFor_30 : decode cX10_firstFor 30 = .ok (.if_icmp .lt 5, 3) := by decide +kernel
theorem dX10_firstFor_33 : decode cX10_firstFor 33 = .ok (.iload_n 2, 1) := by decide +kernel
theorem dX10_firstFor_34 : decode cX10_firstFor 34 = .ok (.ireturn, 1) := by decide +kernel
theorem dX10_firstFor_35 : decode cX10_firstFor 35 = .ok (.iinc 2 1, 3) := by decide +kernel
theorem dX10_firstFor_38 : decode cX10_firstFor 38 = .ok (.goto (-36), 3) := by decide +kernel
theorem dX10_firstFor_41 : decode cX10_firstFor 41 = .ok (.bipush (-9), 2) := by decide +kernel
theorem dX10_firstFor_43 : decode cX10_firstFor 43 = .ok (.ireturn, 1) := by decide +kernel
theorem dX10_smallest_0 : decode cX10_smallest 0 = .ok (.bipush (-9), 2) := by decide +kernel
theorem dX10_smallest_2 : decode cX10_smallest 2 = .ok (.istore_n 3, 1) := by decide +kernel
theorem dX10_smallest_3 : decode cX10_smallest 3 = .ok (.iconst 0, 1) := by decide +kernel
theorem dX10_smallest_4 : decode cX10_smallest 4 = .ok (.istore 4, 2) := by decide +kernel
theorem dX10_smallest_6 : decode cX10_smallest 6 = .ok (.iload 4, 2) := by decide +kernel
theorem dX10_smallest_8 : decode cX10_smallest 8 = .ok (.aload_n 0, 1) := by decide +kernel
theorem dX10_smallest_9 : decode cX10_smallest 9 = .ok (.getfield 162, 3) := by decide +kernel
theorem dX10_smallest_12 : decode cX10_smallest 12 = .ok (.if_icmp .ge 91, 3) := by decide +kernel
theorem dX10_smallest_15 : decode cX10_smallest 15 = .ok (.aload_n 0, 1) := by decide +kernel
theorem dX10_smallest_16 : decode cX10_smallest 16 = .ok (.iload 4, 2) := by decide +kernel
theorem dX10_smallest_18 : decode cX10_smallest 18 = .ok (.invokevirtual 230, 3) := by decide +kernel
theorem dX10_smallest_21 : decode cX10_smallest 21 = .ok (.ifCond .eq 43, 3) := by decide +kernel
theorem dX10_smallest_24 : decode cX10_smallest 24 = .ok (.aload_n 0, 1) := by decide +kernel
theorem dX10_smallest_25 : decode cX10_smallest 25 = .ok (.getfield 56, 3) := by decide +kernel
theorem dX10_smallest_28 : decode cX10_smallest 28 = .ok (.iload 4, 2) := by decide +kernel
theorem dX10_smallest_30 : decode cX10_smallest 30 = .ok (.iaload, 1) := by decide +kernel
theorem dX10_smallest_31 : decode cX10_smallest 31 = .ok (.aload_n 0, 1) := by decide +kernel
theorem dX10_smallest_32 : decode cX10_smallest 32 = .ok (.getfield 38, 3) := by decide +kernel
theorem dX10_smallest_35 : decode cX10_smallest 35 = .ok (.iload_n 1, 1) := by decide +kernel
theorem dX10_smallest_36 : decode cX10_smallest 36 = .ok (.iaload, 1) := by decide +kernel
theorem dX10_smallest_37 : decode cX10_smallest 37 = .ok (.if_icmp .lt 27, 3) := by decide +kernel
theorem dX10_smallest_40 : decode cX10_smallest 40 = .ok (.iload_n 2, 1) := by decide +kernel
theorem dX10_smallest_41 : decode cX10_smallest 41 = .ok (.ifCond .eq 19, 3) := by decide +kernel
theorem dX10_smallest_44 : decode cX10_smallest 44 = .ok (.aload_n 0, 1) := by decide +kernel
theorem dX10_smallest_45 : decode cX10_smallest 45 = .ok (.getfield 53, 3) := by decide +kernel
theorem dX10_smallest_48 : decode cX10_smallest 48 = .ok (.iload 4, 2) := by decide +kernel
theorem dX10_smallest_50 : decode cX10_smallest 50 = .ok (.iaload, 1) := by decide +kernel
theorem dX10_smallest_51 : decode cX10_smallest 51 = .ok (.aload_n 0, 1) := by decide +kernel
theorem dX10_smallest_52 : decode cX10_smallest 52 = .ok (.getfield 47, 3) := by decide +kernel
theorem dX10_smallest_55 : decode cX10_smallest 55 = .ok (.iload_n 1, 1) := by decide +kernel
theorem dX10_smallest_56 : decode cX10_smallest 56 = .ok (.iaload, 1) := by decide +kernel
theorem dX10_smallest_57 : decode cX10_smallest 57 = .ok (.if_icmp .ne 7, 3) := by decide +kernel
theorem dX10_smallest_60 : decode cX10_smallest 60 = .ok (.iconst 1, 1) := by decide +kernel
theorem dX10_smallest_61 : decode cX10_smallest 61 = .ok (.goto 4, 3) := by decide +kernel
theorem dX10_smallest_64 : decode cX10_smallest 64 = .ok (.iconst 0, 1) := by decide +kernel
theorem dX10_smallest_65 : decode cX10_smallest 65 = .ok (.istore 5, 2) := by decide +kernel
theorem dX10_smallest_67 : decode cX10_smallest 67 = .ok (.iload 5, 2) := by decide +kernel
theorem dX10_smallest_69 : decode cX10_smallest 69 = .ok (.ifCond .eq 28, 3) := by decide +kernel
theorem dX10_smallest_72 : decode cX10_smallest 72 = .ok (.iload_n 3, 1) := by decide +kernel
theorem dX10_smallest_73 : decode cX10_smallest 73 = .ok (.bipush (-9), 2) := by decide +kernel
theorem dX10_smallest_75 : decode cX10_smallest 75 = .ok (.if_icmp .eq 19, 3) := by decide +kernel
theorem dX10_smallest_78 : decode cX10_smallest 78 = .ok (.aload_n 0, 1) := by decide +kernel
theorem dX10_smallest_79 : decode cX10_smallest 79 = .ok (.getfield 56, 3) := by decide +kernel
theorem dX10_smallest_82 : decode cX10_smallest 82 = .ok (.iload 4, 2) := by decide +kernel
theorem dX10_smallest_84 : decode cX10_smallest 84 = .ok (.iaload, 1) := by decide +kernel
theorem dX10_smallest_85 : decode cX10_smallest 85 = .ok (.aload_n 0, 1) := by decide +kernel
theorem dX10_smallest_86 : decode cX10_smallest 86 = .ok (.getfield 56, 3) := by decide +kernel
theorem dX10_smallest_89 : decode cX10_smallest 89 = .ok (.iload_n 3, 1) := by decide +kernel
theorem dX10_smallest_90 : decode cX10_smallest 90 = .ok (.iaload, 1) := by decide +kernel
theorem dX10_smallest_91 : decode cX10_smallest 91 = .ok (.if_icmp .ge 6, 3) := by decide +kernel
theorem dX10_smallest_94 : decode cX10_smallest 94 = .ok (.iload 4, 2) := by decide +kernel
theorem dX10_smallest_96 : decode cX10_smallest 96 = .ok (.istore_n 3, 1) := by decide +kernel
theorem dX10_smallest_97 : decode cX10_smallest 97 = .ok (.iinc 4 1, 3) := by decide +kernel
theorem dX10_smallest_100 : decode cX10_smallest 100 = .ok (.goto (-94), 3) := by decide +kernel
theorem dX10_smallest_103 : decode cX10_smallest 103 = .ok (.iload_n 3, 1) := by decide +kernel
theorem dX10_smallest_104 : decode cX10_smallest 104 = .ok (.ireturn, 1) := by decide +kernel
theorem dX10_joinsTwo_0 : decode cX10_joinsTwo 0 = .ok (.iconst 0, 1) := by decide +kernel
theorem dX10_joinsTwo_1 : decode cX10_joinsTwo 1 = .ok (.istore_n 2, 1) := by decide +kernel
theorem dX10_joinsTwo_2 : decode cX10_joinsTwo 2 = .ok (.iload_n 2, 1) := by decide +kernel
theorem dX10_joinsTwo_3 : decode cX10_joinsTwo 3 = .ok (.iconst 1, 1) := by decide +kernel
theorem dX10_joinsTwo_4 : decode cX10_joinsTwo 4 = .ok (.iadd, 1) := by decide +kernel
theorem dX10_joinsTwo_5 : decode cX10_joinsTwo 5 = .ok (.aload_n 0, 1) := by decide +kernel
theorem dX10_joinsTwo_6 : decode cX10_joinsTwo 6 = .ok (.getfield 162, 3) := by decide +kernel
theorem dX10_joinsTwo_9 : decode cX10_joinsTwo 9 = .ok (.if_icmp .ge 69, 3) := by decide +kernel
theorem dX10_joinsTwo_12 : decode cX10_joinsTwo 12 = .ok (.aload_n 0, 1) := by decide +kernel
theorem dX10_joinsTwo_13 : decode cX10_joinsTwo 13 = .ok (.iload_n 2, 1) := by decide +kernel
theorem dX10_joinsTwo_14 : decode cX10_joinsTwo 14 = .ok (.invokevirtual 230, 3) := by decide +kernel
theorem dX10_joinsTwo_17 : decode cX10_joinsTwo 17 = .ok (.ifCond .eq 55, 3) := by decide +kernel
theorem dX10_joinsTwo_20 : decode cX10_joinsTwo 20 = .ok (.aload_n 0, 1) := by decide +kernel
theorem dX10_joinsTwo_21 : decode cX10_joinsTwo 21 = .ok (.iload_n 2, 1) := by decide +kernel
theorem dX10_joinsTwo_22 : decode cX10_joinsTwo 22 = .ok (.iconst 1, 1) := by decide +kernel
theorem dX10_joinsTwo_23 : decode cX10_joinsTwo 23 = .ok (.iadd, 1) := by decide +kernel
theorem dX10_joinsTwo_24 : decode cX10_joinsTwo 24 = .ok (.invokevirtual 230, 3) := by decide +kernel
theorem dX10_joinsTwo_27 : decode cX10_joinsTwo 27 = .ok (.ifCond .eq 45, 3) := by decide +kernel
theorem dX10_joinsTwo_30 : decode cX10_joinsTwo 30 = .ok (.aload_n 0, 1) := by decide +kernel
theorem dX10_joinsTwo_31 : decode cX10_joinsTwo 31 = .ok (.getfield 56, 3) := by decide +kernel
theorem dX10_joinsTwo_34 : decode cX10_joinsTwo 34 = .ok (.iload_n 2, 1) := by decide +kernel
theorem dX10_joinsTwo_35 : decode cX10_joinsTwo 35 = .ok (.iaload, 1) := by decide +kernel
theorem dX10_joinsTwo_36 : decode cX10_joinsTwo 36 = .ok (.aload_n 0, 1) := by decide +kernel
theorem dX10_joinsTwo_37 : decode cX10_joinsTwo 37 = .ok (.getfield 56, 3) := by decide +kernel
theorem dX10_joinsTwo_40 : decode cX10_joinsTwo 40 = .ok (.iload_n 2, 1) := by decide +kernel
theorem dX10_joinsTwo_41 : decode cX10_joinsTwo 41 = .ok (.iconst 1, 1) := by decide +kernel
theorem dX10_joinsTwo_42 : decode cX10_joinsTwo 42 = .ok (.iadd, 1) := by decide +kernel
theorem dX10_joinsTwo_43 : decode cX10_joinsTwo 43 = .ok (.iaload, 1) := by decide +kernel
theorem dX10_joinsTwo_44 : decode cX10_joinsTwo 44 = .ok (.iadd, 1) := by decide +kernel
theorem dX10_joinsTwo_45 : decode cX10_joinsTwo 45 = .ok (.aload_n 0, 1) := by decide +kernel
theorem dX10_joinsTwo_46 : decode cX10_joinsTwo 46 = .ok (.getfield 38, 3) := by decide +kernel
theorem dX10_joinsTwo_49 : decode cX10_joinsTwo 49 = .ok (.iload_n 1, 1) := by decide +kernel
theorem dX10_joinsTwo_50 : decode cX10_joinsTwo 50 = .ok (.iaload, 1) := by decide +kernel
theorem dX10_joinsTwo_51 : decode cX10_joinsTwo 51 = .ok (.if_icmp .lt 21, 3) := by decide +kernel
theorem dX10_joinsTwo_54 : decode cX10_joinsTwo 54 = .ok (.aload_n 0, 1) := by decide +kernel
theorem dX10_joinsTwo_55 : decode cX10_joinsTwo 55 = .ok (.getfield 59, 3) := by decide +kernel
theorem dX10_joinsTwo_58 : decode cX10_joinsTwo 58 = .ok (.iload_n 2, 1) := by decide +kernel
theorem dX10_joinsTwo_59 : decode cX10_joinsTwo 59 = .ok (.iload_n 1, 1) := by decide +kernel
theorem dX10_joinsTwo_60 : decode cX10_joinsTwo 60 = .ok (.iastore, 1) := by decide +kernel
theorem dX10_joinsTwo_61 : decode cX10_joinsTwo 61 = .ok (.aload_n 0, 1) := by decide +kernel
theorem dX10_joinsTwo_62 : decode cX10_joinsTwo 62 = .ok (.getfield 59, 3) := by decide +kernel
theorem dX10_joinsTwo_65 : decode cX10_joinsTwo 65 = .ok (.iload_n 2, 1) := by decide +kernel
theorem dX10_joinsTwo_66 : decode cX10_joinsTwo 66 = .ok (.iconst 1, 1) := by decide +kernel
theorem dX10_joinsTwo_67 : decode cX10_joinsTwo 67 = .ok (.iadd, 1) := by decide +kernel
theorem dX10_joinsTwo_68 : decode cX10_joinsTwo 68 = .ok (.iload_n 1, 1) := by decide +kernel
theorem dX10_joinsTwo_69 : decode cX10_joinsTwo 69 = .ok (.iastore, 1) := by decide +kernel
theorem dX10_joinsTwo_70 : decode cX10_joinsTwo 70 = .ok (.iconst 1, 1) := by decide +kernel
theorem dX10_joinsTwo_71 : decode cX10_joinsTwo 71 = .ok (.ireturn, 1) := by decide +kernel
theorem dX10_joinsTwo_72 : decode cX10_joinsTwo 72 = .ok (.iinc 2 1, 3) := by decide +kernel
theorem dX10_joinsTwo_75 : decode cX10_joinsTwo 75 = .ok (.goto (-73), 3) := by decide +kernel
theorem dX10_joinsTwo_78 : decode cX10_joinsTwo 78 = .ok (.iconst 0, 1) := by decide +kernel
theorem dX10_joinsTwo_79 : decode cX10_joinsTwo 79 = .ok (.ireturn, 1) := by decide +kernel
theorem dX10_allCoin_0 : decode cX10_allCoin 0 = .ok (.iconst 0, 1) := by decide +kernel
theorem dX10_allCoin_1 : decode cX10_allCoin 1 = .ok (.istore_n 1, 1) := by decide +kernel
theorem dX10_allCoin_2 : decode cX10_allCoin 2 = .ok (.iconst 0, 1) := by decide +kernel
theorem dX10_allCoin_3 : decode cX10_allCoin 3 = .ok (.istore_n 2, 1) := by decide +kernel
theorem dX10_allCoin_4 : decode cX10_allCoin 4 = .ok (.iload_n 2, 1) := by decide +kernel
theorem dX10_allCoin_5 : decode cX10_allCoin 5 = .ok (.aload_n 0, 1) := by decide +kernel
theorem dX10_allCoin_6 : decode cX10_allCoin 6 = .ok (.getfield 135, 3) := by decide +kernel
theorem dX10_allCoin_9 : decode cX10_allCoin 9 = .ok (.if_icmp .ge 18, 3) := by decide +kernel
theorem dX10_allCoin_12 : decode cX10_allCoin 12 = .ok (.iload_n 1, 1) := by decide +kernel
theorem dX10_allCoin_13 : decode cX10_allCoin 13 = .ok (.aload_n 0, 1) := by decide +kernel
theorem dX10_allCoin_14 : decode cX10_allCoin 14 = .ok (.getfield 78, 3) := by decide +kernel
theorem dX10_allCoin_17 : decode cX10_allCoin 17 = .ok (.iload_n 2, 1) := by decide +kernel
theorem dX10_allCoin_18 : decode cX10_allCoin 18 = .ok (.iaload, 1) := by decide +kernel
theorem dX10_allCoin_19 : decode cX10_allCoin 19 = .ok (.iadd, 1) := by decide +kernel
theorem dX10_allCoin_20 : decode cX10_allCoin 20 = .ok (.istore_n 1, 1) := by decide +kernel
theorem dX10_allCoin_21 : decode cX10_allCoin 21 = .ok (.iinc 2 1, 3) := by decide +kernel
theorem dX10_allCoin_24 : decode cX10_allCoin 24 = .ok (.goto (-20), 3) := by decide +kernel
theorem dX10_allCoin_27 : decode cX10_allCoin 27 = .ok (.iload_n 1, 1) := by decide +kernel
theorem dX10_allCoin_28 : decode cX10_allCoin 28 = .ok (.ireturn, 1) := by decide +kernel
theorem dX10_coinNow_0 : decode cX10_coinNow 0 = .ok (.aload_n 0, 1) := by decide +kernel
theorem dX10_coinNow_1 : decode cX10_coinNow 1 = .ok (.invokevirtual 233, 3) := by decide +kernel
theorem dX10_coinNow_4 : decode cX10_coinNow 4 = .ok (.aload_n 0, 1) := by decide +kernel
theorem dX10_coinNow_5 : decode cX10_coinNow 5 = .ok (.invokevirtual 236, 3) := by decide +kernel
theorem dX10_coinNow_8 : decode cX10_coinNow 8 = .ok (.aload_n 0, 1) := by decide +kernel
theorem dX10_coinNow_9 : decode cX10_coinNow 9 = .ok (.invokevirtual 239, 3) := by decide +kernel
theorem dX10_coinNow_12 : decode cX10_coinNow 12 = .ok (.ireturn, 1) := by decide +kernel
theorem dX10_day_0 : decode cX10_day 0 = .ok (.aload_n 0, 1) := by decide +kernel
theorem dX10_day_1 : decode cX10_day 1 = .ok (.iload_n 1, 1) := by decide +kernel
theorem dX10_day_2 : decode cX10_day 2 = .ok (.invokevirtual 156, 3) := by decide +kernel
theorem dX10_day_5 : decode cX10_day 5 = .ok (.ifCond .ne 5, 3) := by decide +kernel
theorem dX10_day_8 : decode cX10_day 8 = .ok (.iconst (-1), 1) := by decide +kernel
theorem dX10_day_9 : decode cX10_day 9 = .ok (.ireturn, 1) := by decide +kernel
theorem dX10_day_10 : decode cX10_day 10 = .ok (.iload_n 2, 1) := by decide +kernel
theorem dX10_day_11 : decode cX10_day 11 = .ok (.iconst 0, 1) := by decide +kernel
theorem dX10_day_12 : decode cX10_day 12 = .ok (.iconst 5, 1) := by decide +kernel
theorem dX10_day_13 : decode cX10_day 13 = .ok (.invokestatic 104, 3) := by decide +kernel
theorem dX10_day_16 : decode cX10_day 16 = .ok (.ifCond .ne 6, 3) := by decide +kernel
theorem dX10_day_19 : decode cX10_day 19 = .ok (.bipush (-2), 2) := by decide +kernel
theorem dX10_day_21 : decode cX10_day 21 = .ok (.ireturn, 1) := by decide +kernel
theorem dX10_day_22 : decode cX10_day 22 = .ok (.aload_n 0, 1) := by decide +kernel
theorem dX10_day_23 : decode cX10_day 23 = .ok (.invokevirtual 242, 3) := by decide +kernel
theorem dX10_day_26 : decode cX10_day 26 = .ok (.istore_n 3, 1) := by decide +kernel
theorem dX10_day_27 : decode cX10_day 27 = .ok (.iload_n 2, 1) := by decide +kernel
theorem dX10_day_28 : decode cX10_day 28 = .ok (.tableswitch 94 0 4 #[36, 66, 73, 80, 87], 36) := by decide +kernel
theorem dX10_day_64 : decode cX10_day 64 = .ok (.aload_n 0, 1) := by decide +kernel
theorem dX10_day_65 : decode cX10_day 65 = .ok (.getfield 66, 3) := by decide +kernel
theorem dX10_day_68 : decode cX10_day 68 = .ok (.iload_n 1, 1) := by decide +kernel
theorem dX10_day_69 : decode cX10_day 69 = .ok (.iaload, 1) := by decide +kernel
theorem dX10_day_70 : decode cX10_day 70 = .ok (.iconst 3, 1) := by decide +kernel
theorem dX10_day_71 : decode cX10_day 71 = .ok (.if_icmp .ne 7, 3) := by decide +kernel
theorem dX10_day_74 : decode cX10_day 74 = .ok (.iconst 1, 1) := by decide +kernel
theorem dX10_day_75 : decode cX10_day 75 = .ok (.goto 18, 3) := by decide +kernel
theorem dX10_day_78 : decode cX10_day 78 = .ok (.aload_n 0, 1) := by decide +kernel
theorem dX10_day_79 : decode cX10_day 79 = .ok (.getfield 66, 3) := by decide +kernel
theorem dX10_day_82 : decode cX10_day 82 = .ok (.iload_n 1, 1) := by decide +kernel
theorem dX10_day_83 : decode cX10_day 83 = .ok (.iaload, 1) := by decide +kernel
theorem dX10_day_84 : decode cX10_day 84 = .ok (.iconst 4, 1) := by decide +kernel
theorem dX10_day_85 : decode cX10_day 85 = .ok (.if_icmp .ne 7, 3) := by decide +kernel
theorem dX10_day_88 : decode cX10_day 88 = .ok (.iconst 2, 1) := by decide +kernel
theorem dX10_day_89 : decode cX10_day 89 = .ok (.goto 4, 3) := by decide +kernel
theorem dX10_day_92 : decode cX10_day 92 = .ok (.iconst 0, 1) := by decide +kernel
theorem dX10_day_93 : decode cX10_day 93 = .ok (.ireturn, 1) := by decide +kernel
theorem dX10_day_94 : decode cX10_day 94 = .ok (.aload_n 0, 1) := by decide +kernel
theorem dX10_day_95 : decode cX10_day 95 = .ok (.getfield 69, 3) := by decide +kernel
theorem dX10_day_98 : decode cX10_day 98 = .ok (.iload_n 1, 1) := by decide +kernel
theorem dX10_day_99 : decode cX10_day 99 = .ok (.iaload, 1) := by decide +kernel
theorem dX10_day_100 : decode cX10_day 100 = .ok (.ireturn, 1) := by decide +kernel
theorem dX10_day_101 : decode cX10_day 101 = .ok (.aload_n 0, 1) := by decide +kernel
theorem dX10_day_102 : decode cX10_day 102 = .ok (.getfield 72, 3) := by decide +kernel
theorem dX10_day_105 : decode cX10_day 105 = .ok (.iload_n 1, 1) := by decide +kernel
theorem dX10_day_106 : decode cX10_day 106 = .ok (.iaload, 1) := by decide +kernel
theorem dX10_day_107 : decode cX10_day 107 = .ok (.ireturn, 1) := by decide +kernel
theorem dX10_day_108 : decode cX10_day 108 = .ok (.aload_n 0, 1) := by decide +kernel
theorem dX10_day_109 : decode cX10_day 109 = .ok (.getfield 75, 3) := by decide +kernel
theorem dX10_day_112 : decode cX10_day 112 = .ok (.iload_n 1, 1) := by decide +kernel
theorem dX10_day_113 : decode cX10_day 113 = .ok (.iaload, 1) := by decide +kernel
theorem dX10_day_114 : decode cX10_day 114 = .ok (.ireturn, 1) := by decide +kernel
theorem dX10_day_115 : decode cX10_day 115 = .ok (.aload_n 0, 1) := by decide +kernel
theorem dX10_day_116 : decode cX10_day 116 = .ok (.getfield 78, 3) := by decide +kernel
theorem dX10_day_119 : decode cX10_day 119 = .ok (.iload_n 1, 1) := by decide +kernel
theorem dX10_day_120 : decode cX10_day 120 = .ok (.iaload, 1) := by decide +kernel
theorem dX10_day_121 : decode cX10_day 121 = .ok (.ireturn, 1) := by decide +kernel
theorem dX10_day_122 : decode cX10_day 122 = .ok (.aload_n 0, 1) := by decide +kernel
theorem dX10_day_123 : decode cX10_day 123 = .ok (.getfield 81, 3) := by decide +kernel
theorem dX10_day_126 : decode cX10_day 126 = .ok (.iload_n 1, 1) := by decide +kernel
theorem dX10_day_127 : decode cX10_day 127 = .ok (.iaload, 1) := by decide +kernel
theorem dX10_day_128 : decode cX10_day 128 = .ok (.ireturn, 1) := by decide +kernel
theorem dX10_taken_0 : decode cX10_taken 0 = .ok (.iload_n 1, 1) := by decide +kernel
theorem dX10_taken_1 : decode cX10_taken 1 = .ok (.iconst 0, 1) := by decide +kernel
theorem dX10_taken_2 : decode cX10_taken 2 = .ok (.sipush 399, 3) := by decide +kernel
theorem dX10_taken_5 : decode cX10_taken 5 = .ok (.invokestatic 104, 3) := by decide +kernel
theorem dX10_taken_8 : decode cX10_taken 8 = .ok (.ifCond .eq 12, 3) := by decide +kernel
theorem dX10_taken_11 : decode cX10_taken 11 = .ok (.iload_n 2, 1) := by decide +kernel
theorem dX10_taken_12 : decode cX10_taken 12 = .ok (.iconst 0, 1) := by decide +kernel
theorem dX10_taken_13 : decode cX10_taken 13 = .ok (.iconst 1, 1) := by decide +kernel
theorem dX10_taken_14 : decode cX10_taken 14 = .ok (.invokestatic 104, 3) := by decide +kernel
theorem dX10_taken_17 : decode cX10_taken 17 = .ok (.ifCond .ne 6, 3) := by decide +kernel
theorem dX10_taken_20 : decode cX10_taken 20 = .ok (.bipush (-2), 2) := by decide +kernel
theorem dX10_taken_22 : decode cX10_taken 22 = .ok (.ireturn, 1) := by decide +kernel
theorem dX10_taken_23 : decode cX10_taken 23 = .ok (.aload_n 0, 1) := by decide +kernel
theorem dX10_taken_24 : decode cX10_taken 24 = .ok (.invokevirtual 152, 3) := by decide +kernel
theorem dX10_taken_27 : decode cX10_taken 27 = .ok (.ifCond .ne 6, 3) := by decide +kernel
theorem dX10_taken_30 : decode cX10_taken 30 = .ok (.bipush (-3), 2) := by decide +kernel
theorem dX10_taken_32 : decode cX10_taken 32 = .ok (.ireturn, 1) := by decide +kernel
theorem dX10_taken_33 : decode cX10_taken 33 = .ok (.aload_n 0, 1) := by decide +kernel
theorem dX10_taken_34 : decode cX10_taken 34 = .ok (.invokevirtual 242, 3) := by decide +kernel
theorem dX10_taken_37 : decode cX10_taken 37 = .ok (.istore_n 3, 1) := by decide +kernel
theorem dX10_taken_38 : decode cX10_taken 38 = .ok (.iload_n 2, 1) := by decide +kernel
theorem dX10_taken_39 : decode cX10_taken 39 = .ok (.ifCond .ne 12, 3) := by decide +kernel
theorem dX10_taken_42 : decode cX10_taken 42 = .ok (.aload_n 0, 1) := by decide +kernel
theorem dX10_taken_43 : decode cX10_taken 43 = .ok (.getfield 84, 3) := by decide +kernel
theorem dX10_taken_46 : decode cX10_taken 46 = .ok (.iload_n 1, 1) := by decide +kernel
theorem dX10_taken_47 : decode cX10_taken 47 = .ok (.iaload, 1) := by decide +kernel
theorem dX10_taken_48 : decode cX10_taken 48 = .ok (.goto 9, 3) := by decide +kernel
theorem dX10_taken_51 : decode cX10_taken 51 = .ok (.aload_n 0, 1) := by decide +kernel
theorem dX10_taken_52 : decode cX10_taken 52 = .ok (.getfield 87, 3) := by decide +kernel
theorem dX10_taken_55 : decode cX10_taken 55 = .ok (.iload_n 1, 1) := by decide +kernel
theorem dX10_taken_56 : decode cX10_taken 56 = .ok (.iaload, 1) := by decide +kernel
theorem dX10_taken_57 : decode cX10_taken 57 = .ok (.ireturn, 1) := by decide +kernel
theorem dX10_coin_0 : decode cX10_coin 0 = .ok (.aload_n 0, 1) := by decide +kernel
theorem dX10_coin_1 : decode cX10_coin 1 = .ok (.invokevirtual 152, 3) := by decide +kernel
theorem dX10_coin_4 : decode cX10_coin 4 = .ok (.ifCond .eq 10, 3) := by decide +kernel
theorem dX10_coin_7 : decode cX10_coin 7 = .ok (.aload_n 0, 1) := by decide +kernel
theorem dX10_coin_8 : decode cX10_coin 8 = .ok (.invokevirtual 242, 3) := by decide +kernel
theorem dX10_coin_11 : decode cX10_coin 11 = .ok (.goto 5, 3) := by decide +kernel
theorem dX10_coin_14 : decode cX10_coin 14 = .ok (.bipush (-3), 2) := by decide +kernel
theorem dX10_coin_16 : decode cX10_coin 16 = .ok (.ireturn, 1) := by decide +kernel
theorem dX10_worth_0 : decode cX10_worth 0 = .ok (.aload_n 0, 1) := by decide +kernel
theorem dX10_worth_1 : decode cX10_worth 1 = .ok (.iload_n 1, 1) := by decide +kernel
theorem dX10_worth_2 : decode cX10_worth 2 = .ok (.invokevirtual 156, 3) := by decide +kernel
theorem dX10_worth_5 : decode cX10_worth 5 = .ok (.ifCond .ne 7, 3) := by decide +kernel
theorem dX10_worth_8 : decode cX10_worth 8 = .ok (.ldc2_w 102, 3) := by decide +kernel
theorem dX10_worth_11 : decode cX10_worth 11 = .ok (.lreturn, 1) := by decide +kernel
theorem dX10_worth_12 : decode cX10_worth 12 = .ok (.aload_n 0, 1) := by decide +kernel
theorem dX10_worth_13 : decode cX10_worth 13 = .ok (.invokevirtual 242, 3) := by decide +kernel
theorem dX10_worth_16 : decode cX10_worth 16 = .ok (.istore_n 2, 1) := by decide +kernel
theorem dX10_worth_17 : decode cX10_worth 17 = .ok (.aload_n 0, 1) := by decide +kernel
theorem dX10_worth_18 : decode cX10_worth 18 = .ok (.iload_n 1, 1) := by decide +kernel
theorem dX10_worth_19 : decode cX10_worth 19 = .ok (.putfield 174, 3) := by decide +kernel
theorem dX10_worth_22 : decode cX10_worth 22 = .ok (.aload_n 0, 1) := by decide +kernel
theorem dX10_worth_23 : decode cX10_worth 23 = .ok (.invokevirtual 236, 3) := by decide +kernel
theorem dX10_worth_26 : decode cX10_worth 26 = .ok (.iload_n 2, 1) := by decide +kernel
theorem dX10_worth_27 : decode cX10_worth 27 = .ok (.aload_n 0, 1) := by decide +kernel
theorem dX10_worth_28 : decode cX10_worth 28 = .ok (.invokevirtual 239, 3) := by decide +kernel
theorem dX10_worth_31 : decode cX10_worth 31 = .ok (.isub, 1) := by decide +kernel
theorem dX10_worth_32 : decode cX10_worth 32 = .ok (.i2l, 1) := by decide +kernel
theorem dX10_worth_33 : decode cX10_worth 33 = .ok (.lreturn, 1) := by decide +kernel
theorem dX10_planned_0 : decode cX10_planned 0 = .ok (.aload_n 0, 1) := by decide +kernel
theorem dX10_planned_1 : decode cX10_planned 1 = .ok (.getfield 135, 3) := by decide +kernel
theorem dX10_planned_4 : decode cX10_planned 4 = .ok (.bipush 6, 2) := by decide +kernel
theorem dX10_planned_6 : decode cX10_planned 6 = .ok (.if_icmp .ge 10, 3) := by decide +kernel
theorem dX10_planned_9 : decode cX10_planned 9 = .ok (.aload_n 0, 1) := by decide +kernel
theorem dX10_planned_10 : decode cX10_planned 10 = .ok (.getfield 135, 3) := by decide +kernel
theorem dX10_planned_13 : decode cX10_planned 13 = .ok (.goto 5, 3) := by decide +kernel
theorem dX10_planned_16 : decode cX10_planned 16 = .ok (.bipush 6, 2) := by decide +kernel
theorem dX10_planned_18 : decode cX10_planned 18 = .ok (.ireturn, 1) := by decide +kernel
theorem dX10_maySit_0 : decode cX10_maySit 0 = .ok (.iload_n 2, 1) := by decide +kernel
theorem dX10_maySit_1 : decode cX10_maySit 1 = .ok (.aload_n 0, 1) := by decide +kernel
theorem dX10_maySit_2 : decode cX10_maySit 2 = .ok (.getfield 108, 3) := by decide +kernel
theorem dX10_maySit_5 : decode cX10_maySit 5 = .ok (.if_icmp .ne 5, 3) := by decide +kernel
theorem dX10_maySit_8 : decode cX10_maySit 8 = .ok (.iconst 1, 1) := by decide +kernel
theorem dX10_maySit_9 : decode cX10_maySit 9 = .ok (.ireturn, 1) := by decide +kernel
theorem dX10_maySit_10 : decode cX10_maySit 10 = .ok (.aload_n 0, 1) := by decide +kernel
theorem dX10_maySit_11 : decode cX10_maySit 11 = .ok (.getfield 22, 3) := by decide +kernel
theorem dX10_maySit_14 : decode cX10_maySit 14 = .ok (.iload_n 2, 1) := by decide +kernel
theorem dX10_maySit_15 : decode cX10_maySit 15 = .ok (.iaload, 1) := by decide +kernel
theorem dX10_maySit_16 : decode cX10_maySit 16 = .ok (.aload_n 0, 1) := by decide +kernel
theorem dX10_maySit_17 : decode cX10_maySit 17 = .ok (.getfield 38, 3) := by decide +kernel
theorem dX10_maySit_20 : decode cX10_maySit 20 = .ok (.iload_n 1, 1) := by decide +kernel
theorem dX10_maySit_21 : decode cX10_maySit 21 = .ok (.iaload, 1) := by decide +kernel
theorem dX10_maySit_22 : decode cX10_maySit 22 = .ok (.if_icmp .ge 5, 3) := by decide +kernel
theorem dX10_maySit_25 : decode cX10_maySit 25 = .ok (.iconst 0, 1) := by decide +kernel
theorem dX10_maySit_26 : decode cX10_maySit 26 = .ok (.ireturn, 1) := by decide +kernel
theorem dX10_maySit_27 : decode cX10_maySit 27 = .ok (.iconst 0, 1) := by decide +kernel
theorem dX10_maySit_28 : decode cX10_maySit 28 = .ok (.istore_n 3, 1) := by decide +kernel
theorem dX10_maySit_29 : decode cX10_maySit 29 = .ok (.iload_n 3, 1) := by decide +kernel
theorem dX10_maySit_30 : decode cX10_maySit 30 = .ok (.iload_n 1, 1) := by decide +kernel
theorem dX10_maySit_31 : decode cX10_maySit 31 = .ok (.if_icmp .ge 63, 3) := by decide +kernel
theorem dX10_maySit_34 : decode cX10_maySit 34 = .ok (.aload_n 0, 1) := by decide +kernel
theorem dX10_maySit_35 : decode cX10_maySit 35 = .ok (.getfield 93, 3) := by decide +kernel
theorem dX10_maySit_38 : decode cX10_maySit 38 = .ok (.iload_n 3, 1) := by decide +kernel
theorem dX10_maySit_39 : decode cX10_maySit 39 = .ok (.iaload, 1) := by decide +kernel
theorem dX10_maySit_40 : decode cX10_maySit 40 = .ok (.iload_n 2, 1) := by decide +kernel
theorem dX10_maySit_41 : decode cX10_maySit 41 = .ok (.if_icmp .ne 47, 3) := by decide +kernel
theorem dX10_maySit_44 : decode cX10_maySit 44 = .ok (.aload_n 0, 1) := by decide +kernel
theorem dX10_maySit_45 : decode cX10_maySit 45 = .ok (.getfield 41, 3) := by decide +kernel
theorem dX10_maySit_48 : decode cX10_maySit 48 = .ok (.iload_n 3, 1) := by decide +kernel
theorem dX10_maySit_49 : decode cX10_maySit 49 = .ok (.iaload, 1) := by decide +kernel
theorem dX10_maySit_50 : decode cX10_maySit 50 = .ok (.aload_n 0, 1) := by decide +kernel
theorem dX10_maySit_51 : decode cX10_maySit 51 = .ok (.getfield 41, 3) := by decide +kernel
theorem dX10_maySit_54 : decode cX10_maySit 54 = .ok (.iload_n 1, 1) := by decide +kernel
theorem dX10_maySit_55 : decode cX10_maySit 55 = .ok (.iaload, 1) := by decide +kernel
theorem dX10_maySit_56 : decode cX10_maySit 56 = .ok (.aload_n 0, 1) := by decide +kernel
theorem dX10_maySit_57 : decode cX10_maySit 57 = .ok (.iload_n 1, 1) := by decide +kernel
theorem dX10_maySit_58 : decode cX10_maySit 58 = .ok (.invokevirtual 159, 3) := by decide +kernel
theorem dX10_maySit_61 : decode cX10_maySit 61 = .ok (.iadd, 1) := by decide +kernel
theorem dX10_maySit_62 : decode cX10_maySit 62 = .ok (.if_icmp .ge 26, 3) := by decide +kernel
theorem dX10_maySit_65 : decode cX10_maySit 65 = .ok (.aload_n 0, 1) := by decide +kernel
theorem dX10_maySit_66 : decode cX10_maySit 66 = .ok (.getfield 41, 3) := by decide +kernel
theorem dX10_maySit_69 : decode cX10_maySit 69 = .ok (.iload_n 1, 1) := by decide +kernel
theorem dX10_maySit_70 : decode cX10_maySit 70 = .ok (.iaload, 1) := by decide +kernel
theorem dX10_maySit_71 : decode cX10_maySit 71 = .ok (.aload_n 0, 1) := by decide +kernel
theorem dX10_maySit_72 : decode cX10_maySit 72 = .ok (.getfield 41, 3) := by decide +kernel
theorem dX10_maySit_75 : decode cX10_maySit 75 = .ok (.iload_n 3, 1) := by decide +kernel
theorem dX10_maySit_76 : decode cX10_maySit 76 = .ok (.iaload, 1) := by decide +kernel
theorem dX10_maySit_77 : decode cX10_maySit 77 = .ok (.aload_n 0, 1) := by decide +kernel
theorem dX10_maySit_78 : decode cX10_maySit 78 = .ok (.iload_n 3, 1) := by decide +kernel
theorem dX10_maySit_79 : decode cX10_maySit 79 = .ok (.invokevirtual 159, 3) := by decide +kernel
theorem dX10_maySit_82 : decode cX10_maySit 82 = .ok (.iadd, 1) := by decide +kernel
theorem dX10_maySit_83 : decode cX10_maySit 83 = .ok (.if_icmp .ge 5, 3) := by decide +kernel
theorem dX10_maySit_86 : decode cX10_maySit 86 = .ok (.iconst 0, 1) := by decide +kernel
theorem dX10_maySit_87 : decode cX10_maySit 87 = .ok (.ireturn, 1) := by decide +kernel
theorem dX10_maySit_88 : decode cX10_maySit 88 = .ok (.iinc 3 1, 3) := by decide +kernel
theorem dX10_maySit_91 : decode cX10_maySit 91 = .ok (.goto (-62), 3) := by decide +kernel
theorem dX10_maySit_94 : decode cX10_maySit 94 = .ok (.iconst 1, 1) := by decide +kernel
theorem dX10_maySit_95 : decode cX10_maySit 95 = .ok (.ireturn, 1) := by decide +kernel
theorem dX10_findPlan_0 : decode cX10_findPlan 0 = .ok (.aload_n 0, 1) := by decide +kernel
theorem dX10_findPlan_1 : decode cX10_findPlan 1 = .ok (.invokevirtual 245, 3) := by decide +kernel
theorem dX10_findPlan_4 : decode cX10_findPlan 4 = .ok (.istore_n 1, 1) := by decide +kernel
theorem dX10_findPlan_5 : decode cX10_findPlan 5 = .ok (.aload_n 0, 1) := by decide +kernel
theorem dX10_findPlan_6 : decode cX10_findPlan 6 = .ok (.iconst (-1), 1) := by decide +kernel
theorem dX10_findPlan_7 : decode cX10_findPlan 7 = .ok (.putfield 248, 3) := by decide +kernel
theorem dX10_findPlan_10 : decode cX10_findPlan 10 = .ok (.iload_n 1, 1) := by decide +kernel
theorem dX10_findPlan_11 : decode cX10_findPlan 11 = .ok (.ifCond .ne 9, 3) := by decide +kernel
theorem dX10_findPlan_14 : decode cX10_findPlan 14 = .ok (.aload_n 0, 1) := by decide +kernel
theorem dX10_findPlan_15 : decode cX10_findPlan 15 = .ok (.iconst 0, 1) := by decide +kernel
theorem dX10_findPlan_16 : decode cX10_findPlan 16 = .ok (.putfield 248, 3) := by decide +kernel
theorem dX10_findPlan_19 : decode cX10_findPlan 19 = .ok (.return_, 1) := by decide +kernel
theorem dX10_findPlan_20 : decode cX10_findPlan 20 = .ok (.iconst 0, 1) := by decide +kernel
theorem dX10_findPlan_21 : decode cX10_findPlan 21 = .ok (.istore_n 2, 1) := by decide +kernel
theorem dX10_findPlan_22 : decode cX10_findPlan 22 = .ok (.aload_n 0, 1) := by decide +kernel
theorem dX10_findPlan_23 : decode cX10_findPlan 23 = .ok (.getfield 93, 3) := by decide +kernel
theorem dX10_findPlan_26 : decode cX10_findPlan 26 = .ok (.iconst 0, 1) := by decide +kernel
theorem dX10_findPlan_27 : decode cX10_findPlan 27 = .ok (.iconst (-1), 1) := by decide +kernel
theorem dX10_findPlan_28 : decode cX10_findPlan 28 = .ok (.iastore, 1) := by decide +kernel
theorem dX10_findPlan_29 : decode cX10_findPlan 29 = .ok (.iload_n 2, 1) := by decide +kernel
theorem dX10_findPlan_30 : decode cX10_findPlan 30 = .ok (.ifCond .lt 100, 3) := by decide +kernel
theorem dX10_findPlan_33 : decode cX10_findPlan 33 = .ok (.aload_n 0, 1) := by decide +kernel
theorem dX10_findPlan_34 : decode cX10_findPlan 34 = .ok (.getfield 93, 3) := by decide +kernel
theorem dX10_findPlan_37 : decode cX10_findPlan 37 = .ok (.iload_n 2, 1) := by decide +kernel
theorem dX10_findPlan_38 : decode cX10_findPlan 38 = .ok (.dup2, 1) := by decide +kernel
theorem dX10_findPlan_39 : decode cX10_findPlan 39 = .ok (.iaload, 1) := by decide +kernel
theorem dX10_findPlan_40 : decode cX10_findPlan 40 = .ok (.iconst 1, 1) := by decide +kernel
theorem dX10_findPlan_41 : decode cX10_findPlan 41 = .ok (.iadd, 1) := by decide +kernel
theorem dX10_findPlan_42 : decode cX10_findPlan 42 = .ok (.iastore, 1) := by decide +kernel
theorem dX10_findPlan_43 : decode cX10_findPlan 43 = .ok (.aload_n 0, 1) := by decide +kernel
theorem dX10_findPlan_44 : decode cX10_findPlan 44 = .ok (.getfield 93, 3) := by decide +kernel
theorem dX10_findPlan_47 : decode cX10_findPlan 47 = .ok (.iload_n 2, 1) := by decide +kernel
theorem dX10_findPlan_48 : decode cX10_findPlan 48 = .ok (.iaload, 1) := by decide +kernel
theorem dX10_findPlan_49 : decode cX10_findPlan 49 = .ok (.aload_n 0, 1) := by decide +kernel
theorem dX10_findPlan_50 : decode cX10_findPlan 50 = .ok (.getfield 108, 3) := by decide +kernel
theorem dX10_findPlan_53 : decode cX10_findPlan 53 = .ok (.if_icmp .gt 30, 3) := by decide +kernel
theorem dX10_findPlan_56 : decode cX10_findPlan 56 = .ok (.aload_n 0, 1) := by decide +kernel
theorem dX10_findPlan_57 : decode cX10_findPlan 57 = .ok (.iload_n 2, 1) := by decide +kernel
theorem dX10_findPlan_58 : decode cX10_findPlan 58 = .ok (.aload_n 0, 1) := by decide +kernel
theorem dX10_findPlan_59 : decode cX10_findPlan 59 = .ok (.getfield 93, 3) := by decide +kernel
theorem dX10_findPlan_62 : decode cX10_findPlan 62 = .ok (.iload_n 2, 1) := by decide +kernel
theorem dX10_findPlan_63 : decode cX10_findPlan 63 = .ok (.iaload, 1) := by decide +kernel
theorem dX10_findPlan_64 : decode cX10_findPlan 64 = .ok (.invokevirtual 251, 3) := by decide +kernel
theorem dX10_findPlan_67 : decode cX10_findPlan 67 = .ok (.ifCond .ne 16, 3) := by decide +kernel
theorem dX10_findPlan_70 : decode cX10_findPlan 70 = .ok (.aload_n 0, 1) := by decide +kernel
theorem dX10_findPlan_71 : decode cX10_findPlan 71 = .ok (.getfield 93, 3) := by decide +kernel
theorem dX10_findPlan_74 : decode cX10_findPlan 74 = .ok (.iload_n 2, 1) := by decide +kernel
theorem dX10_findPlan_75 : decode cX10_findPlan 75 = .ok (.dup2, 1) := by decide +kernel
theorem dX10_findPlan_76 : decode cX10_findPlan 76 = .ok (.iaload, 1) := by decide +kernel
theorem dX10_findPlan_77 : decode cX10_findPlan 77 = .ok (.iconst 1, 1) := by decide +kernel
theorem dX10_findPlan_78 : decode cX10_findPlan 78 = .ok (.iadd, 1) := by decide +kernel
theorem dX10_findPlan_79 : decode cX10_findPlan 79 = .ok (.iastore, 1) := by decide +kernel
theorem dX10_findPlan_80 : decode cX10_findPlan 80 = .ok (.goto (-37), 3) := by decide +kernel
theorem dX10_findPlan_83 : decode cX10_findPlan 83 = .ok (.aload_n 0, 1) := by decide +kernel
theorem dX10_findPlan_84 : decode cX10_findPlan 84 = .ok (.getfield 93, 3) := by decide +kernel
theorem dX10_findPlan_87 : decode cX10_findPlan 87 = .ok (.iload_n 2, 1) := by decide +kernel
theorem dX10_findPlan_88 : decode cX10_findPlan 88 = .ok (.iaload, 1) := by decide +kernel
theorem dX10_findPlan_89 : decode cX10_findPlan 89 = .ok (.aload_n 0, 1) := by decide +kernel
theorem dX10_findPlan_90 : decode cX10_findPlan 90 = .ok (.getfield 108, 3) := by decide +kernel
theorem dX10_findPlan_93 : decode cX10_findPlan 93 = .ok (.if_icmp .le 9, 3) := by decide +kernel
theorem dX10_findPlan_96 : decode cX10_findPlan 96 = .ok (.iinc 2 (-1), 3) := by decide +kernel
theorem dX10_findPlan_99 : decode cX10_findPlan 99 = .ok (.goto (-70), 3) := by decide +kernel
theorem dX10_findPlan_102 : decode cX10_findPlan 102 = .ok (.iload_n 2, 1) := by decide +kernel
theorem dX10_findPlan_103 : decode cX10_findPlan 103 = .ok (.iload_n 1, 1) := by decide +kernel
theorem dX10_findPlan_104 : decode cX10_findPlan 104 = .ok (.iconst 1, 1) := by decide +kernel
theorem dX10_findPlan_105 : decode cX10_findPlan 105 = .ok (.isub, 1) := by decide +kernel
theorem dX10_findPlan_106 : decode cX10_findPlan 106 = .ok (.if_icmp .ge 16, 3) := by decide +kernel
theorem dX10_findPlan_109 : decode cX10_findPlan 109 = .ok (.iinc 2 1, 3) := by decide +kernel
theorem dX10_findPlan_112 : decode cX10_findPlan 112 = .ok (.aload_n 0, 1) := by decide +kernel
theorem dX10_findPlan_113 : decode cX10_findPlan 113 = .ok (.getfield 93, 3) := by decide +kernel
theorem dX10_findPlan_116 : decode cX10_findPlan 116 = .ok (.iload_n 2, 1) := by decide +kernel
theorem dX10_findPlan_117 : decode cX10_findPlan 117 = .ok (.iconst (-1), 1) := by decide +kernel
theorem dX10_findPlan_118 : decode cX10_findPlan 118 = .ok (.iastore, 1) := by decide +kernel
theorem dX10_findPlan_119 : decode cX10_findPlan 119 = .ok (.goto (-90), 3) := by decide +kernel
theorem dX10_findPlan_122 : decode cX10_findPlan 122 = .ok (.aload_n 0, 1) := by decide +kernel
theorem dX10_findPlan_123 : decode cX10_findPlan 123 = .ok (.iload_n 1, 1) := by decide +kernel
theorem dX10_findPlan_124 : decode cX10_findPlan 124 = .ok (.invokevirtual 254, 3) := by decide +kernel
theorem dX10_findPlan_127 : decode cX10_findPlan 127 = .ok (.goto (-98), 3) := by decide +kernel
theorem dX10_findPlan_130 : decode cX10_findPlan 130 = .ok (.return_, 1) := by decide +kernel
theorem dX10_offer_0 : decode cX10_offer 0 = .ok (.iconst 0, 1) := by decide +kernel
theorem dX10_offer_1 : decode cX10_offer 1 = .ok (.istore_n 2, 1) := by decide +kernel
theorem dX10_offer_2 : decode cX10_offer 2 = .ok (.iconst 0, 1) := by decide +kernel
theorem dX10_offer_3 : decode cX10_offer 3 = .ok (.istore_n 3, 1) := by decide +kernel
theorem dX10_offer_4 : decode cX10_offer 4 = .ok (.iload_n 3, 1) := by decide +kernel
theorem dX10_offer_5 : decode cX10_offer 5 = .ok (.iload_n 1, 1) := by decide +kernel
theorem dX10_offer_6 : decode cX10_offer 6 = .ok (.if_icmp .ge 39, 3) := by decide +kernel
theorem dX10_offer_9 : decode cX10_offer 9 = .ok (.iload_n 2, 1) := by decide +kernel
theorem dX10_offer_10 : decode cX10_offer 10 = .ok (.aload_n 0, 1) := by decide +kernel
theorem dX10_offer_11 : decode cX10_offer 11 = .ok (.getfield 93, 3) := by decide +kernel
theorem dX10_offer_14 : decode cX10_offer 14 = .ok (.iload_n 3, 1) := by decide +kernel
theorem dX10_offer_15 : decode cX10_offer 15 = .ok (.iaload, 1) := by decide +kernel
theorem dX10_offer_16 : decode cX10_offer 16 = .ok (.aload_n 0, 1) := by decide +kernel
theorem dX10_offer_17 : decode cX10_offer 17 = .ok (.getfield 108, 3) := by decide +kernel
theorem dX10_offer_20 : decode cX10_offer 20 = .ok (.if_icmp .ne 7, 3) := by decide +kernel
theorem dX10_offer_23 : decode cX10_offer 23 = .ok (.iconst 0, 1) := by decide +kernel
theorem dX10_offer_24 : decode cX10_offer 24 = .ok (.goto 13, 3) := by decide +kernel
theorem dX10_offer_27 : decode cX10_offer 27 = .ok (.aload_n 0, 1) := by decide +kernel
theorem dX10_offer_28 : decode cX10_offer 28 = .ok (.iload_n 3, 1) := by decide +kernel
theorem dX10_offer_29 : decode cX10_offer 29 = .ok (.aload_n 0, 1) := by decide +kernel
theorem dX10_offer_30 : decode cX10_offer 30 = .ok (.iload_n 3, 1) := by decide +kernel
theorem dX10_offer_31 : decode cX10_offer 31 = .ok (.invokevirtual 159, 3) := by decide +kernel
theorem dX10_offer_34 : decode cX10_offer 34 = .ok (.invokevirtual 204, 3) := by decide +kernel
theorem dX10_offer_37 : decode cX10_offer 37 = .ok (.iadd, 1) := by decide +kernel
theorem dX10_offer_38 : decode cX10_offer 38 = .ok (.istore_n 2, 1) := by decide +kernel
theorem dX10_offer_39 : decode cX10_offer 39 = .ok (.iinc 3 1, 3) := by decide +kernel
theorem dX10_offer_42 : decode cX10_offer 42 = .ok (.goto (-38), 3) := by decide +kernel
theorem dX10_offer_45 : decode cX10_offer 45 = .ok (.iload_n 2, 1) := by decide +kernel
theorem dX10_offer_46 : decode cX10_offer 46 = .ok (.aload_n 0, 1) := by decide +kernel
theorem dX10_offer_47 : decode cX10_offer 47 = .ok (.getfield 248, 3) := by decide +kernel
theorem dX10_offer_50 : decode cX10_offer 50 = .ok (.if_icmp .le 51, 3) := by decide +kernel
theorem dX10_offer_53 : decode cX10_offer 53 = .ok (.aload_n 0, 1) := by decide +kernel
theorem dX10_offer_54 : decode cX10_offer 54 = .ok (.iload_n 2, 1) := by decide +kernel
theorem dX10_offer_55 : decode cX10_offer 55 = .ok (.putfield 248, 3) := by decide +kernel
theorem dX10_offer_58 : decode cX10_offer 58 = .ok (.iconst 0, 1) := by decide +kernel
theorem dX10_offer_59 : decode cX10_offer 59 = .ok (.istore_n 3, 1) := by decide +kernel
theorem dX10_offer_60 : decode cX10_offer 60 = .ok (.iload_n 3, 1) := by decide +kernel
theorem dX10_offer_61 : decode cX10_offer 61 = .ok (.iload_n 1, 1) := by decide +kernel
theorem dX10_offer_62 : decode cX10_offer 62 = .ok (.if_icmp .ge 39, 3) := by decide +kernel
theorem dX10_offer_65 : decode cX10_offer 65 = .ok (.aload_n 0, 1) := by decide +kernel
theorem dX10_offer_66 : decode cX10_offer 66 = .ok (.getfield 96, 3) := by decide +kernel
theorem dX10_offer_69 : decode cX10_offer 69 = .ok (.iload_n 3, 1) := by decide +kernel
theorem dX10_offer_70 : decode cX10_offer 70 = .ok (.aload_n 0, 1) := by decide +kernel
theorem dX10_offer_71 : decode cX10_offer 71 = .ok (.getfield 93, 3) := by decide +kernel
theorem dX10_offer_74 : decode cX10_offer 74 = .ok (.iload_n 3, 1) := by decide +kernel
theorem dX10_offer_75 : decode cX10_offer 75 = .ok (.iaload, 1) := by decide +kernel
theorem dX10_offer_76 : decode cX10_offer 76 = .ok (.aload_n 0, 1) := by decide +kernel
theorem dX10_offer_77 : decode cX10_offer 77 = .ok (.getfield 108, 3) := by decide +kernel
theorem dX10_offer_80 : decode cX10_offer 80 = .ok (.if_icmp .ne 8, 3) := by decide +kernel
theorem dX10_offer_83 : decode cX10_offer 83 = .ok (.bipush (-9), 2) := by decide +kernel
theorem dX10_offer_85 : decode cX10_offer 85 = .ok (.goto 9, 3) := by decide +kernel
theorem dX10_offer_88 : decode cX10_offer 88 = .ok (.aload_n 0, 1) := by decide +kernel
theorem dX10_offer_89 : decode cX10_offer 89 = .ok (.getfield 93, 3) := by decide +kernel
theorem dX10_offer_92 : decode cX10_offer 92 = .ok (.iload_n 3, 1) := by decide +kernel
theorem dX10_offer_93 : decode cX10_offer 93 = .ok (.iaload, 1) := by decide +kernel
theorem dX10_offer_94 : decode cX10_offer 94 = .ok (.iastore, 1) := by decide +kernel
theorem dX10_offer_95 : decode cX10_offer 95 = .ok (.iinc 3 1, 3) := by decide +kernel
theorem dX10_offer_98 : decode cX10_offer 98 = .ok (.goto (-38), 3) := by decide +kernel
theorem dX10_offer_101 : decode cX10_offer 101 = .ok (.return_, 1) := by decide +kernel
theorem dX10_plan_0 : decode cX10_plan 0 = .ok (.iload_n 1, 1) := by decide +kernel
theorem dX10_plan_1 : decode cX10_plan 1 = .ok (.iconst (-1), 1) := by decide +kernel
theorem dX10_plan_2 : decode cX10_plan 2 = .ok (.aload_n 0, 1) := by decide +kernel
theorem dX10_plan_3 : decode cX10_plan 3 = .ok (.invokevirtual 245, 3) := by decide +kernel
theorem dX10_plan_6 : decode cX10_plan 6 = .ok (.iconst 1, 1) := by decide +kernel
theorem dX10_plan_7 : decode cX10_plan 7 = .ok (.isub, 1) := by decide +kernel
theorem dX10_plan_8 : decode cX10_plan 8 = .ok (.invokestatic 104, 3) := by decide +kernel
theorem dX10_plan_11 : decode cX10_plan 11 = .ok (.ifCond .ne 5, 3) := by decide +kernel
theorem dX10_plan_14 : decode cX10_plan 14 = .ok (.iconst (-1), 1) := by decide +kernel
theorem dX10_plan_15 : decode cX10_plan 15 = .ok (.ireturn, 1) := by decide +kernel
theorem dX10_plan_16 : decode cX10_plan 16 = .ok (.aload_n 0, 1) := by decide +kernel
theorem dX10_plan_17 : decode cX10_plan 17 = .ok (.invokevirtual 152, 3) := by decide +kernel
theorem dX10_plan_20 : decode cX10_plan 20 = .ok (.ifCond .ne 6, 3) := by decide +kernel
theorem dX10_plan_23 : decode cX10_plan 23 = .ok (.bipush (-3), 2) := by decide +kernel
theorem dX10_plan_25 : decode cX10_plan 25 = .ok (.ireturn, 1) := by decide +kernel
theorem dX10_plan_26 : decode cX10_plan 26 = .ok (.aload_n 0, 1) := by decide +kernel
theorem dX10_plan_27 : decode cX10_plan 27 = .ok (.invokevirtual 257, 3) := by decide +kernel
theorem dX10_plan_30 : decode cX10_plan 30 = .ok (.iload_n 1, 1) := by decide +kernel
theorem dX10_plan_31 : decode cX10_plan 31 = .ok (.ifCond .ge 10, 3) := by decide +kernel
theorem dX10_plan_34 : decode cX10_plan 34 = .ok (.aload_n 0, 1) := by decide +kernel
theorem dX10_plan_35 : decode cX10_plan 35 = .ok (.getfield 248, 3) := by decide +kernel
theorem dX10_plan_38 : decode cX10_plan 38 = .ok (.goto 9, 3) := by decide +kernel
theorem dX10_plan_41 : decode cX10_plan 41 = .ok (.aload_n 0, 1) := by decide +kernel
theorem dX10_plan_42 : decode cX10_plan 42 = .ok (.getfield 96, 3) := by decide +kernel
theorem dX10_plan_45 : decode cX10_plan 45 = .ok (.iload_n 1, 1) := by decide +kernel
theorem dX10_plan_46 : decode cX10_plan 46 = .ok (.iaload, 1) := by decide +kernel
theorem dX10_plan_47 : decode cX10_plan 47 = .ok (.ireturn, 1) := by decide +kernel
theorem dX10_coinBy_0 : decode cX10_coinBy 0 = .ok (.aload_n 0, 1) := by decide +kernel
theorem dX10_coinBy_1 : decode cX10_coinBy 1 = .ok (.invokevirtual 233, 3) := by decide +kernel
theorem dX10_coinBy_4 : decode cX10_coinBy 4 = .ok (.aload_n 0, 1) := by decide +kernel
theorem dX10_coinBy_5 : decode cX10_coinBy 5 = .ok (.iload_n 1, 1) := by decide +kernel
theorem dX10_coinBy_6 : decode cX10_coinBy 6 = .ok (.putfield 165, 3) := by decide +kernel
theorem dX10_coinBy_9 : decode cX10_coinBy 9 = .ok (.aload_n 0, 1) := by decide +kernel
theorem dX10_coinBy_10 : decode cX10_coinBy 10 = .ok (.iload_n 2, 1) := by decide +kernel
theorem dX10_coinBy_11 : decode cX10_coinBy 11 = .ok (.putfield 168, 3) := by decide +kernel
theorem dX10_coinBy_14 : decode cX10_coinBy 14 = .ok (.aload_n 0, 1) := by decide +kernel
theorem dX10_coinBy_15 : decode cX10_coinBy 15 = .ok (.invokevirtual 236, 3) := by decide +kernel
theorem dX10_coinBy_18 : decode cX10_coinBy 18 = .ok (.aload_n 0, 1) := by decide +kernel
theorem dX10_coinBy_19 : decode cX10_coinBy 19 = .ok (.invokevirtual 239, 3) := by decide +kernel
theorem dX10_coinBy_22 : decode cX10_coinBy 22 = .ok (.ireturn, 1) := by decide +kernel
theorem dX10_bestRule_0 : decode cX10_bestRule 0 = .ok (.iload_n 1, 1) := by decide +kernel
theorem dX10_bestRule_1 : decode cX10_bestRule 1 = .ok (.iconst 0, 1) := by decide +kernel
theorem dX10_bestRule_2 : decode cX10_bestRule 2 = .ok (.iconst 1, 1) := by decide +kernel
theorem dX10_bestRule_3 : decode cX10_bestRule 3 = .ok (.invokestatic 104, 3) := by decide +kernel
theorem dX10_bestRule_6 : decode cX10_bestRule 6 = .ok (.ifCond .ne 6, 3) := by decide +kernel
theorem dX10_bestRule_9 : decode cX10_bestRule 9 = .ok (.bipush (-2), 2) := by decide +kernel
theorem dX10_bestRule_11 : decode cX10_bestRule 11 = .ok (.ireturn, 1) := by decide +kernel
theorem dX10_bestRule_12 : decode cX10_bestRule 12 = .ok (.aload_n 0, 1) := by decide +kernel
theorem dX10_bestRule_13 : decode cX10_bestRule 13 = .ok (.invokevirtual 152, 3) := by decide +kernel
theorem dX10_bestRule_16 : decode cX10_bestRule 16 = .ok (.ifCond .ne 6, 3) := by decide +kernel
theorem dX10_bestRule_19 : decode cX10_bestRule 19 = .ok (.bipush (-3), 2) := by decide +kernel
theorem dX10_bestRule_21 : decode cX10_bestRule 21 = .ok (.ireturn, 1) := by decide +kernel
theorem dX10_bestRule_22 : decode cX10_bestRule 22 = .ok (.iconst 0, 1) := by decide +kernel
theorem dX10_bestRule_23 : decode cX10_bestRule 23 = .ok (.istore_n 2, 1) := by decide +kernel
theorem dX10_bestRule_24 : decode cX10_bestRule 24 = .ok (.iconst (-1), 1) := by decide +kernel
theorem dX10_bestRule_25 : decode cX10_bestRule 25 = .ok (.istore_n 3, 1) := by decide +kernel
theorem dX10_bestRule_26 : decode cX10_bestRule 26 = .ok (.iconst 0, 1) := by decide +kernel
theorem dX10_bestRule_27 : decode cX10_bestRule 27 = .ok (.istore 4, 2) := by decide +kernel
theorem dX10_bestRule_29 : decode cX10_bestRule 29 = .ok (.iload 4, 2) := by decide +kernel
theorem dX10_bestRule_31 : decode cX10_bestRule 31 = .ok (.iconst 3, 1) := by decide +kernel
theorem dX10_bestRule_32 : decode cX10_bestRule 32 = .ok (.if_icmp .ge 33, 3) := by decide +kernel
theorem dX10_bestRule_35 : decode cX10_bestRule 35 = .ok (.aload_n 0, 1) := by decide +kernel
theorem dX10_bestRule_36 : decode cX10_bestRule 36 = .ok (.iload 4, 2) := by decide +kernel
theorem dX10_bestRule_38 : decode cX10_bestRule 38 = .ok (.aload_n 0, 1) := by decide +kernel
theorem dX10_bestRule_39 : decode cX10_bestRule 39 = .ok (.getfield 141, 3) := by decide +kernel
theorem dX10_bestRule_42 : decode cX10_bestRule 42 = .ok (.invokevirtual 260, 3) := by decide +kernel
theorem dX10_bestRule_45 : decode cX10_bestRule 45 = .ok (.istore 5, 2) := by decide +kernel
theorem dX10_bestRule_47 : decode cX10_bestRule 47 = .ok (.iload 5, 2) := by decide +kernel
theorem dX10_bestRule_49 : decode cX10_bestRule 49 = .ok (.iload_n 3, 1) := by decide +kernel
theorem dX10_bestRule_50 : decode cX10_bestRule 50 = .ok (.if_icmp .le 9, 3) := by decide +kernel
theorem dX10_bestRule_53 : decode cX10_bestRule 53 = .ok (.iload 5, 2) := by decide +kernel
theorem dX10_bestRule_55 : decode cX10_bestRule 55 = .ok (.istore_n 3, 1) := by decide +kernel
theorem dX10_bestRule_56 : decode cX10_bestRule 56 = .ok (.iload 4, 2) := by decide +kernel
theorem dX10_bestRule_58 : decode cX10_bestRule 58 = .ok (.istore_n 2, 1) := by decide +kernel
theorem dX10_bestRule_59 : decode cX10_bestRule 59 = .ok (.iinc 4 1, 3) := by decide +kernel
theorem dX10_bestRule_62 : decode cX10_bestRule 62 = .ok (.goto (-33), 3) := by decide +kernel
theorem dX10_bestRule_65 : decode cX10_bestRule 65 = .ok (.iload_n 1, 1) := by decide +kernel
theorem dX10_bestRule_66 : decode cX10_bestRule 66 = .ok (.ifCond .ne 7, 3) := by decide +kernel
theorem dX10_bestRule_69 : decode cX10_bestRule 69 = .ok (.iload_n 2, 1) := by decide +kernel
theorem dX10_bestRule_70 : decode cX10_bestRule 70 = .ok (.goto 4, 3) := by decide +kernel
theorem dX10_bestRule_73 : decode cX10_bestRule 73 = .ok (.iload_n 3, 1) := by decide +kernel
theorem dX10_bestRule_74 : decode cX10_bestRule 74 = .ok (.ireturn, 1) := by decide +kernel
theorem dX10_waiting_0 : decode cX10_waiting 0 = .ok (.iload_n 1, 1) := by decide +kernel
theorem dX10_waiting_1 : decode cX10_waiting 1 = .ok (.iconst 0, 1) := by decide +kernel
theorem dX10_waiting_2 : decode cX10_waiting 2 = .ok (.iconst 1, 1) := by decide +kernel
theorem dX10_waiting_3 : decode cX10_waiting 3 = .ok (.invokestatic 104, 3) := by decide +kernel
theorem dX10_waiting_6 : decode cX10_waiting 6 = .ok (.ifCond .ne 6, 3) := by decide +kernel
theorem dX10_waiting_9 : decode cX10_waiting 9 = .ok (.bipush (-2), 2) := by decide +kernel
theorem dX10_waiting_11 : decode cX10_waiting 11 = .ok (.ireturn, 1) := by decide +kernel
theorem dX10_waiting_12 : decode cX10_waiting 12 = .ok (.aload_n 0, 1) := by decide +kernel
theorem dX10_waiting_13 : decode cX10_waiting 13 = .ok (.invokevirtual 152, 3) := by decide +kernel
theorem dX10_waiting_16 : decode cX10_waiting 16 = .ok (.ifCond .ne 6, 3) := by decide +kernel
theorem dX10_waiting_19 : decode cX10_waiting 19 = .ok (.bipush (-3), 2) := by decide +kernel
theorem dX10_waiting_21 : decode cX10_waiting 21 = .ok (.ireturn, 1) := by decide +kernel
theorem dX10_waiting_22 : decode cX10_waiting 22 = .ok (.iconst 0, 1) := by decide +kernel
theorem dX10_waiting_23 : decode cX10_waiting 23 = .ok (.istore_n 2, 1) := by decide +kernel
theorem dX10_waiting_24 : decode cX10_waiting 24 = .ok (.iconst (-1), 1) := by decide +kernel
theorem dX10_waiting_25 : decode cX10_waiting 25 = .ok (.istore_n 3, 1) := by decide +kernel
theorem dX10_waiting_26 : decode cX10_waiting 26 = .ok (.iconst 0, 1) := by decide +kernel
theorem dX10_waiting_27 : decode cX10_waiting 27 = .ok (.istore 4, 2) := by decide +kernel
theorem dX10_waiting_29 : decode cX10_waiting 29 = .ok (.iload 4, 2) := by decide +kernel
theorem dX10_waiting_31 : decode cX10_waiting 31 = .ok (.bipush 30, 2) := by decide +kernel
theorem dX10_waiting_33 : decode cX10_waiting 33 = .ok (.if_icmp .gt 33, 3) := by decide +kernel
theorem dX10_waiting_36 : decode cX10_waiting 36 = .ok (.aload_n 0, 1) := by decide +kernel
theorem dX10_waiting_37 : decode cX10_waiting 37 = .ok (.aload_n 0, 1) := by decide +kernel
theorem dX10_waiting_38 : decode cX10_waiting 38 = .ok (.getfield 138, 3) := by decide +kernel
theorem dX10_waiting_41 : decode cX10_waiting 41 = .ok (.iload 4, 2) := by decide +kernel
theorem dX10_waiting_43 : decode cX10_waiting 43 = .ok (.invokevirtual 260, 3) := by decide +kernel
theorem dX10_waiting_46 : decode cX10_waiting 46 = .ok (.istore 5, 2) := by decide +kernel
theorem dX10_waiting_48 : decode cX10_waiting 48 = .ok (.iload 5, 2) := by decide +kernel
theorem dX10_waiting_50 : decode cX10_waiting 50 = .ok (.iload_n 3, 1) := by decide +kernel
theorem dX10_waiting_51 : decode cX10_waiting 51 = .ok (.if_icmp .le 9, 3) := by decide +kernel
theorem dX10_waiting_54 : decode cX10_waiting 54 = .ok (.iload 5, 2) := by decide +kernel
theorem dX10_waiting_56 : decode cX10_waiting 56 = .ok (.istore_n 3, 1) := by decide +kernel
theorem dX10_waiting_57 : decode cX10_waiting 57 = .ok (.iload 4, 2) := by decide +kernel
theorem dX10_waiting_59 : decode cX10_waiting 59 = .ok (.istore_n 2, 1) := by decide +kernel
theorem dX10_waiting_60 : decode cX10_waiting 60 = .ok (.iinc 4 1, 3) := by decide +kernel
theorem dX10_waiting_63 : decode cX10_waiting 63 = .ok (.goto (-34), 3) := by decide +kernel
theorem dX10_waiting_66 : decode cX10_waiting 66 = .ok (.iload_n 1, 1) := by decide +kernel
theorem dX10_waiting_67 : decode cX10_waiting 67 = .ok (.ifCond .ne 7, 3) := by decide +kernel
theorem dX10_waiting_70 : decode cX10_waiting 70 = .ok (.iload_n 2, 1) := by decide +kernel
theorem dX10_waiting_71 : decode cX10_waiting 71 = .ok (.goto 4, 3) := by decide +kernel
theorem dX10_waiting_74 : decode cX10_waiting 74 = .ok (.iload_n 3, 1) := by decide +kernel
theorem dX10_waiting_75 : decode cX10_waiting 75 = .ok (.ireturn, 1) := by decide +kernel
theorem dX10_mix_0 : decode cX10_mix 0 = .ok (.iload_n 1, 1) := by decide +kernel
theorem dX10_mix_1 : decode cX10_mix 1 = .ok (.iconst 2, 1) := by decide +kernel
theorem dX10_mix_2 : decode cX10_mix 2 = .ok (.bipush 24, 2) := by decide +kernel
theorem dX10_mix_4 : decode cX10_mix 4 = .ok (.invokestatic 104, 3) := by decide +kernel
theorem dX10_mix_7 : decode cX10_mix 7 = .ok (.ifCond .eq 12, 3) := by decide +kernel
theorem dX10_mix_10 : decode cX10_mix 10 = .ok (.iload_n 2, 1) := by decide +kernel
theorem dX10_mix_11 : decode cX10_mix 11 = .ok (.iconst 0, 1) := by decide +kernel
theorem dX10_mix_12 : decode cX10_mix 12 = .ok (.iconst 3, 1) := by decide +kernel
theorem dX10_mix_13 : decode cX10_mix 13 = .ok (.invokestatic 104, 3) := by decide +kernel
theorem dX10_mix_16 : decode cX10_mix 16 = .ok (.ifCond .ne 6, 3) := by decide +kernel
theorem dX10_mix_19 : decode cX10_mix 19 = .ok (.bipush (-2), 2) := by decide +kernel
theorem dX10_mix_21 : decode cX10_mix 21 = .ok (.ireturn, 1) := by decide +kernel
theorem dX10_mix_22 : decode cX10_mix 22 = .ok (.aload_n 0, 1) := by decide +kernel
theorem dX10_mix_23 : decode cX10_mix 23 = .ok (.invokevirtual 152, 3) := by decide +kernel
theorem dX10_mix_26 : decode cX10_mix 26 = .ok (.ifCond .ne 6, 3) := by decide +kernel
theorem dX10_mix_29 : decode cX10_mix 29 = .ok (.bipush (-3), 2) := by decide +kernel
theorem dX10_mix_31 : decode cX10_mix 31 = .ok (.ireturn, 1) := by decide +kernel
theorem dX10_mix_32 : decode cX10_mix 32 = .ok (.iconst (-1), 1) := by decide +kernel
theorem dX10_mix_33 : decode cX10_mix 33 = .ok (.istore_n 3, 1) := by decide +kernel
theorem dX10_mix_34 : decode cX10_mix 34 = .ok (.iconst 0, 1) := by decide +kernel
theorem dX10_mix_35 : decode cX10_mix 35 = .ok (.istore 4, 2) := by decide +kernel
theorem dX10_mix_37 : decode cX10_mix 37 = .ok (.iconst 0, 1) := by decide +kernel
theorem dX10_mix_38 : decode cX10_mix 38 = .ok (.istore 5, 2) := by decide +kernel
theorem dX10_mix_40 : decode cX10_mix 40 = .ok (.iload 5, 2) := by decide +kernel
theorem dX10_mix_42 : decode cX10_mix 42 = .ok (.sipush 343, 3) := by decide +kernel
theorem dX10_mix_45 : decode cX10_mix 45 = .ok (.if_icmp .ge 100, 3) := by decide +kernel
theorem dX10_mix_48 : decode cX10_mix 48 = .ok (.iload 5, 2) := by decide +kernel
theorem dX10_mix_50 : decode cX10_mix 50 = .ok (.bipush 49, 2) := by decide +kernel
theorem dX10_mix_52 : decode cX10_mix 52 = .ok (.idiv, 1) := by decide +kernel
theorem dX10_mix_53 : decode cX10_mix 53 = .ok (.istore 6, 2) := by decide +kernel
theorem dX10_mix_55 : decode cX10_mix 55 = .ok (.iload 5, 2) := by decide +kernel
theorem dX10_mix_57 : decode cX10_mix 57 = .ok (.bipush 7, 2) := by decide +kernel
theorem dX10_mix_59 : decode cX10_mix 59 = .ok (.idiv, 1) := by decide +kernel
theorem dX10_mix_60 : decode cX10_mix 60 = .ok (.bipush 7, 2) := by decide +kernel
theorem dX10_mix_62 : decode cX10_mix 62 = .ok (.irem, 1) := by decide +kernel
theorem dX10_mix_63 : decode cX10_mix 63 = .ok (.istore 7, 2) := by decide +kernel
theorem dX10_mix_65 : decode cX10_mix 65 = .ok (.iload 5, 2) := by decide +kernel
theorem dX10_mix_67 : decode cX10_mix 67 = .ok (.bipush 7, 2) := by decide +kernel
theorem dX10_mix_69 : decode cX10_mix 69 = .ok (.irem, 1) := by decide +kernel
theorem dX10_mix_70 : decode cX10_mix 70 = .ok (.istore 8, 2) := by decide +kernel
theorem dX10_mix_72 : decode cX10_mix 72 = .ok (.iload 6, 2) := by decide +kernel
theorem dX10_mix_74 : decode cX10_mix 74 = .ok (.iload 7, 2) := by decide +kernel
theorem dX10_mix_76 : decode cX10_mix 76 = .ok (.iadd, 1) := by decide +kernel
theorem dX10_mix_77 : decode cX10_mix 77 = .ok (.iload 8, 2) := by decide +kernel
theorem dX10_mix_79 : decode cX10_mix 79 = .ok (.iadd, 1) := by decide +kernel
theorem dX10_mix_80 : decode cX10_mix 80 = .ok (.bipush 6, 2) := by decide +kernel
theorem dX10_mix_82 : decode cX10_mix 82 = .ok (.if_icmp .gt 57, 3) := by decide +kernel
theorem dX10_mix_85 : decode cX10_mix 85 = .ok (.iconst 2, 1) := by decide +kernel
theorem dX10_mix_86 : decode cX10_mix 86 = .ok (.iload 6, 2) := by decide +kernel
theorem dX10_mix_88 : decode cX10_mix 88 = .ok (.imul, 1) := by decide +kernel
theorem dX10_mix_89 : decode cX10_mix 89 = .ok (.iconst 4, 1) := by decide +kernel
theorem dX10_mix_90 : decode cX10_mix 90 = .ok (.iload 7, 2) := by decide +kernel
theorem dX10_mix_92 : decode cX10_mix 92 = .ok (.imul, 1) := by decide +kernel
theorem dX10_mix_93 : decode cX10_mix 93 = .ok (.iadd, 1) := by decide +kernel
theorem dX10_mix_94 : decode cX10_mix 94 = .ok (.bipush 6, 2) := by decide +kernel
theorem dX10_mix_96 : decode cX10_mix 96 = .ok (.iload 8, 2) := by decide +kernel
theorem dX10_mix_98 : decode cX10_mix 98 = .ok (.imul, 1) := by decide +kernel
theorem dX10_mix_99 : decode cX10_mix 99 = .ok (.iadd, 1) := by decide +kernel
theorem dX10_mix_100 : decode cX10_mix 100 = .ok (.iload_n 1, 1) := by decide +kernel
theorem dX10_mix_101 : decode cX10_mix 101 = .ok (.if_icmp .gt 38, 3) := by decide +kernel
theorem dX10_mix_104 : decode cX10_mix 104 = .ok (.aload_n 0, 1) := by decide +kernel
theorem dX10_mix_105 : decode cX10_mix 105 = .ok (.invokevirtual 233, 3) := by decide +kernel
theorem dX10_mix_108 : decode cX10_mix 108 = .ok (.aload_n 0, 1) := by decide +kernel
theorem dX10_mix_109 : decode cX10_mix 109 = .ok (.iload 6, 2) := by decide +kernel
theorem dX10_mix_111 : decode cX10_mix 111 = .ok (.iload 7, 2) := by decide +kernel
theorem dX10_mix_113 : decode cX10_mix 113 = .ok (.iload 8, 2) := by decide +kernel
theorem dX10_mix_115 : decode cX10_mix 115 = .ok (.invokevirtual 263, 3) := by decide +kernel
theorem dX10_mix_118 : decode cX10_mix 118 = .ok (.aload_n 0, 1) := by decide +kernel
theorem dX10_mix_119 : decode cX10_mix 119 = .ok (.invokevirtual 236, 3) := by decide +kernel
theorem dX10_mix_122 : decode cX10_mix 122 = .ok (.aload_n 0, 1) := by decide +kernel
theorem dX10_mix_123 : decode cX10_mix 123 = .ok (.invokevirtual 239, 3) := by decide +kernel
theorem dX10_mix_126 : decode cX10_mix 126 = .ok (.iload_n 3, 1) := by decide +kernel
theorem dX10_mix_127 : decode cX10_mix 127 = .ok (.if_icmp .le 12, 3) := by decide +kernel
theorem dX10_mix_130 : decode cX10_mix 130 = .ok (.aload_n 0, 1) := by decide +kernel
theorem dX10_mix_131 : decode cX10_mix 131 = .ok (.invokevirtual 239, 3) := by decide +kernel
theorem dX10_mix_134 : decode cX10_mix 134 = .ok (.istore_n 3, 1) := by decide +kernel
theorem dX10_mix_135 : decode cX10_mix 135 = .ok (.iload 5, 2) := by decide +kernel
theorem dX10_mix_137 : decode cX10_mix 137 = .ok (.istore 4, 2) := by decide +kernel
theorem dX10_mix_139 : decode cX10_mix 139 = .ok (.iinc 5 1, 3) := by decide +kernel
theorem dX10_mix_142 : decode cX10_mix 142 = .ok (.goto (-102), 3) := by decide +kernel
theorem dX10_mix_145 : decode cX10_mix 145 = .ok (.iload_n 2, 1) := by decide +kernel
theorem dX10_mix_146 : decode cX10_mix 146 = .ok (.ifCond .ne 7, 3) := by decide +kernel
theorem dX10_mix_149 : decode cX10_mix 149 = .ok (.iload_n 3, 1) := by decide +kernel
theorem dX10_mix_150 : decode cX10_mix 150 = .ok (.goto 37, 3) := by decide +kernel
theorem dX10_mix_153 : decode cX10_mix 153 = .ok (.iload_n 2, 1) := by decide +kernel
theorem dX10_mix_154 : decode cX10_mix 154 = .ok (.iconst 1, 1) := by decide +kernel
theorem dX10_mix_155 : decode cX10_mix 155 = .ok (.if_icmp .ne 11, 3) := by decide +kernel
theorem dX10_mix_158 : decode cX10_mix 158 = .ok (.iload 4, 2) := by decide +kernel
theorem dX10_mix_160 : decode cX10_mix 160 = .ok (.bipush 49, 2) := by decide +kernel
theorem dX10_mix_162 : decode cX10_mix 162 = .ok (.idiv, 1) := by decide +kernel
theorem dX10_mix_163 : decode cX10_mix 163 = .ok (.goto 24, 3) := by decide +kernel
theorem dX10_mix_166 : decode cX10_mix 166 = .ok (.iload_n 2, 1) := by decide +kernel
theorem dX10_mix_167 : decode cX10_mix 167 = .ok (.iconst 2, 1) := by decide +kernel
theorem dX10_mix_168 : decode cX10_mix 168 = .ok (.if_icmp .ne 14, 3) := by decide +kernel
theorem dX10_mix_171 : decode cX10_mix 171 = .ok (.iload 4, 2) := by decide +kernel
theorem dX10_mix_173 : decode cX10_mix 173 = .ok (.bipush 7, 2) := by decide +kernel
theorem dX10_mix_175 : decode cX10_mix 175 = .ok (.idiv, 1) := by decide +kernel
theorem dX10_mix_176 : decode cX10_mix 176 = .ok (.bipush 7, 2) := by decide +kernel
theorem dX10_mix_178 : decode cX10_mix 178 = .ok (.irem, 1) := by decide +kernel
theorem dX10_mix_179 : decode cX10_mix 179 = .ok (.goto 8, 3) := by decide +kernel
theorem dX10_mix_182 : decode cX10_mix 182 = .ok (.iload 4, 2) := by decide +kernel
theorem dX10_mix_184 : decode cX10_mix 184 = .ok (.bipush 7, 2) := by decide +kernel
theorem dX10_mix_186 : decode cX10_mix 186 = .ok (.irem, 1) := by decide +kernel
theorem dX10_mix_187 : decode cX10_mix 187 = .ok (.ireturn, 1) := by decide +kernel
theorem dX10_layMix_0 : decode cX10_layMix 0 = .ok (.aload_n 0, 1) := by decide +kernel
theorem dX10_layMix_1 : decode cX10_layMix 1 = .ok (.bipush (-9), 2) := by decide +kernel
theorem dX10_layMix_3 : decode cX10_layMix 3 = .ok (.putfield 171, 3) := by decide +kernel
theorem dX10_layMix_6 : decode cX10_layMix 6 = .ok (.aload_n 0, 1) := by decide +kernel
theorem dX10_layMix_7 : decode cX10_layMix 7 = .ok (.iload_n 1, 1) := by decide +kernel
theorem dX10_layMix_8 : decode cX10_layMix 8 = .ok (.iload_n 2, 1) := by decide +kernel
theorem dX10_layMix_9 : decode cX10_layMix 9 = .ok (.iadd, 1) := by decide +kernel
theorem dX10_layMix_10 : decode cX10_layMix 10 = .ok (.iload_n 3, 1) := by decide +kernel
theorem dX10_layMix_11 : decode cX10_layMix 11 = .ok (.iadd, 1) := by decide +kernel
theorem dX10_layMix_12 : decode cX10_layMix 12 = .ok (.putfield 162, 3) := by decide +kernel
theorem dX10_layMix_15 : decode cX10_layMix 15 = .ok (.iconst 0, 1) := by decide +kernel
theorem dX10_layMix_16 : decode cX10_layMix 16 = .ok (.istore 4, 2) := by decide +kernel
theorem dX10_layMix_18 : decode cX10_layMix 18 = .ok (.iload 4, 2) := by decide +kernel
theorem dX10_layMix_20 : decode cX10_layMix 20 = .ok (.aload_n 0, 1) := by decide +kernel
theorem dX10_layMix_21 : decode cX10_layMix 21 = .ok (.getfield 162, 3) := by decide +kernel
theorem dX10_layMix_24 : decode cX10_layMix 24 = .ok (.if_icmp .ge 48, 3) := by decide +kernel
theorem dX10_layMix_27 : decode cX10_layMix 27 = .ok (.aload_n 0, 1) := by decide +kernel
theorem dX10_layMix_28 : decode cX10_layMix 28 = .ok (.getfield 53, 3) := by decide +kernel
theorem dX10_layMix_31 : decode cX10_layMix 31 = .ok (.iload 4, 2) := by decide +kernel
theorem dX10_layMix_33 : decode cX10_layMix 33 = .ok (.iconst 2, 1) := by decide +kernel
theorem dX10_layMix_34 : decode cX10_layMix 34 = .ok (.iastore, 1) := by decide +kernel
theorem dX10_layMix_35 : decode cX10_layMix 35 = .ok (.aload_n 0, 1) := by decide +kernel
theorem dX10_layMix_36 : decode cX10_layMix 36 = .ok (.getfield 56, 3) := by decide +kernel
theorem dX10_layMix_39 : decode cX10_layMix 39 = .ok (.iload 4, 2) := by decide +kernel
theorem dX10_layMix_41 : decode cX10_layMix 41 = .ok (.iload 4, 2) := by decide +kernel
theorem dX10_layMix_43 : decode cX10_layMix 43 = .ok (.iload_n 1, 1) := by decide +kernel
theorem dX10_layMix_44 : decode cX10_layMix 44 = .ok (.if_icmp .ge 7, 3) := by decide +kernel
theorem dX10_layMix_47 : decode cX10_layMix 47 = .ok (.iconst 2, 1) := by decide +kernel
theorem dX10_layMix_48 : decode cX10_layMix 48 = .ok (.goto 17, 3) := by decide +kernel
theorem dX10_layMix_51 : decode cX10_layMix 51 = .ok (.iload 4, 2) := by decide +kernel
theorem dX10_layMix_53 : decode cX10_layMix 53 = .ok (.iload_n 1, 1) := by decide +kernel
theorem dX10_layMix_54 : decode cX10_layMix 54 = .ok (.iload_n 2, 1) := by decide +kernel
theorem dX10_layMix_55 : decode cX10_layMix 55 = .ok (.iadd, 1) := by decide +kernel
theorem dX10_layMix_56 : decode cX10_layMix 56 = .ok (.if_icmp .ge 7, 3) := by decide +kernel
theorem dX10_layMix_59 : decode cX10_layMix 59 = .ok (.iconst 4, 1) := by decide +kernel
theorem dX10_layMix_60 : decode cX10_layMix 60 = .ok (.goto 5, 3) := by decide +kernel
theorem dX10_layMix_63 : decode cX10_layMix 63 = .ok (.bipush 6, 2) := by decide +kernel
theorem dX10_layMix_65 : decode cX10_layMix 65 = .ok (.iastore, 1) := by decide +kernel
theorem dX10_layMix_66 : decode cX10_layMix 66 = .ok (.iinc 4 1, 3) := by decide +kernel
theorem dX10_layMix_69 : decode cX10_layMix 69 = .ok (.goto (-51), 3) := by decide +kernel
theorem dX10_layMix_72 : decode cX10_layMix 72 = .ok (.return_, 1) := by decide +kernel
theorem dX10_till_0 : decode cX10_till 0 = .ok (.iload_n 2, 1) := by decide +kernel
theorem dX10_till_1 : decode cX10_till 1 = .ok (.iconst 0, 1) := by decide +kernel
theorem dX10_till_2 : decode cX10_till 2 = .ok (.iconst 2, 1) := by decide +kernel
theorem dX10_till_3 : decode cX10_till 3 = .ok (.invokestatic 104, 3) := by decide +kernel
theorem dX10_till_6 : decode cX10_till 6 = .ok (.ifCond .ne 6, 3) := by decide +kernel
theorem dX10_till_9 : decode cX10_till 9 = .ok (.bipush (-2), 2) := by decide +kernel
theorem dX10_till_11 : decode cX10_till 11 = .ok (.ireturn, 1) := by decide +kernel
theorem dX10_till_12 : decode cX10_till 12 = .ok (.aload_n 0, 1) := by decide +kernel
theorem dX10_till_13 : decode cX10_till 13 = .ok (.invokevirtual 152, 3) := by decide +kernel
theorem dX10_till_16 : decode cX10_till 16 = .ok (.ifCond .ne 6, 3) := by decide +kernel
theorem dX10_till_19 : decode cX10_till 19 = .ok (.bipush (-3), 2) := by decide +kernel
theorem dX10_till_21 : decode cX10_till 21 = .ok (.ireturn, 1) := by decide +kernel
theorem dX10_till_22 : decode cX10_till 22 = .ok (.iconst 0, 1) := by decide +kernel
theorem dX10_till_23 : decode cX10_till 23 = .ok (.istore_n 3, 1) := by decide +kernel
theorem dX10_till_24 : decode cX10_till 24 = .ok (.bipush (-9), 2) := by decide +kernel
theorem dX10_till_26 : decode cX10_till 26 = .ok (.istore 4, 2) := by decide +kernel
theorem dX10_till_28 : decode cX10_till 28 = .ok (.bipush (-9), 2) := by decide +kernel
theorem dX10_till_30 : decode cX10_till 30 = .ok (.istore 5, 2) := by decide +kernel
theorem dX10_till_32 : decode cX10_till 32 = .ok (.iconst 0, 1) := by decide +kernel
theorem dX10_till_33 : decode cX10_till 33 = .ok (.istore 6, 2) := by decide +kernel
theorem dX10_till_35 : decode cX10_till 35 = .ok (.iload 6, 2) := by decide +kernel
theorem dX10_till_37 : decode cX10_till 37 = .ok (.bipush 30, 2) := by decide +kernel
theorem dX10_till_39 : decode cX10_till 39 = .ok (.if_icmp .gt 46, 3) := by decide +kernel
theorem dX10_till_42 : decode cX10_till 42 = .ok (.aload_n 0, 1) := by decide +kernel
theorem dX10_till_43 : decode cX10_till 43 = .ok (.aload_n 0, 1) := by decide +kernel
theorem dX10_till_44 : decode cX10_till 44 = .ok (.getfield 138, 3) := by decide +kernel
theorem dX10_till_47 : decode cX10_till 47 = .ok (.iload 6, 2) := by decide +kernel
theorem dX10_till_49 : decode cX10_till 49 = .ok (.invokevirtual 260, 3) := by decide +kernel
theorem dX10_till_52 : decode cX10_till 52 = .ok (.iload_n 1, 1) := by decide +kernel
theorem dX10_till_53 : decode cX10_till 53 = .ok (.if_icmp .ne 26, 3) := by decide +kernel
theorem dX10_till_56 : decode cX10_till 56 = .ok (.iinc 3 1, 3) := by decide +kernel
theorem dX10_till_59 : decode cX10_till 59 = .ok (.iload 4, 2) := by decide +kernel
theorem dX10_till_61 : decode cX10_till 61 = .ok (.bipush (-9), 2) := by decide +kernel
theorem dX10_till_63 : decode cX10_till 63 = .ok (.if_icmp .ne 8, 3) := by decide +kernel
theorem dX10_till_66 : decode cX10_till 66 = .ok (.iload 6, 2) := by decide +kernel
theorem dX10_till_68 : decode cX10_till 68 = .ok (.goto 5, 3) := by decide +kernel
theorem dX10_till_71 : decode cX10_till 71 = .ok (.iload 4, 2) := by decide +kernel
theorem dX10_till_73 : decode cX10_till 73 = .ok (.istore 4, 2) := by decide +kernel
theorem dX10_till_75 : decode cX10_till 75 = .ok (.iload 6, 2) := by decide +kernel
theorem dX10_till_77 : decode cX10_till 77 = .ok (.istore 5, 2) := by decide +kernel
theorem dX10_till_79 : decode cX10_till 79 = .ok (.iinc 6 1, 3) := by decide +kernel
theorem dX10_till_82 : decode cX10_till 82 = .ok (.goto (-47), 3) := by decide +kernel
theorem dX10_till_85 : decode cX10_till 85 = .ok (.iload_n 2, 1) := by decide +kernel
theorem dX10_till_86 : decode cX10_till 86 = .ok (.ifCond .ne 7, 3) := by decide +kernel
theorem dX10_till_89 : decode cX10_till 89 = .ok (.iload_n 3, 1) := by decide +kernel
theorem dX10_till_90 : decode cX10_till 90 = .ok (.goto 15, 3) := by decide +kernel
theorem dX10_till_93 : decode cX10_till 93 = .ok (.iload_n 2, 1) := by decide +kernel
theorem dX10_till_94 : decode cX10_till 94 = .ok (.iconst 1, 1) := by decide +kernel
theorem dX10_till_95 : decode cX10_till 95 = .ok (.if_icmp .ne 8, 3) := by decide +kernel
theorem dX10_till_98 : decode cX10_till 98 = .ok (.iload 4, 2) := by decide +kernel
theorem dX10_till_100 : decode cX10_till 100 = .ok (.goto 5, 3) := by decide +kernel
theorem dX10_till_103 : decode cX10_till 103 = .ok (.iload 5, 2) := by decide +kernel
theorem dX10_till_105 : decode cX10_till 105 = .ok (.ireturn, 1) := by decide +kernel
theorem dX10_awaited_0 : decode cX10_awaited 0 = .ok (.lconst 0, 1) := by decide +kernel
theorem dX10_awaited_1 : decode cX10_awaited 1 = .ok (.lstore 5, 2) := by decide +kernel
theorem dX10_awaited_3 : decode cX10_awaited 3 = .ok (.iconst 0, 1) := by decide +kernel
theorem dX10_awaited_4 : decode cX10_awaited 4 = .ok (.istore 7, 2) := by decide +kernel
theorem dX10_awaited_6 : decode cX10_awaited 6 = .ok (.iload 7, 2) := by decide +kernel
theorem dX10_awaited_8 : decode cX10_awaited 8 = .ok (.iconst 1, 1) := by decide +kernel
theorem dX10_awaited_9 : decode cX10_awaited 9 = .ok (.iload_n 0, 1) := by decide +kernel
theorem dX10_awaited_10 : decode cX10_awaited 10 = .ok (.ishl, 1) := by decide +kernel
theorem dX10_awaited_11 : decode cX10_awaited 11 = .ok (.if_icmp .ge 116, 3) := by decide +kernel
theorem dX10_awaited_14 : decode cX10_awaited 14 = .ok (.lconst 1, 1) := by decide +kernel
theorem dX10_awaited_15 : decode cX10_awaited 15 = .ok (.lstore 8, 2) := by decide +kernel
theorem dX10_awaited_17 : decode cX10_awaited 17 = .ok (.iconst 0, 1) := by decide +kernel
theorem dX10_awaited_18 : decode cX10_awaited 18 = .ok (.istore 10, 2) := by decide +kernel
theorem dX10_awaited_20 : decode cX10_awaited 20 = .ok (.iconst 0, 1) := by decide +kernel
theorem dX10_awaited_21 : decode cX10_awaited 21 = .ok (.istore 11, 2) := by decide +kernel
theorem dX10_awaited_23 : decode cX10_awaited 23 = .ok (.iload 11, 2) := by decide +kernel
theorem dX10_awaited_25 : decode cX10_awaited 25 = .ok (.iload_n 0, 1) := by decide +kernel
theorem dX10_awaited_26 : decode cX10_awaited 26 = .ok (.if_icmp .ge 62, 3) := by decide +kernel
theorem dX10_awaited_29 : decode cX10_awaited 29 = .ok (.iload 7, 2) := by decide +kernel
theorem dX10_awaited_31 : decode cX10_awaited 31 = .ok (.iload 11, 2) := by decide +kernel
theorem dX10_awaited_33 : decode cX10_awaited 33 = .ok (.ishr, 1) := by decide +kernel
theorem dX10_awaited_34 : decode cX10_awaited 34 = .ok (.iconst 1, 1) := by decide +kernel
theorem dX10_awaited_35 : decode cX10_awaited 35 = .ok (.iand, 1) := by decide +kernel
theorem dX10_awaited_36 : decode cX10_awaited 36 = .ok (.iconst 1, 1) := by decide +kernel
theorem dX10_awaited_37 : decode cX10_awaited 37 = .ok (.if_icmp .ne 7, 3) := by decide +kernel
theorem dX10_awaited_40 : decode cX10_awaited 40 = .ok (.iconst 1, 1) := by decide +kernel
theorem dX10_awaited_41 : decode cX10_awaited 41 = .ok (.goto 4, 3) := by decide +kernel
theorem dX10_awaited_44 : decode cX10_awaited 44 = .ok (.iconst 0, 1) := by decide +kernel
theorem dX10_awaited_45 : decode cX10_awaited 45 = .ok (.istore 12, 2) := by decide +kernel
theorem dX10_awaited_47 : decode cX10_awaited 47 = .ok (.iload 10, 2) := by decide +kernel
theorem dX10_awaited_49 : decode cX10_awaited 49 = .ok (.iload 12, 2) := by decide +kernel
theorem dX10_awaited_51 : decode cX10_awaited 51 = .ok (.ifCond .eq 7, 3) := by decide +kernel
theorem dX10_awaited_54 : decode cX10_awaited 54 = .ok (.iconst 1, 1) := by decide +kernel
theorem dX10_awaited_55 : decode cX10_awaited 55 = .ok (.goto 4, 3) := by decide +kernel
theorem dX10_awaited_58 : decode cX10_awaited 58 = .ok (.iconst 0, 1) := by decide +kernel
theorem dX10_awaited_59 : decode cX10_awaited 59 = .ok (.iadd, 1) := by decide +kernel
theorem dX10_awaited_60 : decode cX10_awaited 60 = .ok (.istore 10, 2) := by decide +kernel
theorem dX10_awaited_62 : decode cX10_awaited 62 = .ok (.lload 8, 2) := by decide +kernel
theorem dX10_awaited_64 : decode cX10_awaited 64 = .ok (.iload 12, 2) := by decide +kernel
theorem dX10_awaited_66 : decode cX10_awaited 66 = .ok (.ifCond .eq 8, 3) := by decide +kernel
theorem dX10_awaited_69 : decode cX10_awaited 69 = .ok (.iload_n 1, 1) := by decide +kernel
theorem dX10_awaited_70 : decode cX10_awaited 70 = .ok (.i2l, 1) := by decide +kernel
theorem dX10_awaited_71 : decode cX10_awaited 71 = .ok (.goto 8, 3) := by decide +kernel
theorem dX10_awaited_74 : decode cX10_awaited 74 = .ok (.bipush 100, 2) := by decide +kernel
theorem dX10_awaited_76 : decode cX10_awaited 76 = .ok (.iload_n 1, 1) := by decide +kernel
theorem dX10_awaited_77 : decode cX10_awaited 77 = .ok (.isub, 1) := by decide +kernel
theorem dX10_awaited_78 : decode cX10_awaited 78 = .ok (.i2l, 1) := by decide +kernel
theorem dX10_awaited_79 : decode cX10_awaited 79 = .ok (.lmul, 1) := by decide +kernel
theorem dX10_awaited_80 : decode cX10_awaited 80 = .ok (.lstore 8, 2) := by decide +kernel
theorem dX10_awaited_82 : decode cX10_awaited 82 = .ok (.iinc 11 1, 3) := by decide +kernel
theorem dX10_awaited_85 : decode cX10_awaited 85 = .ok (.goto (-62), 3) := by decide +kernel
theorem dX10_awaited_88 : decode cX10_awaited 88 = .ok (.lload 5, 2) := by decide +kernel
theorem dX10_awaited_90 : decode cX10_awaited 90 = .ok (.lload 8, 2) := by decide +kernel
theorem dX10_awaited_92 : decode cX10_awaited 92 = .ok (.iload 10, 2) := by decide +kernel
theorem dX10_awaited_94 : decode cX10_awaited 94 = .ok (.iload_n 2, 1) := by decide +kernel
theorem dX10_awaited_95 : decode cX10_awaited 95 = .ok (.if_icmp .le 17, 3) := by decide +kernel
theorem dX10_awaited_98 : decode cX10_awaited 98 = .ok (.iload_n 3, 1) := by decide +kernel
theorem dX10_awaited_99 : decode cX10_awaited 99 = .ok (.iload_n 2, 1) := by decide +kernel
theorem dX10_awaited_100 : decode cX10_awaited 100 = .ok (.imul, 1) := by decide +kernel
theorem dX10_awaited_101 : decode cX10_awaited 101 = .ok (.iload 4, 2) := by decide +kernel
theorem dX10_awaited_103 : decode cX10_awaited 103 = .ok (.iload 10, 2) := by decide +kernel
theorem dX10_awaited_105 : decode cX10_awaited 105 = .ok (.iload_n 2, 1) := by decide +kernel
theorem dX10_awaited_106 : decode cX10_awaited 106 = .ok (.isub, 1) := by decide +kernel
theorem dX10_awaited_107 : decode cX10_awaited 107 = .ok (.imul, 1) := by decide +kernel
theorem dX10_awaited_108 : decode cX10_awaited 108 = .ok (.isub, 1) := by decide +kernel
theorem dX10_awaited_109 : decode cX10_awaited 109 = .ok (.goto 7, 3) := by decide +kernel
theorem dX10_awaited_112 : decode cX10_awaited 112 = .ok (.iload_n 3, 1) := by decide +kernel
theorem dX10_awaited_113 : decode cX10_awaited 113 = .ok (.iload 10, 2) := by decide +kernel
theorem dX10_awaited_115 : decode cX10_awaited 115 = .ok (.imul, 1) := by decide +kernel
theorem dX10_awaited_116 : decode cX10_awaited 116 = .ok (.i2l, 1) := by decide +kernel
theorem dX10_awaited_117 : decode cX10_awaited 117 = .ok (.lmul, 1) := by decide +kernel
theorem dX10_awaited_118 : decode cX10_awaited 118 = .ok (.ladd, 1) := by decide +kernel
theorem dX10_awaited_119 : decode cX10_awaited 119 = .ok (.lstore 5, 2) := by decide +kernel
theorem dX10_awaited_121 : decode cX10_awaited 121 = .ok (.iinc 7 1, 3) := by decide +kernel
theorem dX10_awaited_124 : decode cX10_awaited 124 = .ok (.goto (-118), 3) := by decide +kernel
theorem dX10_awaited_127 : decode cX10_awaited 127 = .ok (.lload 5, 2) := by decide +kernel
theorem dX10_awaited_129 : decode cX10_awaited 129 = .ok (.lreturn, 1) := by decide +kernel
theorem dX10_hundreds_0 : decode cX10_hundreds 0 = .ok (.lconst 1, 1) := by decide +kernel
theorem dX10_hundreds_1 : decode cX10_hundreds 1 = .ok (.lstore_n 1, 1) := by decide +kernel
theorem dX10_hundreds_2 : decode cX10_hundreds 2 = .ok (.iconst 0, 1) := by decide +kernel
theorem dX10_hundreds_3 : decode cX10_hundreds 3 = .ok (.istore_n 3, 1) := by decide +kernel
theorem dX10_hundreds_4 : decode cX10_hundreds 4 = .ok (.iload_n 3, 1) := by decide +kernel
theorem dX10_hundreds_5 : decode cX10_hundreds 5 = .ok (.iload_n 0, 1) := by decide +kernel
theorem dX10_hundreds_6 : decode cX10_hundreds 6 = .ok (.if_icmp .ge 15, 3) := by decide +kernel
theorem dX10_hundreds_9 : decode cX10_hundreds 9 = .ok (.lload_n 1, 1) := by decide +kernel
theorem dX10_hundreds_10 : decode cX10_hundreds 10 = .ok (.ldc2_w 267, 3) := by decide +kernel
theorem dX10_hundreds_13 : decode cX10_hundreds 13 = .ok (.lmul, 1) := by decide +kernel
theorem dX10_hundreds_14 : decode cX10_hundreds 14 = .ok (.lstore_n 1, 1) := by decide +kernel
theorem dX10_hundreds_15 : decode cX10_hundreds 15 = .ok (.iinc 3 1, 3) := by decide +kernel
theorem dX10_hundreds_18 : decode cX10_hundreds 18 = .ok (.goto (-14), 3) := by decide +kernel
theorem dX10_hundreds_21 : decode cX10_hundreds 21 = .ok (.lload_n 1, 1) := by decide +kernel
theorem dX10_hundreds_22 : decode cX10_hundreds 22 = .ok (.lreturn, 1) := by decide +kernel
theorem dX10_areNames_0 : decode cX10_areNames 0 = .ok (.iload_n 0, 1) := by decide +kernel
theorem dX10_areNames_1 : decode cX10_areNames 1 = .ok (.iconst 0, 1) := by decide +kernel
theorem dX10_areNames_2 : decode cX10_areNames 2 = .ok (.bipush 100, 2) := by decide +kernel
theorem dX10_areNames_4 : decode cX10_areNames 4 = .ok (.invokestatic 104, 3) := by decide +kernel
theorem dX10_areNames_7 : decode cX10_areNames 7 = .ok (.ifCond .eq 37, 3) := by decide +kernel
theorem dX10_areNames_10 : decode cX10_areNames 10 = .ok (.iload_n 1, 1) := by decide +kernel
theorem dX10_areNames_11 : decode cX10_areNames 11 = .ok (.iconst 0, 1) := by decide +kernel
theorem dX10_areNames_12 : decode cX10_areNames 12 = .ok (.bipush 8, 2) := by decide +kernel
theorem dX10_areNames_14 : decode cX10_areNames 14 = .ok (.invokestatic 104, 3) := by decide +kernel
theorem dX10_areNames_17 : decode cX10_areNames 17 = .ok (.ifCond .eq 27, 3) := by decide +kernel
theorem dX10_areNames_20 : decode cX10_areNames 20 = .ok (.iload_n 2, 1) := by decide +kernel
theorem dX10_areNames_21 : decode cX10_areNames 21 = .ok (.iconst 0, 1) := by decide +kernel
theorem dX10_areNames_22 : decode cX10_areNames 22 = .ok (.bipush 9, 2) := by decide +kernel
theorem dX10_areNames_24 : decode cX10_areNames 24 = .ok (.invokestatic 104, 3) := by decide +kernel
theorem dX10_areNames_27 : decode cX10_areNames 27 = .ok (.ifCond .eq 17, 3) := by decide +kernel
theorem dX10_areNames_30 : decode cX10_areNames 30 = .ok (.iload_n 3, 1) := by decide +kernel
theorem dX10_areNames_31 : decode cX10_areNames 31 = .ok (.iconst 0, 1) := by decide +kernel
theorem dX10_areNames_32 : decode cX10_areNames 32 = .ok (.bipush 9, 2) := by decide +kernel
theorem dX10_areNames_34 : decode cX10_areNames 34 = .ok (.invokestatic 104, 3) := by decide +kernel
theorem dX10_areNames_37 : decode cX10_areNames 37 = .ok (.ifCond .eq 7, 3) := by decide +kernel
theorem dX10_areNames_40 : decode cX10_areNames 40 = .ok (.iconst 1, 1) := by decide +kernel
theorem dX10_areNames_41 : decode cX10_areNames 41 = .ok (.goto 4, 3) := by decide +kernel
theorem dX10_areNames_44 : decode cX10_areNames 44 = .ok (.iconst 0, 1) := by decide +kernel
theorem dX10_areNames_45 : decode cX10_areNames 45 = .ok (.ireturn, 1) := by decide +kernel
theorem dX10_names_0 : decode cX10_names 0 = .ok (.iload_n 1, 1) := by decide +kernel
theorem dX10_names_1 : decode cX10_names 1 = .ok (.iconst 0, 1) := by decide +kernel
theorem dX10_names_2 : decode cX10_names 2 = .ok (.bipush 8, 2) := by decide +kernel
theorem dX10_names_4 : decode cX10_names 4 = .ok (.invokestatic 104, 3) := by decide +kernel
theorem dX10_names_7 : decode cX10_names 7 = .ok (.ifCond .eq 25, 3) := by decide +kernel
theorem dX10_names_10 : decode cX10_names 10 = .ok (.iload_n 2, 1) := by decide +kernel
theorem dX10_names_11 : decode cX10_names 11 = .ok (.iload_n 3, 1) := by decide +kernel
theorem dX10_names_12 : decode cX10_names 12 = .ok (.iload 4, 2) := by decide +kernel
theorem dX10_names_14 : decode cX10_names 14 = .ok (.iload 5, 2) := by decide +kernel
theorem dX10_names_16 : decode cX10_names 16 = .ok (.invokestatic 269, 3) := by decide +kernel
theorem dX10_names_19 : decode cX10_names 19 = .ok (.ifCond .eq 13, 3) := by decide +kernel
theorem dX10_names_22 : decode cX10_names 22 = .ok (.iload 6, 2) := by decide +kernel
theorem dX10_names_24 : decode cX10_names 24 = .ok (.iconst 0, 1) := by decide +kernel
theorem dX10_names_25 : decode cX10_names 25 = .ok (.iconst 1, 1) := by decide +kernel
theorem dX10_names_26 : decode cX10_names 26 = .ok (.invokestatic 104, 3) := by decide +kernel
theorem dX10_names_29 : decode cX10_names 29 = .ok (.ifCond .ne 7, 3) := by decide +kernel
theorem dX10_names_32 : decode cX10_names 32 = .ok (.ldc2_w 102, 3) := by decide +kernel
theorem dX10_names_35 : decode cX10_names 35 = .ok (.lreturn, 1) := by decide +kernel
theorem dX10_names_36 : decode cX10_names 36 = .ok (.iload_n 1, 1) := by decide +kernel
theorem dX10_names_37 : decode cX10_names 37 = .ok (.iload_n 2, 1) := by decide +kernel
theorem dX10_names_38 : decode cX10_names 38 = .ok (.iload_n 3, 1) := by decide +kernel
theorem dX10_names_39 : decode cX10_names 39 = .ok (.iload 4, 2) := by decide +kernel
theorem dX10_names_41 : decode cX10_names 41 = .ok (.iload 5, 2) := by decide +kernel
theorem dX10_names_43 : decode cX10_names 43 = .ok (.invokestatic 273, 3) := by decide +kernel
theorem dX10_names_46 : decode cX10_names 46 = .ok (.iload_n 1, 1) := by decide +kernel
theorem dX10_names_47 : decode cX10_names 47 = .ok (.invokestatic 277, 3) := by decide +kernel
theorem dX10_names_50 : decode cX10_names 50 = .ok (.iload 6, 2) := by decide +kernel
theorem dX10_names_52 : decode cX10_names 52 = .ok (.invokestatic 281, 3) := by decide +kernel
theorem dX10_names_55 : decode cX10_names 55 = .ok (.lreturn, 1) := by decide +kernel
theorem dX10_take_0 : decode cX10_take 0 = .ok (.iload_n 1, 1) := by decide +kernel
theorem dX10_take_1 : decode cX10_take 1 = .ok (.iload_n 2, 1) := by decide +kernel
theorem dX10_take_2 : decode cX10_take 2 = .ok (.iload_n 3, 1) := by decide +kernel
theorem dX10_take_3 : decode cX10_take 3 = .ok (.iload 4, 2) := by decide +kernel
theorem dX10_take_5 : decode cX10_take 5 = .ok (.invokestatic 269, 3) := by decide +kernel
theorem dX10_take_8 : decode cX10_take 8 = .ok (.ifCond .ne 6, 3) := by decide +kernel
theorem dX10_take_11 : decode cX10_take 11 = .ok (.bipush (-2), 2) := by decide +kernel
theorem dX10_take_13 : decode cX10_take 13 = .ok (.ireturn, 1) := by decide +kernel
theorem dX10_take_14 : decode cX10_take 14 = .ok (.iconst 0, 1) := by decide +kernel
theorem dX10_take_15 : decode cX10_take 15 = .ok (.istore 5, 2) := by decide +kernel
theorem dX10_take_17 : decode cX10_take 17 = .ok (.lconst 0, 1) := by decide +kernel
theorem dX10_take_18 : decode cX10_take 18 = .ok (.lstore 6, 2) := by decide +kernel
theorem dX10_take_20 : decode cX10_take 20 = .ok (.iconst 1, 1) := by decide +kernel
theorem dX10_take_21 : decode cX10_take 21 = .ok (.istore 8, 2) := by decide +kernel
theorem dX10_take_23 : decode cX10_take 23 = .ok (.iload 8, 2) := by decide +kernel
theorem dX10_take_25 : decode cX10_take 25 = .ok (.bipush 8, 2) := by decide +kernel
theorem dX10_take_27 : decode cX10_take 27 = .ok (.if_icmp .gt 46, 3) := by decide +kernel
theorem dX10_take_30 : decode cX10_take 30 = .ok (.iload 8, 2) := by decide +kernel
theorem dX10_take_32 : decode cX10_take 32 = .ok (.iload_n 1, 1) := by decide +kernel
theorem dX10_take_33 : decode cX10_take 33 = .ok (.iload_n 2, 1) := by decide +kernel
theorem dX10_take_34 : decode cX10_take 34 = .ok (.iload_n 3, 1) := by decide +kernel
theorem dX10_take_35 : decode cX10_take 35 = .ok (.iload 4, 2) := by decide +kernel
theorem dX10_take_37 : decode cX10_take 37 = .ok (.invokestatic 273, 3) := by decide +kernel
theorem dX10_take_40 : decode cX10_take 40 = .ok (.bipush 8, 2) := by decide +kernel
theorem dX10_take_42 : decode cX10_take 42 = .ok (.iload 8, 2) := by decide +kernel
theorem dX10_take_44 : decode cX10_take 44 = .ok (.isub, 1) := by decide +kernel
theorem dX10_take_45 : decode cX10_take 45 = .ok (.invokestatic 277, 3) := by decide +kernel
theorem dX10_take_48 : decode cX10_take 48 = .ok (.lmul, 1) := by decide +kernel
theorem dX10_take_49 : decode cX10_take 49 = .ok (.lstore 9, 2) := by decide +kernel
theorem dX10_take_51 : decode cX10_take 51 = .ok (.lload 9, 2) := by decide +kernel
theorem dX10_take_53 : decode cX10_take 53 = .ok (.lload 6, 2) := by decide +kernel
theorem dX10_take_55 : decode cX10_take 55 = .ok (.lcmp, 1) := by decide +kernel
theorem dX10_take_56 : decode cX10_take 56 = .ok (.ifCond .le 11, 3) := by decide +kernel
theorem dX10_take_59 : decode cX10_take 59 = .ok (.lload 9, 2) := by decide +kernel
theorem dX10_take_61 : decode cX10_take 61 = .ok (.lstore 6, 2) := by decide +kernel
theorem dX10_take_63 : decode cX10_take 63 = .ok (.iload 8, 2) := by decide +kernel
theorem dX10_take_65 : decode cX10_take 65 = .ok (.istore 5, 2) := by decide +kernel
theorem dX10_take_67 : decode cX10_take 67 = .ok (.iinc 8 1, 3) := by decide +kernel
theorem dX10_take_70 : decode cX10_take 70 = .ok (.goto (-47), 3) := by decide +kernel
theorem dX10_take_73 : decode cX10_take 73 = .ok (.iload 5, 2) := by decide +kernel
theorem dX10_take_75 : decode cX10_take 75 = .ok (.ireturn, 1) := by decide +kernel
theorem dX10_sheet_0 : decode cX10_sheet 0 = .ok (.aload_n 0, 1) := by decide +kernel
theorem dX10_sheet_1 : decode cX10_sheet 1 = .ok (.iconst 0, 1) := by decide +kernel
theorem dX10_sheet_2 : decode cX10_sheet 2 = .ok (.putfield 99, 3) := by decide +kernel
theorem dX10_sheet_5 : decode cX10_sheet 5 = .ok (.iload_n 1, 1) := by decide +kernel
theorem dX10_sheet_6 : decode cX10_sheet 6 = .ok (.invokestatic 114, 3) := by decide +kernel
theorem dX10_sheet_9 : decode cX10_sheet 9 = .ok (.ifCond .ne 5, 3) := by decide +kernel
theorem dX10_sheet_12 : decode cX10_sheet 12 = .ok (.iconst (-1), 1) := by decide +kernel
theorem dX10_sheet_13 : decode cX10_sheet 13 = .ok (.ireturn, 1) := by decide +kernel
theorem dX10_sheet_14 : decode cX10_sheet 14 = .ok (.iload_n 2, 1) := by decide +kernel
theorem dX10_sheet_15 : decode cX10_sheet 15 = .ok (.invokestatic 118, 3) := by decide +kernel
theorem dX10_sheet_18 : decode cX10_sheet 18 = .ok (.ifCond .eq 9, 3) := by decide +kernel
theorem dX10_sheet_21 : decode cX10_sheet 21 = .ok (.iload_n 3, 1) := by decide +kernel
theorem dX10_sheet_22 : decode cX10_sheet 22 = .ok (.bipush 40, 2) := by decide +kernel
theorem dX10_sheet_24 : decode cX10_sheet 24 = .ok (.if_icmp .le 6, 3) := by decide +kernel
theorem dX10_sheet_27 : decode cX10_sheet 27 = .ok (.bipush (-2), 2) := by decide +kernel
theorem dX10_sheet_29 : decode cX10_sheet 29 = .ok (.ireturn, 1) := by decide +kernel
theorem dX10_sheet_30 : decode cX10_sheet 30 = .ok (.iload_n 3, 1) := by decide +kernel
theorem dX10_sheet_31 : decode cX10_sheet 31 = .ok (.ifCond .ge 9, 3) := by decide +kernel
theorem dX10_sheet_34 : decode cX10_sheet 34 = .ok (.aload_n 0, 1) := by decide +kernel
theorem dX10_sheet_35 : decode cX10_sheet 35 = .ok (.iconst 4, 1) := by decide +kernel
theorem dX10_sheet_36 : decode cX10_sheet 36 = .ok (.invokevirtual 125, 3) := by decide +kernel
theorem dX10_sheet_39 : decode cX10_sheet 39 = .ok (.ireturn, 1) := by decide +kernel
theorem dX10_sheet_40 : decode cX10_sheet 40 = .ok (.aload_n 0, 1) := by decide +kernel
theorem dX10_sheet_41 : decode cX10_sheet 41 = .ok (.getfield 9, 3) := by decide +kernel
theorem dX10_sheet_44 : decode cX10_sheet 44 = .ok (.iload_n 1, 1) := by decide +kernel
theorem dX10_sheet_45 : decode cX10_sheet 45 = .ok (.iload_n 2, 1) := by decide +kernel
theorem dX10_sheet_46 : decode cX10_sheet 46 = .ok (.iastore, 1) := by decide +kernel
theorem dX10_sheet_47 : decode cX10_sheet 47 = .ok (.aload_n 0, 1) := by decide +kernel
theorem dX10_sheet_48 : decode cX10_sheet 48 = .ok (.getfield 13, 3) := by decide +kernel
theorem dX10_sheet_51 : decode cX10_sheet 51 = .ok (.iload_n 1, 1) := by decide +kernel
theorem dX10_sheet_52 : decode cX10_sheet 52 = .ok (.iload_n 3, 1) := by decide +kernel
theorem dX10_sheet_53 : decode cX10_sheet 53 = .ok (.iastore, 1) := by decide +kernel
theorem dX10_sheet_54 : decode cX10_sheet 54 = .ok (.iconst 0, 1) := by decide +kernel
theorem dX10_sheet_55 : decode cX10_sheet 55 = .ok (.istore 4, 2) := by decide +kernel
theorem dX10_sheet_57 : decode cX10_sheet 57 = .ok (.iload 4, 2) := by decide +kernel
theorem dX10_sheet_59 : decode cX10_sheet 59 = .ok (.bipush 40, 2) := by decide +kernel
theorem dX10_sheet_61 : decode cX10_sheet 61 = .ok (.if_icmp .ge 22, 3) := by decide +kernel
theorem dX10_sheet_64 : decode cX10_sheet 64 = .ok (.aload_n 0, 1) := by decide +kernel
theorem dX10_sheet_65 : decode cX10_sheet 65 = .ok (.getfield 16, 3) := by decide +kernel
theorem dX10_sheet_68 : decode cX10_sheet 68 = .ok (.bipush 40, 2) := by decide +kernel
theorem dX10_sheet_70 : decode cX10_sheet 70 = .ok (.iload_n 1, 1) := by decide +kernel
theorem dX10_sheet_71 : decode cX10_sheet 71 = .ok (.imul, 1) := by decide +kernel
theorem dX10_sheet_72 : decode cX10_sheet 72 = .ok (.iload 4, 2) := by decide +kernel
theorem dX10_sheet_74 : decode cX10_sheet 74 = .ok (.iadd, 1) := by decide +kernel
theorem dX10_sheet_75 : decode cX10_sheet 75 = .ok (.iconst 0, 1) := by decide +kernel
theorem dX10_sheet_76 : decode cX10_sheet 76 = .ok (.iastore, 1) := by decide +kernel
theorem dX10_sheet_77 : decode cX10_sheet 77 = .ok (.iinc 4 1, 3) := by decide +kernel
theorem dX10_sheet_80 : decode cX10_sheet 80 = .ok (.goto (-23), 3) := by decide +kernel
theorem dX10_sheet_83 : decode cX10_sheet 83 = .ok (.iconst 1, 1) := by decide +kernel
theorem dX10_sheet_84 : decode cX10_sheet 84 = .ok (.ireturn, 1) := by decide +kernel
theorem dX10_lose_0 : decode cX10_lose 0 = .ok (.iload_n 1, 1) := by decide +kernel
theorem dX10_lose_1 : decode cX10_lose 1 = .ok (.invokestatic 114, 3) := by decide +kernel
theorem dX10_lose_4 : decode cX10_lose 4 = .ok (.ifCond .ne 5, 3) := by decide +kernel
theorem dX10_lose_7 : decode cX10_lose 7 = .ok (.iconst (-1), 1) := by decide +kernel
theorem dX10_lose_8 : decode cX10_lose 8 = .ok (.ireturn, 1) := by decide +kernel
theorem dX10_lose_9 : decode cX10_lose 9 = .ok (.aload_n 0, 1) := by decide +kernel
theorem dX10_lose_10 : decode cX10_lose 10 = .ok (.getfield 9, 3) := by decide +kernel
theorem dX10_lose_13 : decode cX10_lose 13 = .ok (.iload_n 1, 1) := by decide +kernel
theorem dX10_lose_14 : decode cX10_lose 14 = .ok (.iaload, 1) := by decide +kernel
theorem dX10_lose_15 : decode cX10_lose 15 = .ok (.bipush (-9), 2) := by decide +kernel
theorem dX10_lose_17 : decode cX10_lose 17 = .ok (.if_icmp .ne 7, 3) := by decide +kernel
theorem dX10_lose_20 : decode cX10_lose 20 = .ok (.iconst 0, 1) := by decide +kernel
theorem dX10_lose_21 : decode cX10_lose 21 = .ok (.goto 4, 3) := by decide +kernel
theorem dX10_lose_24 : decode cX10_lose 24 = .ok (.iconst 1, 1) := by decide +kernel
theorem dX10_lose_25 : decode cX10_lose 25 = .ok (.istore_n 2, 1) := by decide +kernel
theorem dX10_lose_26 : decode cX10_lose 26 = .ok (.aload_n 0, 1) := by decide +kernel
theorem dX10_lose_27 : decode cX10_lose 27 = .ok (.getfield 9, 3) := by decide +kernel
theorem dX10_lose_30 : decode cX10_lose 30 = .ok (.iload_n 1, 1) := by decide +kernel
theorem dX10_lose_31 : decode cX10_lose 31 = .ok (.bipush (-9), 2) := by decide +kernel
theorem dX10_lose_33 : decode cX10_lose 33 = .ok (.iastore, 1) := by decide +kernel
theorem dX10_lose_34 : decode cX10_lose 34 = .ok (.iload_n 2, 1) := by decide +kernel
theorem dX10_lose_35 : decode cX10_lose 35 = .ok (.ireturn, 1) := by decide +kernel
theorem dX10_put_0 : decode cX10_put 0 = .ok (.aload_n 0, 1) := by decide +kernel
theorem dX10_put_1 : decode cX10_put 1 = .ok (.iconst 0, 1) := by decide +kernel
theorem dX10_put_2 : decode cX10_put 2 = .ok (.putfield 99, 3) := by decide +kernel
theorem dX10_put_5 : decode cX10_put 5 = .ok (.iload_n 1, 1) := by decide +kernel
theorem dX10_put_6 : decode cX10_put 6 = .ok (.invokestatic 114, 3) := by decide +kernel
theorem dX10_put_9 : decode cX10_put 9 = .ok (.ifCond .ne 5, 3) := by decide +kernel
theorem dX10_put_12 : decode cX10_put 12 = .ok (.iconst (-1), 1) := by decide +kernel
theorem dX10_put_13 : decode cX10_put 13 = .ok (.ireturn, 1) := by decide +kernel
theorem dX10_put_14 : decode cX10_put 14 = .ok (.aload_n 0, 1) := by decide +kernel
theorem dX10_put_15 : decode cX10_put 15 = .ok (.getfield 9, 3) := by decide +kernel
theorem dX10_put_18 : decode cX10_put 18 = .ok (.iload_n 1, 1) := by decide +kernel
theorem dX10_put_19 : decode cX10_put 19 = .ok (.iaload, 1) := by decide +kernel
theorem dX10_put_20 : decode cX10_put 20 = .ok (.bipush (-9), 2) := by decide +kernel
theorem dX10_put_22 : decode cX10_put 22 = .ok (.if_icmp .ne 9, 3) := by decide +kernel
theorem dX10_put_25 : decode cX10_put 25 = .ok (.aload_n 0, 1) := by decide +kernel
theorem dX10_put_26 : decode cX10_put 26 = .ok (.iconst 1, 1) := by decide +kernel
theorem dX10_put_27 : decode cX10_put 27 = .ok (.invokevirtual 125, 3) := by decide +kernel
theorem dX10_put_30 : decode cX10_put 30 = .ok (.ireturn, 1) := by decide +kernel
theorem dX10_put_31 : decode cX10_put 31 = .ok (.iload_n 2, 1) := by decide +kernel
theorem dX10_put_32 : decode cX10_put 32 = .ok (.iconst 0, 1) := by decide +kernel
theorem dX10_put_33 : decode cX10_put 33 = .ok (.aload_n 0, 1) := by decide +kernel
theorem dX10_put_34 : decode cX10_put 34 = .ok (.getfield 13, 3) := by decide +kernel
theorem dX10_put_37 : decode cX10_put 37 = .ok (.iload_n 1, 1) := by decide +kernel
theorem dX10_put_38 : decode cX10_put 38 = .ok (.iaload, 1) := by decide +kernel
theorem dX10_put_39 : decode cX10_put 39 = .ok (.iconst 1, 1) := by decide +kernel
theorem dX10_put_40 : decode cX10_put 40 = .ok (.isub, 1) := by decide +kernel
theorem dX10_put_41 : decode cX10_put 41 = .ok (.invokestatic 104, 3) := by decide +kernel
theorem dX10_put_44 : decode cX10_put 44 = .ok (.ifCond .ne 9, 3) := by decide +kernel
theorem dX10_put_47 : decode cX10_put 47 = .ok (.aload_n 0, 1) := by decide +kernel
theorem dX10_put_48 : decode cX10_put 48 = .ok (.iconst 3, 1) := by decide +kernel
theorem dX10_put_49 : decode cX10_put 49 = .ok (.invokevirtual 125, 3) := by decide +kernel
theorem dX10_put_52 : decode cX10_put 52 = .ok (.ireturn, 1) := by decide +kernel
theorem dX10_put_53 : decode cX10_put 53 = .ok (.aload_n 0, 1) := by decide +kernel
theorem dX10_put_54 : decode cX10_put 54 = .ok (.getfield 16, 3) := by decide +kernel
theorem dX10_put_57 : decode cX10_put 57 = .ok (.bipush 40, 2) := by decide +kernel
theorem dX10_put_59 : decode cX10_put 59 = .ok (.iload_n 1, 1) := by decide +kernel
theorem dX10_put_60 : decode cX10_put 60 = .ok (.imul, 1) := by decide +kernel
theorem dX10_put_61 : decode cX10_put 61 = .ok (.iload_n 2, 1) := by decide +kernel
theorem dX10_put_62 : decode cX10_put 62 = .ok (.iadd, 1) := by decide +kernel
theorem dX10_put_63 : decode cX10_put 63 = .ok (.aload_n 0, 1) := by decide +kernel
theorem dX10_put_64 : decode cX10_put 64 = .ok (.getfield 9, 3) := by decide +kernel
theorem dX10_put_67 : decode cX10_put 67 = .ok (.iload_n 1, 1) := by decide +kernel
theorem dX10_put_68 : decode cX10_put 68 = .ok (.iaload, 1) := by decide +kernel
theorem dX10_put_69 : decode cX10_put 69 = .ok (.ifCond .ne 8, 3) := by decide +kernel
theorem dX10_put_72 : decode cX10_put 72 = .ok (.iload_n 3, 1) := by decide +kernel
theorem dX10_put_73 : decode cX10_put 73 = .ok (.i2b, 1) := by decide +kernel
theorem dX10_put_74 : decode cX10_put 74 = .ok (.goto 19, 3) := by decide +kernel
theorem dX10_put_77 : decode cX10_put 77 = .ok (.aload_n 0, 1) := by decide +kernel
theorem dX10_put_78 : decode cX10_put 78 = .ok (.getfield 9, 3) := by decide +kernel
theorem dX10_put_81 : decode cX10_put 81 = .ok (.iload_n 1, 1) := by decide +kernel
theorem dX10_put_82 : decode cX10_put 82 = .ok (.iaload, 1) := by decide +kernel
theorem dX10_put_83 : decode cX10_put 83 = .ok (.iconst 1, 1) := by decide +kernel
theorem dX10_put_84 : decode cX10_put 84 = .ok (.if_icmp .ne 8, 3) := by decide +kernel
theorem dX10_put_87 : decode cX10_put 87 = .ok (.iload_n 3, 1) := by decide +kernel
theorem dX10_put_88 : decode cX10_put 88 = .ok (.i2s, 1) := by decide +kernel
theorem dX10_put_89 : decode cX10_put 89 = .ok (.goto 4, 3) := by decide +kernel
theorem dX10_put_92 : decode cX10_put 92 = .ok (.iload_n 3, 1) := by decide +kernel
theorem dX10_put_93 : decode cX10_put 93 = .ok (.iastore, 1) := by decide +kernel
theorem dX10_put_94 : decode cX10_put 94 = .ok (.iconst 1, 1) := by decide +kernel
theorem dX10_put_95 : decode cX10_put 95 = .ok (.ireturn, 1) := by decide +kernel
theorem dX10_cell_0 : decode cX10_cell 0 = .ok (.aload_n 0, 1) := by decide +kernel
theorem dX10_cell_1 : decode cX10_cell 1 = .ok (.iconst 0, 1) := by decide +kernel
theorem dX10_cell_2 : decode cX10_cell 2 = .ok (.putfield 99, 3) := by decide +kernel
theorem dX10_cell_5 : decode cX10_cell 5 = .ok (.iload_n 1, 1) := by decide +kernel
theorem dX10_cell_6 : decode cX10_cell 6 = .ok (.invokestatic 114, 3) := by decide +kernel
theorem dX10_cell_9 : decode cX10_cell 9 = .ok (.ifCond .eq 10, 3) := by decide +kernel
theorem dX10_cell_12 : decode cX10_cell 12 = .ok (.iload_n 3, 1) := by decide +kernel
theorem dX10_cell_13 : decode cX10_cell 13 = .ok (.invokestatic 118, 3) := by decide +kernel
theorem dX10_cell_16 : decode cX10_cell 16 = .ok (.ifCond .ne 7, 3) := by decide +kernel
theorem dX10_cell_19 : decode cX10_cell 19 = .ok (.ldc2_w 102, 3) := by decide +kernel
theorem dX10_cell_22 : decode cX10_cell 22 = .ok (.lreturn, 1) := by decide +kernel
theorem dX10_cell_23 : decode cX10_cell 23 = .ok (.aload_n 0, 1) := by decide +kernel
theorem dX10_cell_24 : decode cX10_cell 24 = .ok (.getfield 9, 3) := by decide +kernel
theorem dX10_cell_27 : decode cX10_cell 27 = .ok (.iload_n 1, 1) := by decide +kernel
theorem dX10_cell_28 : decode cX10_cell 28 = .ok (.iaload, 1) := by decide +kernel
theorem dX10_cell_29 : decode cX10_cell 29 = .ok (.bipush (-9), 2) := by decide +kernel
theorem dX10_cell_31 : decode cX10_cell 31 = .ok (.if_icmp .eq 19, 3) := by decide +kernel
theorem dX10_cell_34 : decode cX10_cell 34 = .ok (.aload_n 0, 1) := by decide +kernel
theorem dX10_cell_35 : decode cX10_cell 35 = .ok (.getfield 9, 3) := by decide +kernel
theorem dX10_cell_38 : decode cX10_cell 38 = .ok (.iload_n 1, 1) := by decide +kernel
theorem dX10_cell_39 : decode cX10_cell 39 = .ok (.iaload, 1) := by decide +kernel
theorem dX10_cell_40 : decode cX10_cell 40 = .ok (.iload_n 3, 1) := by decide +kernel
theorem dX10_cell_41 : decode cX10_cell 41 = .ok (.if_icmp .eq 9, 3) := by decide +kernel
theorem dX10_cell_44 : decode cX10_cell 44 = .ok (.aload_n 0, 1) := by decide +kernel
theorem dX10_cell_45 : decode cX10_cell 45 = .ok (.iconst 2, 1) := by decide +kernel
theorem dX10_cell_46 : decode cX10_cell 46 = .ok (.invokevirtual 285, 3) := by decide +kernel
theorem dX10_cell_49 : decode cX10_cell 49 = .ok (.lreturn, 1) := by decide +kernel
theorem dX10_cell_50 : decode cX10_cell 50 = .ok (.aload_n 0, 1) := by decide +kernel
theorem dX10_cell_51 : decode cX10_cell 51 = .ok (.getfield 9, 3) := by decide +kernel
theorem dX10_cell_54 : decode cX10_cell 54 = .ok (.iload_n 1, 1) := by decide +kernel
theorem dX10_cell_55 : decode cX10_cell 55 = .ok (.iaload, 1) := by decide +kernel
theorem dX10_cell_56 : decode cX10_cell 56 = .ok (.bipush (-9), 2) := by decide +kernel
theorem dX10_cell_58 : decode cX10_cell 58 = .ok (.if_icmp .ne 9, 3) := by decide +kernel
theorem dX10_cell_61 : decode cX10_cell 61 = .ok (.aload_n 0, 1) := by decide +kernel
theorem dX10_cell_62 : decode cX10_cell 62 = .ok (.iconst 1, 1) := by decide +kernel
theorem dX10_cell_63 : decode cX10_cell 63 = .ok (.invokevirtual 285, 3) := by decide +kernel
theorem dX10_cell_66 : decode cX10_cell 66 = .ok (.lreturn, 1) := by decide +kernel
theorem dX10_cell_67 : decode cX10_cell 67 = .ok (.iload_n 2, 1) := by decide +kernel
theorem dX10_cell_68 : decode cX10_cell 68 = .ok (.iconst 0, 1) := by decide +kernel
theorem dX10_cell_69 : decode cX10_cell 69 = .ok (.aload_n 0, 1) := by decide +kernel
theorem dX10_cell_70 : decode cX10_cell 70 = .ok (.getfield 13, 3) := by decide +kernel
theorem dX10_cell_73 : decode cX10_cell 73 = .ok (.iload_n 1, 1) := by decide +kernel
theorem dX10_cell_74 : decode cX10_cell 74 = .ok (.iaload, 1) := by decide +kernel
theorem dX10_cell_75 : decode cX10_cell 75 = .ok (.iconst 1, 1) := by decide +kernel
theorem dX10_cell_76 : decode cX10_cell 76 = .ok (.isub, 1) := by decide +kernel
theorem dX10_cell_77 : decode cX10_cell 77 = .ok (.invokestatic 104, 3) := by decide +kernel
theorem dX10_cell_80 : decode cX10_cell 80 = .ok (.ifCond .ne 9, 3) := by decide +kernel
theorem dX10_cell_83 : decode cX10_cell 83 = .ok (.aload_n 0, 1) := by decide +kernel
theorem dX10_cell_84 : decode cX10_cell 84 = .ok (.iconst 3, 1) := by decide +kernel
theorem dX10_cell_85 : decode cX10_cell 85 = .ok (.invokevirtual 285, 3) := by decide +kernel
theorem dX10_cell_88 : decode cX10_cell 88 = .ok (.lreturn, 1) := by decide +kernel
theorem dX10_cell_89 : decode cX10_cell 89 = .ok (.aload_n 0, 1) := by decide +kernel
theorem dX10_cell_90 : decode cX10_cell 90 = .ok (.getfield 16, 3) := by decide +kernel
theorem dX10_cell_93 : decode cX10_cell 93 = .ok (.bipush 40, 2) := by decide +kernel
theorem dX10_cell_95 : decode cX10_cell 95 = .ok (.iload_n 1, 1) := by decide +kernel
theorem dX10_cell_96 : decode cX10_cell 96 = .ok (.imul, 1) := by decide +kernel
theorem dX10_cell_97 : decode cX10_cell 97 = .ok (.iload_n 2, 1) := by decide +kernel
theorem dX10_cell_98 : decode cX10_cell 98 = .ok (.iadd, 1) := by decide +kernel
theorem dX10_cell_99 : decode cX10_cell 99 = .ok (.iaload, 1) := by decide +kernel
theorem dX10_cell_100 : decode cX10_cell 100 = .ok (.i2l, 1) := by decide +kernel
theorem dX10_cell_101 : decode cX10_cell 101 = .ok (.lreturn, 1) := by decide +kernel
theorem dX10_copy_0 : decode cX10_copy 0 = .ok (.aload_n 0, 1) := by decide +kernel
theorem dX10_copy_1 : decode cX10_copy 1 = .ok (.iconst 0, 1) := by decide +kernel
theorem dX10_copy_2 : decode cX10_copy 2 = .ok (.putfield 99, 3) := by decide +kernel
theorem dX10_copy_5 : decode cX10_copy 5 = .ok (.iload_n 1, 1) := by decide +kernel
theorem dX10_copy_6 : decode cX10_copy 6 = .ok (.invokestatic 114, 3) := by decide +kernel
theorem dX10_copy_9 : decode cX10_copy 9 = .ok (.ifCond .eq 10, 3) := by decide +kernel
theorem dX10_copy_12 : decode cX10_copy 12 = .ok (.iload_n 3, 1) := by decide +kernel
theorem dX10_copy_13 : decode cX10_copy 13 = .ok (.invokestatic 114, 3) := by decide +kernel
theorem dX10_copy_16 : decode cX10_copy 16 = .ok (.ifCond .ne 5, 3) := by decide +kernel
theorem dX10_copy_19 : decode cX10_copy 19 = .ok (.iconst (-1), 1) := by decide +kernel
theorem dX10_copy_20 : decode cX10_copy 20 = .ok (.ireturn, 1) := by decide +kernel
theorem dX10_copy_21 : decode cX10_copy 21 = .ok (.aload_n 0, 1) := by decide +kernel
theorem dX10_copy_22 : decode cX10_copy 22 = .ok (.getfield 9, 3) := by decide +kernel
theorem dX10_copy_25 : decode cX10_copy 25 = .ok (.iload_n 1, 1) := by decide +kernel
theorem dX10_copy_26 : decode cX10_copy 26 = .ok (.iaload, 1) := by decide +kernel
theorem dX10_copy_27 : decode cX10_copy 27 = .ok (.bipush (-9), 2) := by decide +kernel
theorem dX10_copy_29 : decode cX10_copy 29 = .ok (.if_icmp .eq 14, 3) := by decide +kernel
theorem dX10_copy_32 : decode cX10_copy 32 = .ok (.aload_n 0, 1) := by decide +kernel
theorem dX10_copy_33 : decode cX10_copy 33 = .ok (.getfield 9, 3) := by decide +kernel
theorem dX10_copy_36 : decode cX10_copy 36 = .ok (.iload_n 3, 1) := by decide +kernel
theorem dX10_copy_37 : decode cX10_copy 37 = .ok (.iaload, 1) := by decide +kernel
theorem dX10_copy_38 : decode cX10_copy 38 = .ok (.bipush (-9), 2) := by decide +kernel
theorem dX10_copy_40 : decode cX10_copy 40 = .ok (.if_icmp .ne 9, 3) := by decide +kernel
theorem dX10_copy_43 : decode cX10_copy 43 = .ok (.aload_n 0, 1) := by decide +kernel
theorem dX10_copy_44 : decode cX10_copy 44 = .ok (.iconst 1, 1) := by decide +kernel
theorem dX10_copy_45 : decode cX10_copy 45 = .ok (.invokevirtual 125, 3) := by decide +kernel
theorem dX10_copy_48 : decode cX10_copy 48 = .ok (.ireturn, 1) := by decide +kernel
theorem dX10_copy_49 : decode cX10_copy 49 = .ok (.aload_n 0, 1) := by decide +kernel
theorem dX10_copy_50 : decode cX10_copy 50 = .ok (.getfield 9, 3) := by decide +kernel
theorem dX10_copy_53 : decode cX10_copy 53 = .ok (.iload_n 1, 1) := by decide +kernel
theorem dX10_copy_54 : decode cX10_copy 54 = .ok (.iaload, 1) := by decide +kernel
theorem dX10_copy_55 : decode cX10_copy 55 = .ok (.aload_n 0, 1) := by decide +kernel
theorem dX10_copy_56 : decode cX10_copy 56 = .ok (.getfield 9, 3) := by decide +kernel
theorem dX10_copy_59 : decode cX10_copy 59 = .ok (.iload_n 3, 1) := by decide +kernel
theorem dX10_copy_60 : decode cX10_copy 60 = .ok (.iaload, 1) := by decide +kernel
theorem dX10_copy_61 : decode cX10_copy 61 = .ok (.if_icmp .eq 9, 3) := by decide +kernel
theorem dX10_copy_64 : decode cX10_copy 64 = .ok (.aload_n 0, 1) := by decide +kernel
theorem dX10_copy_65 : decode cX10_copy 65 = .ok (.iconst 2, 1) := by decide +kernel
theorem dX10_copy_66 : decode cX10_copy 66 = .ok (.invokevirtual 125, 3) := by decide +kernel
theorem dX10_copy_69 : decode cX10_copy 69 = .ok (.ireturn, 1) := by decide +kernel
theorem dX10_copy_70 : decode cX10_copy 70 = .ok (.iload_n 2, 1) := by decide +kernel
theorem dX10_copy_71 : decode cX10_copy 71 = .ok (.ifCond .lt 38, 3) := by decide +kernel
theorem dX10_copy_74 : decode cX10_copy 74 = .ok (.iload 4, 2) := by decide +kernel
theorem dX10_copy_76 : decode cX10_copy 76 = .ok (.ifCond .lt 33, 3) := by decide +kernel
theorem dX10_copy_79 : decode cX10_copy 79 = .ok (.iload 5, 2) := by decide +kernel
theorem dX10_copy_81 : decode cX10_copy 81 = .ok (.ifCond .lt 28, 3) := by decide +kernel
theorem dX10_copy_84 : decode cX10_copy 84 = .ok (.iload_n 2, 1) := by decide +kernel
theorem dX10_copy_85 : decode cX10_copy 85 = .ok (.aload_n 0, 1) := by decide +kernel
theorem dX10_copy_86 : decode cX10_copy 86 = .ok (.getfield 13, 3) := by decide +kernel
theorem dX10_copy_89 : decode cX10_copy 89 = .ok (.iload_n 1, 1) := by decide +kernel
theorem dX10_copy_90 : decode cX10_copy 90 = .ok (.iaload, 1) := by decide +kernel
theorem dX10_copy_91 : decode cX10_copy 91 = .ok (.if_icmp .gt 18, 3) := by decide +kernel
theorem dX10_copy_94 : decode cX10_copy 94 = .ok (.iload 4, 2) := by decide +kernel
theorem dX10_copy_96 : decode cX10_copy 96 = .ok (.aload_n 0, 1) := by decide +kernel
theorem dX10_copy_97 : decode cX10_copy 97 = .ok (.getfield 13, 3) := by decide +kernel
theorem dX10_copy_100 : decode cX10_copy 100 = .ok (.iload_n 3, 1) := by decide +kernel
theorem dX10_copy_101 : decode cX10_copy 101 = .ok (.iaload, 1) := by decide +kernel
theorem dX10_copy_102 : decode cX10_copy 102 = .ok (.if_icmp .gt 7, 3) := by decide +kernel
theorem dX10_copy_105 : decode cX10_copy 105 = .ok (.iconst 1, 1) := by decide +kernel
theorem dX10_copy_106 : decode cX10_copy 106 = .ok (.goto 4, 3) := by decide +kernel
theorem dX10_copy_109 : decode cX10_copy 109 = .ok (.iconst 0, 1) := by decide +kernel
theorem dX10_copy_110 : decode cX10_copy 110 = .ok (.istore 6, 2) := by decide +kernel
theorem dX10_copy_112 : decode cX10_copy 112 = .ok (.iload 6, 2) := by decide +kernel
theorem dX10_copy_114 : decode cX10_copy 114 = .ok (.ifCond .eq 30, 3) := by decide +kernel
theorem dX10_copy_117 : decode cX10_copy 117 = .ok (.iload 5, 2) := by decide +kernel
theorem dX10_copy_119 : decode cX10_copy 119 = .ok (.aload_n 0, 1) := by decide +kernel
theorem dX10_copy_120 : decode cX10_copy 120 = .ok (.getfield 13, 3) := by decide +kernel
theorem dX10_copy_123 : decode cX10_copy 123 = .ok (.iload_n 1, 1) := by decide +kernel
theorem dX10_copy_124 : decode cX10_copy 124 = .ok (.iaload, 1) := by decide +kernel
theorem dX10_copy_125 : decode cX10_copy 125 = .ok (.iload_n 2, 1) := by decide +kernel
theorem dX10_copy_126 : decode cX10_copy 126 = .ok (.isub, 1) := by decide +kernel
theorem dX10_copy_127 : decode cX10_copy 127 = .ok (.if_icmp .gt 17, 3) := by decide +kernel
theorem dX10_copy_130 : decode cX10_copy 130 = .ok (.iload 5, 2) := by decide +kernel
theorem dX10_copy_132 : decode cX10_copy 132 = .ok (.aload_n 0, 1) := by decide +kernel
theorem dX10_copy_133 : decode cX10_copy 133 = .ok (.getfield 13, 3) := by decide +kernel
theorem dX10_copy_136 : decode cX10_copy 136 = .ok (.iload_n 3, 1) := by decide +kernel
theorem dX10_copy_137 : decode cX10_copy 137 = .ok (.iaload, 1) := by decide +kernel
theorem dX10_copy_138 : decode cX10_copy 138 = .ok (.iload 4, 2) := by decide +kernel
theorem dX10_copy_140 : decode cX10_copy 140 = .ok (.isub, 1) := by decide +kernel
theorem dX10_copy_141 : decode cX10_copy 141 = .ok (.if_icmp .le 9, 3) := by decide +kernel
theorem dX10_copy_144 : decode cX10_copy 144 = .ok (.aload_n 0, 1) := by decide +kernel
theorem dX10_copy_145 : decode cX10_copy 145 = .ok (.iconst 3, 1) := by decide +kernel
theorem dX10_copy_146 : decode cX10_copy 146 = .ok (.invokevirtual 125, 3) := by decide +kernel
theorem dX10_copy_149 : decode cX10_copy 149 = .ok (.ireturn, 1) := by decide +kernel
theorem dX10_copy_150 : decode cX10_copy 150 = .ok (.iload_n 2, 1) := by decide +kernel
theorem dX10_copy_151 : decode cX10_copy 151 = .ok (.iload 4, 2) := by decide +kernel
theorem dX10_copy_153 : decode cX10_copy 153 = .ok (.if_icmp .ge 7, 3) := by decide +kernel
theorem dX10_copy_156 : decode cX10_copy 156 = .ok (.iconst 1, 1) := by decide +kernel
theorem dX10_copy_157 : decode cX10_copy 157 = .ok (.goto 4, 3) := by decide +kernel
theorem dX10_copy_160 : decode cX10_copy 160 = .ok (.iconst 0, 1) := by decide +kernel
theorem dX10_copy_161 : decode cX10_copy 161 = .ok (.istore 7, 2) := by decide +kernel
theorem dX10_copy_163 : decode cX10_copy 163 = .ok (.iconst 0, 1) := by decide +kernel
theorem dX10_copy_164 : decode cX10_copy 164 = .ok (.istore 8, 2) := by decide +kernel
theorem dX10_copy_166 : decode cX10_copy 166 = .ok (.iload 8, 2) := by decide +kernel
theorem dX10_copy_168 : decode cX10_copy 168 = .ok (.iload 5, 2) := by decide +kernel
theorem dX10_copy_170 : decode cX10_copy 170 = .ok (.if_icmp .ge 57, 3) := by decide +kernel
theorem dX10_copy_173 : decode cX10_copy 173 = .ok (.iload 7, 2) := by decide +kernel
theorem dX10_copy_175 : decode cX10_copy 175 = .ok (.ifCond .eq 13, 3) := by decide +kernel
theorem dX10_copy_178 : decode cX10_copy 178 = .ok (.iload 5, 2) := by decide +kernel
theorem dX10_copy_180 : decode cX10_copy 180 = .ok (.iconst 1, 1) := by decide +kernel
theorem dX10_copy_181 : decode cX10_copy 181 = .ok (.isub, 1) := by decide +kernel
theorem dX10_copy_182 : decode cX10_copy 182 = .ok (.iload 8, 2) := by decide +kernel
theorem dX10_copy_184 : decode cX10_copy 184 = .ok (.isub, 1) := by decide +kernel
theorem dX10_copy_185 : decode cX10_copy 185 = .ok (.goto 5, 3) := by decide +kernel
theorem dX10_copy_188 : decode cX10_copy 188 = .ok (.iload 8, 2) := by decide +kernel
theorem dX10_copy_190 : decode cX10_copy 190 = .ok (.istore 9, 2) := by decide +kernel
theorem dX10_copy_192 : decode cX10_copy 192 = .ok (.aload_n 0, 1) := by decide +kernel
theorem dX10_copy_193 : decode cX10_copy 193 = .ok (.getfield 16, 3) := by decide +kernel
theorem dX10_copy_196 : decode cX10_copy 196 = .ok (.bipush 40, 2) := by decide +kernel
theorem dX10_copy_198 : decode cX10_copy 198 = .ok (.iload_n 3, 1) := by decide +kernel
theorem dX10_copy_199 : decode cX10_copy 199 = .ok (.imul, 1) := by decide +kernel
theorem dX10_copy_200 : decode cX10_copy 200 = .ok (.iload 4, 2) := by decide +kernel
theorem dX10_copy_202 : decode cX10_copy 202 = .ok (.iadd, 1) := by decide +kernel
theorem dX10_copy_203 : decode cX10_copy 203 = .ok (.iload 9, 2) := by decide +kernel
theorem dX10_copy_205 : decode cX10_copy 205 = .ok (.iadd, 1) := by decide +kernel
theorem dX10_copy_206 : decode cX10_copy 206 = .ok (.aload_n 0, 1) := by decide +kernel
theorem dX10_copy_207 : decode cX10_copy 207 = .ok (.getfield 16, 3) := by decide +kernel
theorem dX10_copy_210 : decode cX10_copy 210 = .ok (.bipush 40, 2) := by decide +kernel
theorem dX10_copy_212 : decode cX10_copy 212 = .ok (.iload_n 1, 1) := by decide +kernel
theorem dX10_copy_213 : decode cX10_copy 213 = .ok (.imul, 1) := by decide +kernel
theorem dX10_copy_214 : decode cX10_copy 214 = .ok (.iload_n 2, 1) := by decide +kernel
theorem dX10_copy_215 : decode cX10_copy 215 = .ok (.iadd, 1) := by decide +kernel
theorem dX10_copy_216 : decode cX10_copy 216 = .ok (.iload 9, 2) := by decide +kernel
theorem dX10_copy_218 : decode cX10_copy 218 = .ok (.iadd, 1) := by decide +kernel
theorem dX10_copy_219 : decode cX10_copy 219 = .ok (.iaload, 1) := by decide +kernel
theorem dX10_copy_220 : decode cX10_copy 220 = .ok (.iastore, 1) := by decide +kernel
theorem dX10_copy_221 : decode cX10_copy 221 = .ok (.iinc 8 1, 3) := by decide +kernel
theorem dX10_copy_224 : decode cX10_copy 224 = .ok (.goto (-58), 3) := by decide +kernel
theorem dX10_copy_227 : decode cX10_copy 227 = .ok (.iload 5, 2) := by decide +kernel
theorem dX10_copy_229 : decode cX10_copy 229 = .ok (.ireturn, 1) := by decide +kernel
theorem dX10_begins_0 : decode cX10_begins 0 = .ok (.aload_n 0, 1) := by decide +kernel
theorem dX10_begins_1 : decode cX10_begins 1 = .ok (.bipush 31, 2) := by decide +kernel
theorem dX10_begins_3 : decode cX10_begins 3 = .ok (.aload_n 0, 1) := by decide +kernel
theorem dX10_begins_4 : decode cX10_begins 4 = .ok (.getfield 288, 3) := by decide +kernel
theorem dX10_begins_7 : decode cX10_begins 7 = .ok (.imul, 1) := by decide +kernel
theorem dX10_begins_8 : decode cX10_begins 8 = .ok (.iload_n 1, 1) := by decide +kernel
theorem dX10_begins_9 : decode cX10_begins 9 = .ok (.iadd, 1) := by decide +kernel
theorem dX10_begins_10 : decode cX10_begins 10 = .ok (.putfield 288, 3) := by decide +kernel
theorem dX10_begins_13 : decode cX10_begins 13 = .ok (.return_, 1) := by decide +kernel
theorem dX10_tell_0 : decode cX10_tell 0 = .ok (.aload_n 0, 1) := by decide +kernel
theorem dX10_tell_1 : decode cX10_tell 1 = .ok (.iload_n 1, 1) := by decide +kernel
theorem dX10_tell_2 : decode cX10_tell 2 = .ok (.invokevirtual 156, 3) := by decide +kernel
theorem dX10_tell_5 : decode cX10_tell 5 = .ok (.ifCond .ne 5, 3) := by decide +kernel
theorem dX10_tell_8 : decode cX10_tell 8 = .ok (.iconst (-1), 1) := by decide +kernel
theorem dX10_tell_9 : decode cX10_tell 9 = .ok (.ireturn, 1) := by decide +kernel
theorem dX10_tell_10 : decode cX10_tell 10 = .ok (.aload_n 0, 1) := by decide +kernel
theorem dX10_tell_11 : decode cX10_tell 11 = .ok (.getfield 38, 3) := by decide +kernel
theorem dX10_tell_14 : decode cX10_tell 14 = .ok (.iload_n 1, 1) := by decide +kernel
theorem dX10_tell_15 : decode cX10_tell 15 = .ok (.iaload, 1) := by decide +kernel
theorem dX10_tell_16 : decode cX10_tell 16 = .ok (.istore_n 2, 1) := by decide +kernel
theorem dX10_tell_17 : decode cX10_tell 17 = .ok (.aload_n 0, 1) := by decide +kernel
theorem dX10_tell_18 : decode cX10_tell 18 = .ok (.getfield 35, 3) := by decide +kernel
theorem dX10_tell_21 : decode cX10_tell 21 = .ok (.iload_n 1, 1) := by decide +kernel
theorem dX10_tell_22 : decode cX10_tell 22 = .ok (.iaload, 1) := by decide +kernel
theorem dX10_tell_23 : decode cX10_tell 23 = .ok (.lookupswitch 67 #[(1, 25), (2, 40)], 25) := by decide +kernel
theorem dX10_tell_48 : decode cX10_tell 48 = .ok (.aload_n 0, 1) := by decide +kernel
theorem dX10_tell_49 : decode cX10_tell 49 = .ok (.iconst 2, 1) := by decide +kernel
theorem dX10_tell_50 : decode cX10_tell 50 = .ok (.invokevirtual 291, 3) := by decide +kernel
theorem dX10_tell_53 : decode cX10_tell 53 = .ok (.aload_n 0, 1) := by decide +kernel
theorem dX10_tell_54 : decode cX10_tell 54 = .ok (.iconst 1, 1) := by decide +kernel
theorem dX10_tell_55 : decode cX10_tell 55 = .ok (.invokevirtual 291, 3) := by decide +kernel
theorem dX10_tell_58 : decode cX10_tell 58 = .ok (.iload_n 2, 1) := by decide +kernel
theorem dX10_tell_59 : decode cX10_tell 59 = .ok (.bipush 100, 2) := by decide +kernel
theorem dX10_tell_61 : decode cX10_tell 61 = .ok (.iadd, 1) := by decide +kernel
theorem dX10_tell_62 : decode cX10_tell 62 = .ok (.ireturn, 1) := by decide +kernel
theorem dX10_tell_63 : decode cX10_tell 63 = .ok (.aload_n 0, 1) := by decide +kernel
theorem dX10_tell_64 : decode cX10_tell 64 = .ok (.iconst 3, 1) := by decide +kernel
theorem dX10_tell_65 : decode cX10_tell 65 = .ok (.invokevirtual 291, 3) := by decide +kernel
theorem dX10_tell_68 : decode cX10_tell 68 = .ok (.aload_n 0, 1) := by decide +kernel
theorem dX10_tell_69 : decode cX10_tell 69 = .ok (.iconst 2, 1) := by decide +kernel
theorem dX10_tell_70 : decode cX10_tell 70 = .ok (.invokevirtual 291, 3) := by decide +kernel
theorem dX10_tell_73 : decode cX10_tell 73 = .ok (.aload_n 0, 1) := by decide +kernel
theorem dX10_tell_74 : decode cX10_tell 74 = .ok (.iconst 1, 1) := by decide +kernel
theorem dX10_tell_75 : decode cX10_tell 75 = .ok (.invokevirtual 291, 3) := by decide +kernel
theorem dX10_tell_78 : decode cX10_tell 78 = .ok (.aload_n 0, 1) := by decide +kernel
theorem dX10_tell_79 : decode cX10_tell 79 = .ok (.iconst 1, 1) := by decide +kernel
theorem dX10_tell_80 : decode cX10_tell 80 = .ok (.invokevirtual 291, 3) := by decide +kernel
theorem dX10_tell_83 : decode cX10_tell 83 = .ok (.iconst 2, 1) := by decide +kernel
theorem dX10_tell_84 : decode cX10_tell 84 = .ok (.iload_n 2, 1) := by decide +kernel
theorem dX10_tell_85 : decode cX10_tell 85 = .ok (.imul, 1) := by decide +kernel
theorem dX10_tell_86 : decode cX10_tell 86 = .ok (.bipush 100, 2) := by decide +kernel
theorem dX10_tell_88 : decode cX10_tell 88 = .ok (.iadd, 1) := by decide +kernel
theorem dX10_tell_89 : decode cX10_tell 89 = .ok (.ireturn, 1) := by decide +kernel
theorem dX10_tell_90 : decode cX10_tell 90 = .ok (.aload_n 0, 1) := by decide +kernel
theorem dX10_tell_91 : decode cX10_tell 91 = .ok (.iconst 1, 1) := by decide +kernel
theorem dX10_tell_92 : decode cX10_tell 92 = .ok (.invokevirtual 291, 3) := by decide +kernel
theorem dX10_tell_95 : decode cX10_tell 95 = .ok (.iload_n 2, 1) := by decide +kernel
theorem dX10_tell_96 : decode cX10_tell 96 = .ok (.ireturn, 1) := by decide +kernel
theorem dX10_serve_0 : decode cX10_serve 0 = .ok (.aload_n 0, 1) := by decide +kernel
theorem dX10_serve_1 : decode cX10_serve 1 = .ok (.iload_n 1, 1) := by decide +kernel
theorem dX10_serve_2 : decode cX10_serve 2 = .ok (.invokevirtual 156, 3) := by decide +kernel
theorem dX10_serve_5 : decode cX10_serve 5 = .ok (.ifCond .ne 5, 3) := by decide +kernel
theorem dX10_serve_8 : decode cX10_serve 8 = .ok (.iconst (-1), 1) := by decide +kernel
theorem dX10_serve_9 : decode cX10_serve 9 = .ok (.ireturn, 1) := by decide +kernel
theorem dX10_serve_10 : decode cX10_serve 10 = .ok (.aload_n 0, 1) := by decide +kernel
theorem dX10_serve_11 : decode cX10_serve 11 = .ok (.aload_n 0, 1) := by decide +kernel
theorem dX10_serve_12 : decode cX10_serve 12 = .ok (.getfield 35, 3) := by decide +kernel
theorem dX10_serve_15 : decode cX10_serve 15 = .ok (.iload_n 1, 1) := by decide +kernel
theorem dX10_serve_16 : decode cX10_serve 16 = .ok (.iaload, 1) := by decide +kernel
theorem dX10_serve_17 : decode cX10_serve 17 = .ok (.iconst 2, 1) := by decide +kernel
theorem dX10_serve_18 : decode cX10_serve 18 = .ok (.if_icmp .ne 7, 3) := by decide +kernel
theorem dX10_serve_21 : decode cX10_serve 21 = .ok (.iconst 5, 1) := by decide +kernel
theorem dX10_serve_22 : decode cX10_serve 22 = .ok (.goto 4, 3) := by decide +kernel
theorem dX10_serve_25 : decode cX10_serve 25 = .ok (.iconst 4, 1) := by decide +kernel
theorem dX10_serve_26 : decode cX10_serve 26 = .ok (.invokevirtual 291, 3) := by decide +kernel
theorem dX10_serve_29 : decode cX10_serve 29 = .ok (.aload_n 0, 1) := by decide +kernel
theorem dX10_serve_30 : decode cX10_serve 30 = .ok (.getfield 35, 3) := by decide +kernel
theorem dX10_serve_33 : decode cX10_serve 33 = .ok (.iload_n 1, 1) := by decide +kernel
theorem dX10_serve_34 : decode cX10_serve 34 = .ok (.iaload, 1) := by decide +kernel
theorem dX10_serve_35 : decode cX10_serve 35 = .ok (.iconst 2, 1) := by decide +kernel
theorem dX10_serve_36 : decode cX10_serve 36 = .ok (.if_icmp .ne 8, 3) := by decide +kernel
theorem dX10_serve_39 : decode cX10_serve 39 = .ok (.bipush 50, 2) := by decide +kernel
theorem dX10_serve_41 : decode cX10_serve 41 = .ok (.goto 4, 3) := by decide +kernel
theorem dX10_serve_44 : decode cX10_serve 44 = .ok (.iload_n 1, 1) := by decide +kernel
theorem dX10_serve_45 : decode cX10_serve 45 = .ok (.ireturn, 1) := by decide +kernel
theorem dX10_as_0 : decode cX10_as 0 = .ok (.aload_n 0, 1) := by decide +kernel
theorem dX10_as_1 : decode cX10_as 1 = .ok (.iconst 0, 1) := by decide +kernel
theorem dX10_as_2 : decode cX10_as 2 = .ok (.putfield 99, 3) := by decide +kernel
theorem dX10_as_5 : decode cX10_as 5 = .ok (.aload_n 0, 1) := by decide +kernel
theorem dX10_as_6 : decode cX10_as 6 = .ok (.iload_n 1, 1) := by decide +kernel
theorem dX10_as_7 : decode cX10_as 7 = .ok (.invokevirtual 156, 3) := by decide +kernel
theorem dX10_as_10 : decode cX10_as 10 = .ok (.ifCond .ne 5, 3) := by decide +kernel
theorem dX10_as_13 : decode cX10_as 13 = .ok (.iconst (-1), 1) := by decide +kernel
theorem dX10_as_14 : decode cX10_as 14 = .ok (.ireturn, 1) := by decide +kernel
theorem dX10_as_15 : decode cX10_as 15 = .ok (.iload_n 2, 1) := by decide +kernel
theorem dX10_as_16 : decode cX10_as 16 = .ok (.iconst 0, 1) := by decide +kernel
theorem dX10_as_17 : decode cX10_as 17 = .ok (.iconst 2, 1) := by decide +kernel
theorem dX10_as_18 : decode cX10_as 18 = .ok (.invokestatic 104, 3) := by decide +kernel
theorem dX10_as_21 : decode cX10_as 21 = .ok (.ifCond .ne 6, 3) := by decide +kernel
theorem dX10_as_24 : decode cX10_as 24 = .ok (.bipush (-2), 2) := by decide +kernel
theorem dX10_as_26 : decode cX10_as 26 = .ok (.ireturn, 1) := by decide +kernel
theorem dX10_as_27 : decode cX10_as 27 = .ok (.aload_n 0, 1) := by decide +kernel
theorem dX10_as_28 : decode cX10_as 28 = .ok (.getfield 35, 3) := by decide +kernel
theorem dX10_as_31 : decode cX10_as 31 = .ok (.iload_n 1, 1) := by decide +kernel
theorem dX10_as_32 : decode cX10_as 32 = .ok (.iaload, 1) := by decide +kernel
theorem dX10_as_33 : decode cX10_as 33 = .ok (.iload_n 2, 1) := by decide +kernel
theorem dX10_as_34 : decode cX10_as 34 = .ok (.if_icmp .lt 7, 3) := by decide +kernel
theorem dX10_as_37 : decode cX10_as 37 = .ok (.iconst 1, 1) := by decide +kernel
theorem dX10_as_38 : decode cX10_as 38 = .ok (.goto 8, 3) := by decide +kernel
theorem dX10_as_41 : decode cX10_as 41 = .ok (.aload_n 0, 1) := by decide +kernel
theorem dX10_as_42 : decode cX10_as 42 = .ok (.iconst 2, 1) := by decide +kernel
theorem dX10_as_43 : decode cX10_as 43 = .ok (.invokevirtual 125, 3) := by decide +kernel
theorem dX10_as_46 : decode cX10_as 46 = .ok (.ireturn, 1) := by decide +kernel
theorem dX10_trace_0 : decode cX10_trace 0 = .ok (.aload_n 0, 1) := by decide +kernel
theorem dX10_trace_1 : decode cX10_trace 1 = .ok (.getfield 288, 3) := by decide +kernel
theorem dX10_trace_4 : decode cX10_trace 4 = .ok (.ireturn, 1) := by decide +kernel
theorem dX10_fault_0 : decode cX10_fault 0 = .ok (.aload_n 0, 1) := by decide +kernel
theorem dX10_fault_1 : decode cX10_fault 1 = .ok (.getfield 99, 3) := by decide +kernel
theorem dX10_fault_4 : decode cX10_fault 4 = .ok (.ireturn, 1) := by decide +kernel
theorem dX10_many_0 : decode cX10_many 0 = .ok (.iconst 0, 1) := by decide +kernel
theorem dX10_many_1 : decode cX10_many 1 = .ok (.istore_n 2, 1) := by decide +kernel
theorem dX10_many_2 : decode cX10_many 2 = .ok (.iconst 0, 1) := by decide +kernel
theorem dX10_many_3 : decode cX10_many 3 = .ok (.istore_n 3, 1) := by decide +kernel
theorem dX10_many_4 : decode cX10_many 4 = .ok (.iload_n 3, 1) := by decide +kernel
theorem dX10_many_5 : decode cX10_many 5 = .ok (.aload_n 0, 1) := by decide +kernel
theorem dX10_many_6 : decode cX10_many 6 = .ok (.getfield 108, 3) := by decide +kernel
theorem dX10_many_9 : decode cX10_many 9 = .ok (.if_icmp .ge 18, 3) := by decide +kernel
theorem dX10_many_12 : decode cX10_many 12 = .ok (.iload_n 2, 1) := by decide +kernel
theorem dX10_many_13 : decode cX10_many 13 = .ok (.aload_n 0, 1) := by decide +kernel
theorem dX10_many_14 : decode cX10_many 14 = .ok (.getfield 22, 3) := by decide +kernel
theorem dX10_many_17 : decode cX10_many 17 = .ok (.iload_n 3, 1) := by decide +kernel
theorem dX10_many_18 : decode cX10_many 18 = .ok (.iaload, 1) := by decide +kernel
theorem dX10_many_19 : decode cX10_many 19 = .ok (.iadd, 1) := by decide +kernel
theorem dX10_many_20 : decode cX10_many 20 = .ok (.istore_n 2, 1) := by decide +kernel
theorem dX10_many_21 : decode cX10_many 21 = .ok (.iinc 3 1, 3) := by decide +kernel
theorem dX10_many_24 : decode cX10_many 24 = .ok (.goto (-20), 3) := by decide +kernel
theorem dX10_many_27 : decode cX10_many 27 = .ok (.iload_n 1, 1) := by decide +kernel
theorem dX10_many_28 : decode cX10_many 28 = .ok (.tableswitch 84 0 6 #[44, 49, 54, 59, 64, 77, 82], 44) := by decide +kernel
theorem dX10_many_72 : decode cX10_many 72 = .ok (.aload_n 0, 1) := by decide +kernel
theorem dX10_many_73 : decode cX10_many 73 = .ok (.getfield 108, 3) := by decide +kernel
theorem dX10_many_76 : decode cX10_many 76 = .ok (.ireturn, 1) := by decide +kernel
theorem dX10_many_77 : decode cX10_many 77 = .ok (.aload_n 0, 1) := by decide +kernel
theorem dX10_many_78 : decode cX10_many 78 = .ok (.getfield 135, 3) := by decide +kernel
theorem dX10_many_81 : decode cX10_many 81 = .ok (.ireturn, 1) := by decide +kernel
theorem dX10_many_82 : decode cX10_many 82 = .ok (.aload_n 0, 1) := by decide +kernel
theorem dX10_many_83 : decode cX10_many 83 = .ok (.getfield 138, 3) := by decide +kernel
theorem dX10_many_86 : decode cX10_many 86 = .ok (.ireturn, 1) := by decide +kernel
theorem dX10_many_87 : decode cX10_many 87 = .ok (.aload_n 0, 1) := by decide +kernel
theorem dX10_many_88 : decode cX10_many 88 = .ok (.getfield 141, 3) := by decide +kernel
theorem dX10_many_91 : decode cX10_many 91 = .ok (.ireturn, 1) := by decide +kernel
theorem dX10_many_92 : decode cX10_many 92 = .ok (.aload_n 0, 1) := by decide +kernel
theorem dX10_many_93 : decode cX10_many 93 = .ok (.getfield 144, 3) := by decide +kernel
theorem dX10_many_96 : decode cX10_many 96 = .ok (.ifCond .eq 7, 3) := by decide +kernel
theorem dX10_many_99 : decode cX10_many 99 = .ok (.iconst 1, 1) := by decide +kernel
theorem dX10_many_100 : decode cX10_many 100 = .ok (.goto 4, 3) := by decide +kernel
theorem dX10_many_103 : decode cX10_many 103 = .ok (.iconst 0, 1) := by decide +kernel
theorem dX10_many_104 : decode cX10_many 104 = .ok (.ireturn, 1) := by decide +kernel
theorem dX10_many_105 : decode cX10_many 105 = .ok (.aload_n 0, 1) := by decide +kernel
theorem dX10_many_106 : decode cX10_many 106 = .ok (.getfield 25, 3) := by decide +kernel
theorem dX10_many_109 : decode cX10_many 109 = .ok (.ireturn, 1) := by decide +kernel
theorem dX10_many_110 : decode cX10_many 110 = .ok (.iload_n 2, 1) := by decide +kernel
theorem dX10_many_111 : decode cX10_many 111 = .ok (.ireturn, 1) := by decide +kernel
theorem dX10_many_112 : decode cX10_many 112 = .ok (.bipush (-2), 2) := by decide +kernel
theorem dX10_many_114 : decode cX10_many 114 = .ok (.ireturn, 1) := by decide +kernel
end
section
theorem dX0_init_0 : decode cX0_init 0 = .ok (.aload_n 0, 1) := by decide +kernel
theorem dX0_init_1 : decode cX0_init 1 = .ok (.invokespecial 3, 3) := by decide +kernel
theorem dX0_init_4 : decode cX0_init 4 = .ok (.aload_n 0, 1) := by decide +kernel
theorem dX0_init_5 : decode cX0_init 5 = .ok (.bipush 8, 2) := by decide +kernel
theorem dX0_init_7 : decode cX0_init 7 = .ok (.newarray .int, 2) := by decide +kernel
theorem dX0_init_9 : decode cX0_init 9 = .ok (.putfield 9, 3) := by decide +kernel
theorem dX0_init_12 : decode cX0_init 12 = .ok (.aload_n 0, 1) := by decide +kernel
theorem dX0_init_13 : decode cX0_init 13 = .ok (.bipush 8, 2) := by decide +kernel
theorem dX0_init_15 : decode cX0_init 15 = .ok (.newarray .int, 2) := by decide +kernel
theorem dX0_init_17 : decode cX0_init 17 = .ok (.putfield 15, 3) := by decide +kernel
theorem dX0_init_20 : decode cX0_init 20 = .ok (.aload_n 0, 1) := by decide +kernel
theorem dX0_init_21 : decode cX0_init 21 = .ok (.bipush 8, 2) := by decide +kernel
theorem dX0_init_23 : decode cX0_init 23 = .ok (.newarray .int, 2) := by decide +kernel
theorem dX0_init_25 : decode cX0_init 25 = .ok (.putfield 18, 3) := by decide +kernel
theorem dX0_init_28 : decode cX0_init 28 = .ok (.aload_n 0, 1) := by decide +kernel
theorem dX0_init_29 : decode cX0_init 29 = .ok (.bipush 8, 2) := by decide +kernel
theorem dX0_init_31 : decode cX0_init 31 = .ok (.newarray .int, 2) := by decide +kernel
theorem dX0_init_33 : decode cX0_init 33 = .ok (.putfield 21, 3) := by decide +kernel
theorem dX0_init_36 : decode cX0_init 36 = .ok (.aload_n 0, 1) := by decide +kernel
theorem dX0_init_37 : decode cX0_init 37 = .ok (.bipush 8, 2) := by decide +kernel
theorem dX0_init_39 : decode cX0_init 39 = .ok (.newarray .int, 2) := by decide +kernel
theorem dX0_init_41 : decode cX0_init 41 = .ok (.putfield 24, 3) := by decide +kernel
theorem dX0_init_44 : decode cX0_init 44 = .ok (.aload_n 0, 1) := by decide +kernel
theorem dX0_init_45 : decode cX0_init 45 = .ok (.bipush 8, 2) := by decide +kernel
theorem dX0_init_47 : decode cX0_init 47 = .ok (.newarray .int, 2) := by decide +kernel
theorem dX0_init_49 : decode cX0_init 49 = .ok (.putfield 27, 3) := by decide +kernel
theorem dX0_init_52 : decode cX0_init 52 = .ok (.aload_n 0, 1) := by decide +kernel
theorem dX0_init_53 : decode cX0_init 53 = .ok (.bipush 6, 2) := by decide +kernel
theorem dX0_init_55 : decode cX0_init 55 = .ok (.newarray .int, 2) := by decide +kernel
theorem dX0_init_57 : decode cX0_init 57 = .ok (.putfield 30, 3) := by decide +kernel
theorem dX0_init_60 : decode cX0_init 60 = .ok (.aload_n 0, 1) := by decide +kernel
theorem dX0_init_61 : decode cX0_init 61 = .ok (.aload_n 1, 1) := by decide +kernel
theorem dX0_init_62 : decode cX0_init 62 = .ok (.putfield 33, 3) := by decide +kernel
theorem dX0_init_65 : decode cX0_init 65 = .ok (.aload_n 0, 1) := by decide +kernel
theorem dX0_init_66 : decode cX0_init 66 = .ok (.aload_n 2, 1) := by decide +kernel
theorem dX0_init_67 : decode cX0_init 67 = .ok (.putfield 37, 3) := by decide +kernel
theorem dX0_init_70 : decode cX0_init 70 = .ok (.aload_n 0, 1) := by decide +kernel
theorem dX0_init_71 : decode cX0_init 71 = .ok (.aload_n 2, 1) := by decide +kernel
theorem dX0_init_72 : decode cX0_init 72 = .ok (.getfield 41, 3) := by decide +kernel
theorem dX0_init_75 : decode cX0_init 75 = .ok (.putfield 47, 3) := by decide +kernel
theorem dX0_init_78 : decode cX0_init 78 = .ok (.return_, 1) := by decide +kernel
theorem dX0_run_0 : decode cX0_run 0 = .ok (.aload_n 0, 1) := by decide +kernel
theorem dX0_run_1 : decode cX0_run 1 = .ok (.aload_n 1, 1) := by decide +kernel
theorem dX0_run_2 : decode cX0_run 2 = .ok (.putfield 33, 3) := by decide +kernel
theorem dX0_run_5 : decode cX0_run 5 = .ok (.aload_n 0, 1) := by decide +kernel
theorem dX0_run_6 : decode cX0_run 6 = .ok (.iload_n 2, 1) := by decide +kernel
theorem dX0_run_7 : decode cX0_run 7 = .ok (.invokevirtual 50, 3) := by decide +kernel
theorem dX0_run_10 : decode cX0_run 10 = .ok (.iconst 0, 1) := by decide +kernel
theorem dX0_run_11 : decode cX0_run 11 = .ok (.istore 4, 2) := by decide +kernel
theorem dX0_run_13 : decode cX0_run 13 = .ok (.iload 4, 2) := by decide +kernel
theorem dX0_run_15 : decode cX0_run 15 = .ok (.iload_n 3, 1) := by decide +kernel
theorem dX0_run_16 : decode cX0_run 16 = .ok (.if_icmp .gt 57, 3) := by decide +kernel
theorem dX0_run_19 : decode cX0_run 19 = .ok (.aload_n 0, 1) := by decide +kernel
theorem dX0_run_20 : decode cX0_run 20 = .ok (.iload 4, 2) := by decide +kernel
theorem dX0_run_22 : decode cX0_run 22 = .ok (.invokevirtual 54, 3) := by decide +kernel
theorem dX0_run_25 : decode cX0_run 25 = .ok (.iload 4, 2) := by decide +kernel
theorem dX0_run_27 : decode cX0_run 27 = .ok (.aload_n 0, 1) := by decide +kernel
theorem dX0_run_28 : decode cX0_run 28 = .ok (.getfield 33, 3) := by decide +kernel
theorem dX0_run_31 : decode cX0_run 31 = .ok (.getfield 57, 3) := by decide +kernel
theorem dX0_run_34 : decode cX0_run 34 = .ok (.if_icmp .ne 9, 3) := by decide +kernel
theorem dX0_run_37 : decode cX0_run 37 = .ok (.aload_n 0, 1) := by decide +kernel
theorem dX0_run_38 : decode cX0_run 38 = .ok (.iload 4, 2) := by decide +kernel
theorem dX0_run_40 : decode cX0_run 40 = .ok (.invokevirtual 63, 3) := by decide +kernel
theorem dX0_run_43 : decode cX0_run 43 = .ok (.aload_n 0, 1) := by decide +kernel
theorem dX0_run_44 : decode cX0_run 44 = .ok (.iload 4, 2) := by decide +kernel
theorem dX0_run_46 : decode cX0_run 46 = .ok (.invokevirtual 66, 3) := by decide +kernel
theorem dX0_run_49 : decode cX0_run 49 = .ok (.aload_n 0, 1) := by decide +kernel
theorem dX0_run_50 : decode cX0_run 50 = .ok (.iload 4, 2) := by decide +kernel
theorem dX0_run_52 : decode cX0_run 52 = .ok (.invokevirtual 69, 3) := by decide +kernel
theorem dX0_run_55 : decode cX0_run 55 = .ok (.iload 4, 2) := by decide +kernel
theorem dX0_run_57 : decode cX0_run 57 = .ok (.iconst 1, 1) := by decide +kernel
theorem dX0_run_58 : decode cX0_run 58 = .ok (.iadd, 1) := by decide +kernel
theorem dX0_run_59 : decode cX0_run 59 = .ok (.aload_n 0, 1) := by decide +kernel
theorem dX0_run_60 : decode cX0_run 60 = .ok (.iload 4, 2) := by decide +kernel
theorem dX0_run_62 : decode cX0_run 62 = .ok (.invokevirtual 72, 3) := by decide +kernel
theorem dX0_run_65 : decode cX0_run 65 = .ok (.invokestatic 76, 3) := by decide +kernel
theorem dX0_run_68 : decode cX0_run 68 = .ok (.istore 4, 2) := by decide +kernel
theorem dX0_run_70 : decode cX0_run 70 = .ok (.goto (-57), 3) := by decide +kernel
theorem dX0_run_73 : decode cX0_run 73 = .ok (.aload_n 0, 1) := by decide +kernel
theorem dX0_run_74 : decode cX0_run 74 = .ok (.invokevirtual 82, 3) := by decide +kernel
theorem dX0_run_77 : decode cX0_run 77 = .ok (.ireturn, 1) := by decide +kernel
theorem dX0_coinInAll_0 : decode cX0_coinInAll 0 = .ok (.iconst 0, 1) := by decide +kernel
theorem dX0_coinInAll_1 : decode cX0_coinInAll 1 = .ok (.istore_n 1, 1) := by decide +kernel
theorem dX0_coinInAll_2 : decode cX0_coinInAll 2 = .ok (.iconst 0, 1) := by decide +kernel
theorem dX0_coinInAll_3 : decode cX0_coinInAll 3 = .ok (.istore_n 2, 1) := by decide +kernel
theorem dX0_coinInAll_4 : decode cX0_coinInAll 4 = .ok (.iload_n 2, 1) := by decide +kernel
theorem dX0_coinInAll_5 : decode cX0_coinInAll 5 = .ok (.aload_n 0, 1) := by decide +kernel
theorem dX0_coinInAll_6 : decode cX0_coinInAll 6 = .ok (.getfield 86, 3) := by decide +kernel
theorem dX0_coinInAll_9 : decode cX0_coinInAll 9 = .ok (.if_icmp .ge 22, 3) := by decide +kernel
theorem dX0_coinInAll_12 : decode cX0_coinInAll 12 = .ok (.iload_n 1, 1) := by decide +kernel
theorem dX0_coinInAll_13 : decode cX0_coinInAll 13 = .ok (.aload_n 0, 1) := by decide +kernel
theorem dX0_coinInAll_14 : decode cX0_coinInAll 14 = .ok (.aload_n 0, 1) := by decide +kernel
theorem dX0_coinInAll_15 : decode cX0_coinInAll 15 = .ok (.getfield 27, 3) := by decide +kernel
theorem dX0_coinInAll_18 : decode cX0_coinInAll 18 = .ok (.iload_n 2, 1) := by decide +kernel
theorem dX0_coinInAll_19 : decode cX0_coinInAll 19 = .ok (.iaload, 1) := by decide +kernel
theorem dX0_coinInAll_20 : decode cX0_coinInAll 20 = .ok (.invokevirtual 89, 3) := by decide +kernel
theorem dX0_coinInAll_23 : decode cX0_coinInAll 23 = .ok (.iadd, 1) := by decide +kernel
theorem dX0_coinInAll_24 : decode cX0_coinInAll 24 = .ok (.istore_n 1, 1) := by decide +kernel
theorem dX0_coinInAll_25 : decode cX0_coinInAll 25 = .ok (.iinc 2 1, 3) := by decide +kernel
theorem dX0_coinInAll_28 : decode cX0_coinInAll 28 = .ok (.goto (-24), 3) := by decide +kernel
theorem dX0_coinInAll_31 : decode cX0_coinInAll 31 = .ok (.iload_n 1, 1) := by decide +kernel
theorem dX0_coinInAll_32 : decode cX0_coinInAll 32 = .ok (.ireturn, 1) := by decide +kernel
theorem dX0_coinOf_0 : decode cX0_coinOf 0 = .ok (.aload_n 0, 1) := by decide +kernel
theorem dX0_coinOf_1 : decode cX0_coinOf 1 = .ok (.getfield 18, 3) := by decide +kernel
theorem dX0_coinOf_4 : decode cX0_coinOf 4 = .ok (.iload_n 1, 1) := by decide +kernel
theorem dX0_coinOf_5 : decode cX0_coinOf 5 = .ok (.iaload, 1) := by decide +kernel
theorem dX0_coinOf_6 : decode cX0_coinOf 6 = .ok (.bipush (-9), 2) := by decide +kernel
theorem dX0_coinOf_8 : decode cX0_coinOf 8 = .ok (.if_icmp .ne 7, 3) := by decide +kernel
theorem dX0_coinOf_11 : decode cX0_coinOf 11 = .ok (.iconst 0, 1) := by decide +kernel
theorem dX0_coinOf_12 : decode cX0_coinOf 12 = .ok (.goto 25, 3) := by decide +kernel
theorem dX0_coinOf_15 : decode cX0_coinOf 15 = .ok (.aload_n 0, 1) := by decide +kernel
theorem dX0_coinOf_16 : decode cX0_coinOf 16 = .ok (.getfield 47, 3) := by decide +kernel
theorem dX0_coinOf_19 : decode cX0_coinOf 19 = .ok (.iload_n 1, 1) := by decide +kernel
theorem dX0_coinOf_20 : decode cX0_coinOf 20 = .ok (.aaload, 1) := by decide +kernel
theorem dX0_coinOf_21 : decode cX0_coinOf 21 = .ok (.aload_n 0, 1) := by decide +kernel
theorem dX0_coinOf_22 : decode cX0_coinOf 22 = .ok (.getfield 21, 3) := by decide +kernel
theorem dX0_coinOf_25 : decode cX0_coinOf 25 = .ok (.iload_n 1, 1) := by decide +kernel
theorem dX0_coinOf_26 : decode cX0_coinOf 26 = .ok (.iaload, 1) := by decide +kernel
theorem dX0_coinOf_27 : decode cX0_coinOf 27 = .ok (.aload_n 0, 1) := by decide +kernel
theorem dX0_coinOf_28 : decode cX0_coinOf 28 = .ok (.getfield 18, 3) := by decide +kernel
theorem dX0_coinOf_31 : decode cX0_coinOf 31 = .ok (.iload_n 1, 1) := by decide +kernel
theorem dX0_coinOf_32 : decode cX0_coinOf 32 = .ok (.iaload, 1) := by decide +kernel
theorem dX0_coinOf_33 : decode cX0_coinOf 33 = .ok (.isub, 1) := by decide +kernel
theorem dX0_coinOf_34 : decode cX0_coinOf 34 = .ok (.invokevirtual 92, 3) := by decide +kernel
theorem dX0_coinOf_37 : decode cX0_coinOf 37 = .ok (.ireturn, 1) := by decide +kernel
theorem dX0_tablesTaken_0 : decode cX0_tablesTaken 0 = .ok (.iconst 0, 1) := by decide +kernel
theorem dX0_tablesTaken_1 : decode cX0_tablesTaken 1 = .ok (.istore_n 1, 1) := by decide +kernel
theorem dX0_tablesTaken_2 : decode cX0_tablesTaken 2 = .ok (.iconst 0, 1) := by decide +kernel
theorem dX0_tablesTaken_3 : decode cX0_tablesTaken 3 = .ok (.istore_n 2, 1) := by decide +kernel
theorem dX0_tablesTaken_4 : decode cX0_tablesTaken 4 = .ok (.iload_n 2, 1) := by decide +kernel
theorem dX0_tablesTaken_5 : decode cX0_tablesTaken 5 = .ok (.aload_n 0, 1) := by decide +kernel
theorem dX0_tablesTaken_6 : decode cX0_tablesTaken 6 = .ok (.getfield 33, 3) := by decide +kernel
theorem dX0_tablesTaken_9 : decode cX0_tablesTaken 9 = .ok (.getfield 97, 3) := by decide +kernel
theorem dX0_tablesTaken_12 : decode cX0_tablesTaken 12 = .ok (.if_icmp .ge 21, 3) := by decide +kernel
theorem dX0_tablesTaken_15 : decode cX0_tablesTaken 15 = .ok (.aload_n 0, 1) := by decide +kernel
theorem dX0_tablesTaken_16 : decode cX0_tablesTaken 16 = .ok (.getfield 30, 3) := by decide +kernel
theorem dX0_tablesTaken_19 : decode cX0_tablesTaken 19 = .ok (.iload_n 2, 1) := by decide +kernel
theorem dX0_tablesTaken_20 : decode cX0_tablesTaken 20 = .ok (.iaload, 1) := by decide +kernel
theorem dX0_tablesTaken_21 : decode cX0_tablesTaken 21 = .ok (.ifCond .lt 6, 3) := by decide +kernel
theorem dX0_tablesTaken_24 : decode cX0_tablesTaken 24 = .ok (.iinc 1 1, 3) := by decide +kernel
theorem dX0_tablesTaken_27 : decode cX0_tablesTaken 27 = .ok (.iinc 2 1, 3) := by decide +kernel
theorem dX0_tablesTaken_30 : decode cX0_tablesTaken 30 = .ok (.goto (-26), 3) := by decide +kernel
theorem dX0_tablesTaken_33 : decode cX0_tablesTaken 33 = .ok (.iload_n 1, 1) := by decide +kernel
theorem dX0_tablesTaken_34 : decode cX0_tablesTaken 34 = .ok (.ireturn, 1) := by decide +kernel
theorem dX0_othersWaiting_0 : decode cX0_othersWaiting 0 = .ok (.iconst 0, 1) := by decide +kernel
theorem dX0_othersWaiting_1 : decode cX0_othersWaiting 1 = .ok (.istore_n 2, 1) := by decide +kernel
theorem dX0_othersWaiting_2 : decode cX0_othersWaiting 2 = .ok (.iconst 0, 1) := by decide +kernel
theorem dX0_othersWaiting_3 : decode cX0_othersWaiting 3 = .ok (.istore_n 3, 1) := by decide +kernel
theorem dX0_othersWaiting_4 : decode cX0_othersWaiting 4 = .ok (.iload_n 3, 1) := by decide +kernel
theorem dX0_othersWaiting_5 : decode cX0_othersWaiting 5 = .ok (.aload_n 0, 1) := by decide +kernel
theorem dX0_othersWaiting_6 : decode cX0_othersWaiting 6 = .ok (.getfield 86, 3) := by decide +kernel
theorem dX0_othersWaiting_9 : decode cX0_othersWaiting 9 = .ok (.if_icmp .ge 37, 3) := by decide +kernel
theorem dX0_othersWaiting_12 : decode cX0_othersWaiting 12 = .ok (.aload_n 0, 1) := by decide +kernel
theorem dX0_othersWaiting_13 : decode cX0_othersWaiting 13 = .ok (.getfield 27, 3) := by decide +kernel
theorem dX0_othersWaiting_16 : decode cX0_othersWaiting 16 = .ok (.iload_n 3, 1) := by decide +kernel
theorem dX0_othersWaiting_17 : decode cX0_othersWaiting 17 = .ok (.iaload, 1) := by decide +kernel
theorem dX0_othersWaiting_18 : decode cX0_othersWaiting 18 = .ok (.iload_n 1, 1) := by decide +kernel
theorem dX0_othersWaiting_19 : decode cX0_othersWaiting 19 = .ok (.if_icmp .eq 21, 3) := by decide +kernel
theorem dX0_othersWaiting_22 : decode cX0_othersWaiting 22 = .ok (.aload_n 0, 1) := by decide +kernel
theorem dX0_othersWaiting_23 : decode cX0_othersWaiting 23 = .ok (.getfield 9, 3) := by decide +kernel
theorem dX0_othersWaiting_26 : decode cX0_othersWaiting 26 = .ok (.aload_n 0, 1) := by decide +kernel
theorem dX0_othersWaiting_27 : decode cX0_othersWaiting 27 = .ok (.getfield 27, 3) := by decide +kernel
theorem dX0_othersWaiting_30 : decode cX0_othersWaiting 30 = .ok (.iload_n 3, 1) := by decide +kernel
theorem dX0_othersWaiting_31 : decode cX0_othersWaiting 31 = .ok (.iaload, 1) := by decide +kernel
theorem dX0_othersWaiting_32 : decode cX0_othersWaiting 32 = .ok (.iaload, 1) := by decide +kernel
theorem dX0_othersWaiting_33 : decode cX0_othersWaiting 33 = .ok (.iconst 4, 1) := by decide +kernel
theorem dX0_othersWaiting_34 : decode cX0_othersWaiting 34 = .ok (.if_icmp .ne 6, 3) := by decide +kernel
theorem dX0_othersWaiting_37 : decode cX0_othersWaiting 37 = .ok (.iinc 2 1, 3) := by decide +kernel
theorem dX0_othersWaiting_40 : decode cX0_othersWaiting 40 = .ok (.iinc 3 1, 3) := by decide +kernel
theorem dX0_othersWaiting_43 : decode cX0_othersWaiting 43 = .ok (.goto (-39), 3) := by decide +kernel
theorem dX0_othersWaiting_46 : decode cX0_othersWaiting 46 = .ok (.iload_n 2, 1) := by decide +kernel
theorem dX0_othersWaiting_47 : decode cX0_othersWaiting 47 = .ok (.ireturn, 1) := by decide +kernel
theorem dX0_begin_0 : decode cX0_begin 0 = .ok (.aload_n 0, 1) := by decide +kernel
theorem dX0_begin_1 : decode cX0_begin 1 = .ok (.getfield 30, 3) := by decide +kernel
theorem dX0_begin_4 : decode cX0_begin 4 = .ok (.iconst (-1), 1) := by decide +kernel
theorem dX0_begin_5 : decode cX0_begin 5 = .ok (.invokestatic 100, 3) := by decide +kernel
theorem dX0_begin_8 : decode cX0_begin 8 = .ok (.aload_n 0, 1) := by decide +kernel
theorem dX0_begin_9 : decode cX0_begin 9 = .ok (.iconst 0, 1) := by decide +kernel
theorem dX0_begin_10 : decode cX0_begin 10 = .ok (.putfield 86, 3) := by decide +kernel
theorem dX0_begin_13 : decode cX0_begin 13 = .ok (.iconst 0, 1) := by decide +kernel
theorem dX0_begin_14 : decode cX0_begin 14 = .ok (.istore_n 2, 1) := by decide +kernel
theorem dX0_begin_15 : decode cX0_begin 15 = .ok (.iload_n 2, 1) := by decide +kernel
theorem dX0_begin_16 : decode cX0_begin 16 = .ok (.aload_n 0, 1) := by decide +kernel
theorem dX0_begin_17 : decode cX0_begin 17 = .ok (.getfield 37, 3) := by decide +kernel
theorem dX0_begin_20 : decode cX0_begin 20 = .ok (.getfield 106, 3) := by decide +kernel
theorem dX0_begin_23 : decode cX0_begin 23 = .ok (.if_icmp .ge 57, 3) := by decide +kernel
theorem dX0_begin_26 : decode cX0_begin 26 = .ok (.aload_n 0, 1) := by decide +kernel
theorem dX0_begin_27 : decode cX0_begin 27 = .ok (.getfield 9, 3) := by decide +kernel
theorem dX0_begin_30 : decode cX0_begin 30 = .ok (.iload_n 2, 1) := by decide +kernel
theorem dX0_begin_31 : decode cX0_begin 31 = .ok (.iconst 3, 1) := by decide +kernel
theorem dX0_begin_32 : decode cX0_begin 32 = .ok (.iastore, 1) := by decide +kernel
theorem dX0_begin_33 : decode cX0_begin 33 = .ok (.aload_n 0, 1) := by decide +kernel
theorem dX0_begin_34 : decode cX0_begin 34 = .ok (.getfield 15, 3) := by decide +kernel
theorem dX0_begin_37 : decode cX0_begin 37 = .ok (.iload_n 2, 1) := by decide +kernel
theorem dX0_begin_38 : decode cX0_begin 38 = .ok (.bipush (-9), 2) := by decide +kernel
theorem dX0_begin_40 : decode cX0_begin 40 = .ok (.iastore, 1) := by decide +kernel
theorem dX0_begin_41 : decode cX0_begin 41 = .ok (.aload_n 0, 1) := by decide +kernel
theorem dX0_begin_42 : decode cX0_begin 42 = .ok (.getfield 18, 3) := by decide +kernel
theorem dX0_begin_45 : decode cX0_begin 45 = .ok (.iload_n 2, 1) := by decide +kernel
theorem dX0_begin_46 : decode cX0_begin 46 = .ok (.bipush (-9), 2) := by decide +kernel
theorem dX0_begin_48 : decode cX0_begin 48 = .ok (.iastore, 1) := by decide +kernel
theorem dX0_begin_49 : decode cX0_begin 49 = .ok (.aload_n 0, 1) := by decide +kernel
theorem dX0_begin_50 : decode cX0_begin 50 = .ok (.getfield 21, 3) := by decide +kernel
theorem dX0_begin_53 : decode cX0_begin 53 = .ok (.iload_n 2, 1) := by decide +kernel
theorem dX0_begin_54 : decode cX0_begin 54 = .ok (.bipush (-9), 2) := by decide +kernel
theorem dX0_begin_56 : decode cX0_begin 56 = .ok (.iastore, 1) := by decide +kernel
theorem dX0_begin_57 : decode cX0_begin 57 = .ok (.aload_n 0, 1) := by decide +kernel
theorem dX0_begin_58 : decode cX0_begin 58 = .ok (.getfield 24, 3) := by decide +kernel
theorem dX0_begin_61 : decode cX0_begin 61 = .ok (.iload_n 2, 1) := by decide +kernel
theorem dX0_begin_62 : decode cX0_begin 62 = .ok (.iconst 0, 1) := by decide +kernel
theorem dX0_begin_63 : decode cX0_begin 63 = .ok (.iastore, 1) := by decide +kernel
theorem dX0_begin_64 : decode cX0_begin 64 = .ok (.iload_n 2, 1) := by decide +kernel
theorem dX0_begin_65 : decode cX0_begin 65 = .ok (.iload_n 1, 1) := by decide +kernel
theorem dX0_begin_66 : decode cX0_begin 66 = .ok (.if_icmp .eq 8, 3) := by decide +kernel
theorem dX0_begin_69 : decode cX0_begin 69 = .ok (.aload_n 0, 1) := by decide +kernel
theorem dX0_begin_70 : decode cX0_begin 70 = .ok (.iload_n 2, 1) := by decide +kernel
theorem dX0_begin_71 : decode cX0_begin 71 = .ok (.invokevirtual 109, 3) := by decide +kernel
theorem dX0_begin_74 : decode cX0_begin 74 = .ok (.iinc 2 1, 3) := by decide +kernel
theorem dX0_begin_77 : decode cX0_begin 77 = .ok (.goto (-62), 3) := by decide +kernel
theorem dX0_begin_80 : decode cX0_begin 80 = .ok (.return_, 1) := by decide +kernel
theorem dX0_list_0 : decode cX0_list 0 = .ok (.aload_n 0, 1) := by decide +kernel
theorem dX0_list_1 : decode cX0_list 1 = .ok (.getfield 86, 3) := by decide +kernel
theorem dX0_list_4 : decode cX0_list 4 = .ok (.istore_n 2, 1) := by decide +kernel
theorem dX0_list_5 : decode cX0_list 5 = .ok (.iload_n 2, 1) := by decide +kernel
theorem dX0_list_6 : decode cX0_list 6 = .ok (.ifCond .le 51, 3) := by decide +kernel
theorem dX0_list_9 : decode cX0_list 9 = .ok (.aload_n 0, 1) := by decide +kernel
theorem dX0_list_10 : decode cX0_list 10 = .ok (.getfield 47, 3) := by decide +kernel
theorem dX0_list_13 : decode cX0_list 13 = .ok (.aload_n 0, 1) := by decide +kernel
theorem dX0_list_14 : decode cX0_list 14 = .ok (.getfield 27, 3) := by decide +kernel
theorem dX0_list_17 : decode cX0_list 17 = .ok (.iload_n 2, 1) := by decide +kernel
theorem dX0_list_18 : decode cX0_list 18 = .ok (.iconst 1, 1) := by decide +kernel
theorem dX0_list_19 : decode cX0_list 19 = .ok (.isub, 1) := by decide +kernel
theorem dX0_list_20 : decode cX0_list 20 = .ok (.iaload, 1) := by decide +kernel
theorem dX0_list_21 : decode cX0_list 21 = .ok (.aaload, 1) := by decide +kernel
theorem dX0_list_22 : decode cX0_list 22 = .ok (.getfield 112, 3) := by decide +kernel
theorem dX0_list_25 : decode cX0_list 25 = .ok (.aload_n 0, 1) := by decide +kernel
theorem dX0_list_26 : decode cX0_list 26 = .ok (.getfield 47, 3) := by decide +kernel
theorem dX0_list_29 : decode cX0_list 29 = .ok (.iload_n 1, 1) := by decide +kernel
theorem dX0_list_30 : decode cX0_list 30 = .ok (.aaload, 1) := by decide +kernel
theorem dX0_list_31 : decode cX0_list 31 = .ok (.getfield 112, 3) := by decide +kernel
theorem dX0_list_34 : decode cX0_list 34 = .ok (.if_icmp .le 23, 3) := by decide +kernel
theorem dX0_list_37 : decode cX0_list 37 = .ok (.aload_n 0, 1) := by decide +kernel
theorem dX0_list_38 : decode cX0_list 38 = .ok (.getfield 27, 3) := by decide +kernel
theorem dX0_list_41 : decode cX0_list 41 = .ok (.iload_n 2, 1) := by decide +kernel
theorem dX0_list_42 : decode cX0_list 42 = .ok (.aload_n 0, 1) := by decide +kernel
theorem dX0_list_43 : decode cX0_list 43 = .ok (.getfield 27, 3) := by decide +kernel
theorem dX0_list_46 : decode cX0_list 46 = .ok (.iload_n 2, 1) := by decide +kernel
theorem dX0_list_47 : decode cX0_list 47 = .ok (.iconst 1, 1) := by decide +kernel
theorem dX0_list_48 : decode cX0_list 48 = .ok (.isub, 1) := by decide +kernel
theorem dX0_list_49 : decode cX0_list 49 = .ok (.iaload, 1) := by decide +kernel
theorem dX0_list_50 : decode cX0_list 50 = .ok (.iastore, 1) := by decide +kernel
theorem dX0_list_51 : decode cX0_list 51 = .ok (.iinc 2 (-1), 3) := by decide +kernel
theorem dX0_list_54 : decode cX0_list 54 = .ok (.goto (-49), 3) := by decide +kernel
theorem dX0_list_57 : decode cX0_list 57 = .ok (.aload_n 0, 1) := by decide +kernel
theorem dX0_list_58 : decode cX0_list 58 = .ok (.getfield 27, 3) := by decide +kernel
theorem dX0_list_61 : decode cX0_list 61 = .ok (.iload_n 2, 1) := by decide +kernel
theorem dX0_list_62 : decode cX0_list 62 = .ok (.iload_n 1, 1) := by decide +kernel
theorem dX0_list_63 : decode cX0_list 63 = .ok (.iastore, 1) := by decide +kernel
theorem dX0_list_64 : decode cX0_list 64 = .ok (.aload_n 0, 1) := by decide +kernel
theorem dX0_list_65 : decode cX0_list 65 = .ok (.dup, 1) := by decide +kernel
theorem dX0_list_66 : decode cX0_list 66 = .ok (.getfield 86, 3) := by decide +kernel
theorem dX0_list_69 : decode cX0_list 69 = .ok (.iconst 1, 1) := by decide +kernel
theorem dX0_list_70 : decode cX0_list 70 = .ok (.iadd, 1) := by decide +kernel
theorem dX0_list_71 : decode cX0_list 71 = .ok (.putfield 86, 3) := by decide +kernel
theorem dX0_list_74 : decode cX0_list 74 = .ok (.return_, 1) := by decide +kernel
theorem dX0_nextMinute_0 : decode cX0_nextMinute 0 = .ok (.aload_n 0, 1) := by decide +kernel
theorem dX0_nextMinute_1 : decode cX0_nextMinute 1 = .ok (.getfield 33, 3) := by decide +kernel
theorem dX0_nextMinute_4 : decode cX0_nextMinute 4 = .ok (.getfield 57, 3) := by decide +kernel
theorem dX0_nextMinute_7 : decode cX0_nextMinute 7 = .ok (.iload_n 1, 1) := by decide +kernel
theorem dX0_nextMinute_8 : decode cX0_nextMinute 8 = .ok (.if_icmp .le 13, 3) := by decide +kernel
theorem dX0_nextMinute_11 : decode cX0_nextMinute 11 = .ok (.aload_n 0, 1) := by decide +kernel
theorem dX0_nextMinute_12 : decode cX0_nextMinute 12 = .ok (.getfield 33, 3) := by decide +kernel
theorem dX0_nextMinute_15 : decode cX0_nextMinute 15 = .ok (.getfield 57, 3) := by decide +kernel
theorem dX0_nextMinute_18 : decode cX0_nextMinute 18 = .ok (.goto 6, 3) := by decide +kernel
theorem dX0_nextMinute_21 : decode cX0_nextMinute 21 = .ok (.sipush 400, 3) := by decide +kernel
theorem dX0_nextMinute_24 : decode cX0_nextMinute 24 = .ok (.istore_n 2, 1) := by decide +kernel
theorem dX0_nextMinute_25 : decode cX0_nextMinute 25 = .ok (.iconst 0, 1) := by decide +kernel
theorem dX0_nextMinute_26 : decode cX0_nextMinute 26 = .ok (.istore_n 3, 1) := by decide +kernel
theorem dX0_nextMinute_27 : decode cX0_nextMinute 27 = .ok (.iload_n 3, 1) := by decide +kernel
theorem dX0_nextMinute_28 : decode cX0_nextMinute 28 = .ok (.aload_n 0, 1) := by decide +kernel
theorem dX0_nextMinute_29 : decode cX0_nextMinute 29 = .ok (.getfield 86, 3) := by decide +kernel
theorem dX0_nextMinute_32 : decode cX0_nextMinute 32 = .ok (.if_icmp .ge 106, 3) := by decide +kernel
theorem dX0_nextMinute_35 : decode cX0_nextMinute 35 = .ok (.aload_n 0, 1) := by decide +kernel
theorem dX0_nextMinute_36 : decode cX0_nextMinute 36 = .ok (.getfield 27, 3) := by decide +kernel
theorem dX0_nextMinute_39 : decode cX0_nextMinute 39 = .ok (.iload_n 3, 1) := by decide +kernel
theorem dX0_nextMinute_40 : decode cX0_nextMinute 40 = .ok (.iaload, 1) := by decide +kernel
theorem dX0_nextMinute_41 : decode cX0_nextMinute 41 = .ok (.istore 4, 2) := by decide +kernel
theorem dX0_nextMinute_43 : decode cX0_nextMinute 43 = .ok (.aload_n 0, 1) := by decide +kernel
theorem dX0_nextMinute_44 : decode cX0_nextMinute 44 = .ok (.getfield 9, 3) := by decide +kernel
theorem dX0_nextMinute_47 : decode cX0_nextMinute 47 = .ok (.iload 4, 2) := by decide +kernel
theorem dX0_nextMinute_49 : decode cX0_nextMinute 49 = .ok (.iaload, 1) := by decide +kernel
theorem dX0_nextMinute_50 : decode cX0_nextMinute 50 = .ok (.iconst 3, 1) := by decide +kernel
theorem dX0_nextMinute_51 : decode cX0_nextMinute 51 = .ok (.if_icmp .ne 21, 3) := by decide +kernel
theorem dX0_nextMinute_54 : decode cX0_nextMinute 54 = .ok (.iload_n 2, 1) := by decide +kernel
theorem dX0_nextMinute_55 : decode cX0_nextMinute 55 = .ok (.aload_n 0, 1) := by decide +kernel
theorem dX0_nextMinute_56 : decode cX0_nextMinute 56 = .ok (.getfield 47, 3) := by decide +kernel
theorem dX0_nextMinute_59 : decode cX0_nextMinute 59 = .ok (.iload 4, 2) := by decide +kernel
theorem dX0_nextMinute_61 : decode cX0_nextMinute 61 = .ok (.aaload, 1) := by decide +kernel
theorem dX0_nextMinute_62 : decode cX0_nextMinute 62 = .ok (.getfield 112, 3) := by decide +kernel
theorem dX0_nextMinute_65 : decode cX0_nextMinute 65 = .ok (.invokestatic 115, 3) := by decide +kernel
theorem dX0_nextMinute_68 : decode cX0_nextMinute 68 = .ok (.istore_n 2, 1) := by decide +kernel
theorem dX0_nextMinute_69 : decode cX0_nextMinute 69 = .ok (.goto 63, 3) := by decide +kernel
theorem dX0_nextMinute_72 : decode cX0_nextMinute 72 = .ok (.aload_n 0, 1) := by decide +kernel
theorem dX0_nextMinute_73 : decode cX0_nextMinute 73 = .ok (.getfield 9, 3) := by decide +kernel
theorem dX0_nextMinute_76 : decode cX0_nextMinute 76 = .ok (.iload 4, 2) := by decide +kernel
theorem dX0_nextMinute_78 : decode cX0_nextMinute 78 = .ok (.iaload, 1) := by decide +kernel
theorem dX0_nextMinute_79 : decode cX0_nextMinute 79 = .ok (.iconst 4, 1) := by decide +kernel
theorem dX0_nextMinute_80 : decode cX0_nextMinute 80 = .ok (.if_icmp .ne 29, 3) := by decide +kernel
theorem dX0_nextMinute_83 : decode cX0_nextMinute 83 = .ok (.iload_n 2, 1) := by decide +kernel
theorem dX0_nextMinute_84 : decode cX0_nextMinute 84 = .ok (.aload_n 0, 1) := by decide +kernel
theorem dX0_nextMinute_85 : decode cX0_nextMinute 85 = .ok (.getfield 47, 3) := by decide +kernel
theorem dX0_nextMinute_88 : decode cX0_nextMinute 88 = .ok (.iload 4, 2) := by decide +kernel
theorem dX0_nextMinute_90 : decode cX0_nextMinute 90 = .ok (.aaload, 1) := by decide +kernel
theorem dX0_nextMinute_91 : decode cX0_nextMinute 91 = .ok (.getfield 112, 3) := by decide +kernel
theorem dX0_nextMinute_94 : decode cX0_nextMinute 94 = .ok (.aload_n 0, 1) := by decide +kernel
theorem dX0_nextMinute_95 : decode cX0_nextMinute 95 = .ok (.getfield 33, 3) := by decide +kernel
theorem dX0_nextMinute_98 : decode cX0_nextMinute 98 = .ok (.getfield 118, 3) := by decide +kernel
theorem dX0_nextMinute_101 : decode cX0_nextMinute 101 = .ok (.iadd, 1) := by decide +kernel
theorem dX0_nextMinute_102 : decode cX0_nextMinute 102 = .ok (.invokestatic 115, 3) := by decide +kernel
theorem dX0_nextMinute_105 : decode cX0_nextMinute 105 = .ok (.istore_n 2, 1) := by decide +kernel
theorem dX0_nextMinute_106 : decode cX0_nextMinute 106 = .ok (.goto 26, 3) := by decide +kernel
theorem dX0_nextMinute_109 : decode cX0_nextMinute 109 = .ok (.aload_n 0, 1) := by decide +kernel
theorem dX0_nextMinute_110 : decode cX0_nextMinute 110 = .ok (.getfield 9, 3) := by decide +kernel
theorem dX0_nextMinute_113 : decode cX0_nextMinute 113 = .ok (.iload 4, 2) := by decide +kernel
theorem dX0_nextMinute_115 : decode cX0_nextMinute 115 = .ok (.iaload, 1) := by decide +kernel
theorem dX0_nextMinute_116 : decode cX0_nextMinute 116 = .ok (.iconst 5, 1) := by decide +kernel
theorem dX0_nextMinute_117 : decode cX0_nextMinute 117 = .ok (.if_icmp .ne 15, 3) := by decide +kernel
theorem dX0_nextMinute_120 : decode cX0_nextMinute 120 = .ok (.iload_n 2, 1) := by decide +kernel
theorem dX0_nextMinute_121 : decode cX0_nextMinute 121 = .ok (.aload_n 0, 1) := by decide +kernel
theorem dX0_nextMinute_122 : decode cX0_nextMinute 122 = .ok (.getfield 21, 3) := by decide +kernel
theorem dX0_nextMinute_125 : decode cX0_nextMinute 125 = .ok (.iload 4, 2) := by decide +kernel
theorem dX0_nextMinute_127 : decode cX0_nextMinute 127 = .ok (.iaload, 1) := by decide +kernel
theorem dX0_nextMinute_128 : decode cX0_nextMinute 128 = .ok (.invokestatic 115, 3) := by decide +kernel
theorem dX0_nextMinute_131 : decode cX0_nextMinute 131 = .ok (.istore_n 2, 1) := by decide +kernel
theorem dX0_nextMinute_132 : decode cX0_nextMinute 132 = .ok (.iinc 3 1, 3) := by decide +kernel
theorem dX0_nextMinute_135 : decode cX0_nextMinute 135 = .ok (.goto (-108), 3) := by decide +kernel
theorem dX0_nextMinute_138 : decode cX0_nextMinute 138 = .ok (.iload_n 2, 1) := by decide +kernel
theorem dX0_nextMinute_139 : decode cX0_nextMinute 139 = .ok (.ireturn, 1) := by decide +kernel
theorem dX0_goWhoseTimeIsOver_0 : decode cX0_goWhoseTimeIsOver 0 = .ok (.iconst 0, 1) := by decide +kernel
theorem dX0_goWhoseTimeIsOver_1 : decode cX0_goWhoseTimeIsOver 1 = .ok (.istore_n 2, 1) := by decide +kernel
theorem dX0_goWhoseTimeIsOver_2 : decode cX0_goWhoseTimeIsOver 2 = .ok (.iload_n 2, 1) := by decide +kernel
theorem dX0_goWhoseTimeIsOver_3 : decode cX0_goWhoseTimeIsOver 3 = .ok (.aload_n 0, 1) := by decide +kernel
theorem dX0_goWhoseTimeIsOver_4 : decode cX0_goWhoseTimeIsOver 4 = .ok (.getfield 86, 3) := by decide +kernel
theorem dX0_goWhoseTimeIsOver_7 : decode cX0_goWhoseTimeIsOver 7 = .ok (.if_icmp .ge 48, 3) := by decide +kernel
theorem dX0_goWhoseTimeIsOver_10 : decode cX0_goWhoseTimeIsOver 10 = .ok (.aload_n 0, 1) := by decide +kernel
theorem dX0_goWhoseTimeIsOver_11 : decode cX0_goWhoseTimeIsOver 11 = .ok (.getfield 27, 3) := by decide +kernel
theorem dX0_goWhoseTimeIsOver_14 : decode cX0_goWhoseTimeIsOver 14 = .ok (.iload_n 2, 1) := by decide +kernel
theorem dX0_goWhoseTimeIsOver_15 : decode cX0_goWhoseTimeIsOver 15 = .ok (.iaload, 1) := by decide +kernel
theorem dX0_goWhoseTimeIsOver_16 : decode cX0_goWhoseTimeIsOver 16 = .ok (.istore_n 3, 1) := by decide +kernel
theorem dX0_goWhoseTimeIsOver_17 : decode cX0_goWhoseTimeIsOver 17 = .ok (.aload_n 0, 1) := by decide +kernel
theorem dX0_goWhoseTimeIsOver_18 : decode cX0_goWhoseTimeIsOver 18 = .ok (.getfield 9, 3) := by decide +kernel
theorem dX0_goWhoseTimeIsOver_21 : decode cX0_goWhoseTimeIsOver 21 = .ok (.iload_n 3, 1) := by decide +kernel
theorem dX0_goWhoseTimeIsOver_22 : decode cX0_goWhoseTimeIsOver 22 = .ok (.iaload, 1) := by decide +kernel
theorem dX0_goWhoseTimeIsOver_23 : decode cX0_goWhoseTimeIsOver 23 = .ok (.iconst 5, 1) := by decide +kernel
theorem dX0_goWhoseTimeIsOver_24 : decode cX0_goWhoseTimeIsOver 24 = .ok (.if_icmp .ne 25, 3) := by decide +kernel
theorem dX0_goWhoseTimeIsOver_27 : decode cX0_goWhoseTimeIsOver 27 = .ok (.aload_n 0, 1) := by decide +kernel
theorem dX0_goWhoseTimeIsOver_28 : decode cX0_goWhoseTimeIsOver 28 = .ok (.getfield 21, 3) := by decide +kernel
theorem dX0_goWhoseTimeIsOver_31 : decode cX0_goWhoseTimeIsOver 31 = .ok (.iload_n 3, 1) := by decide +kernel
theorem dX0_goWhoseTimeIsOver_32 : decode cX0_goWhoseTimeIsOver 32 = .ok (.iaload, 1) := by decide +kernel
theorem dX0_goWhoseTimeIsOver_33 : decode cX0_goWhoseTimeIsOver 33 = .ok (.iload_n 1, 1) := by decide +kernel
theorem dX0_goWhoseTimeIsOver_34 : decode cX0_goWhoseTimeIsOver 34 = .ok (.if_icmp .gt 15, 3) := by decide +kernel
theorem dX0_goWhoseTimeIsOver_37 : decode cX0_goWhoseTimeIsOver 37 = .ok (.aload_n 0, 1) := by decide +kernel
theorem dX0_goWhoseTimeIsOver_38 : decode cX0_goWhoseTimeIsOver 38 = .ok (.getfield 9, 3) := by decide +kernel
theorem dX0_goWhoseTimeIsOver_41 : decode cX0_goWhoseTimeIsOver 41 = .ok (.iload_n 3, 1) := by decide +kernel
theorem dX0_goWhoseTimeIsOver_42 : decode cX0_goWhoseTimeIsOver 42 = .ok (.iconst 0, 1) := by decide +kernel
theorem dX0_goWhoseTimeIsOver_43 : decode cX0_goWhoseTimeIsOver 43 = .ok (.iastore, 1) := by decide +kernel
theorem dX0_goWhoseTimeIsOver_44 : decode cX0_goWhoseTimeIsOver 44 = .ok (.aload_n 0, 1) := by decide +kernel
theorem dX0_goWhoseTimeIsOver_45 : decode cX0_goWhoseTimeIsOver 45 = .ok (.iload_n 3, 1) := by decide +kernel
theorem dX0_goWhoseTimeIsOver_46 : decode cX0_goWhoseTimeIsOver 46 = .ok (.invokevirtual 121, 3) := by decide +kernel
theorem dX0_goWhoseTimeIsOver_49 : decode cX0_goWhoseTimeIsOver 49 = .ok (.iinc 2 1, 3) := by decide +kernel
theorem dX0_goWhoseTimeIsOver_52 : decode cX0_goWhoseTimeIsOver 52 = .ok (.goto (-50), 3) := by decide +kernel
theorem dX0_goWhoseTimeIsOver_55 : decode cX0_goWhoseTimeIsOver 55 = .ok (.return_, 1) := by decide +kernel
theorem dX0_getUp_0 : decode cX0_getUp 0 = .ok (.iconst 0, 1) := by decide +kernel
theorem dX0_getUp_1 : decode cX0_getUp 1 = .ok (.istore_n 2, 1) := by decide +kernel
theorem dX0_getUp_2 : decode cX0_getUp 2 = .ok (.iload_n 2, 1) := by decide +kernel
theorem dX0_getUp_3 : decode cX0_getUp 3 = .ok (.aload_n 0, 1) := by decide +kernel
theorem dX0_getUp_4 : decode cX0_getUp 4 = .ok (.getfield 33, 3) := by decide +kernel
theorem dX0_getUp_7 : decode cX0_getUp 7 = .ok (.getfield 97, 3) := by decide +kernel
theorem dX0_getUp_10 : decode cX0_getUp 10 = .ok (.if_icmp .ge 26, 3) := by decide +kernel
theorem dX0_getUp_13 : decode cX0_getUp 13 = .ok (.aload_n 0, 1) := by decide +kernel
theorem dX0_getUp_14 : decode cX0_getUp 14 = .ok (.getfield 30, 3) := by decide +kernel
theorem dX0_getUp_17 : decode cX0_getUp 17 = .ok (.iload_n 2, 1) := by decide +kernel
theorem dX0_getUp_18 : decode cX0_getUp 18 = .ok (.iaload, 1) := by decide +kernel
theorem dX0_getUp_19 : decode cX0_getUp 19 = .ok (.iload_n 1, 1) := by decide +kernel
theorem dX0_getUp_20 : decode cX0_getUp 20 = .ok (.if_icmp .ne 10, 3) := by decide +kernel
theorem dX0_getUp_23 : decode cX0_getUp 23 = .ok (.aload_n 0, 1) := by decide +kernel
theorem dX0_getUp_24 : decode cX0_getUp 24 = .ok (.getfield 30, 3) := by decide +kernel
theorem dX0_getUp_27 : decode cX0_getUp 27 = .ok (.iload_n 2, 1) := by decide +kernel
theorem dX0_getUp_28 : decode cX0_getUp 28 = .ok (.iconst (-1), 1) := by decide +kernel
theorem dX0_getUp_29 : decode cX0_getUp 29 = .ok (.iastore, 1) := by decide +kernel
theorem dX0_getUp_30 : decode cX0_getUp 30 = .ok (.iinc 2 1, 3) := by decide +kernel
theorem dX0_getUp_33 : decode cX0_getUp 33 = .ok (.goto (-31), 3) := by decide +kernel
theorem dX0_getUp_36 : decode cX0_getUp 36 = .ok (.return_, 1) := by decide +kernel
theorem dX0_driveIn_0 : decode cX0_driveIn 0 = .ok (.iconst 0, 1) := by decide +kernel
theorem dX0_driveIn_1 : decode cX0_driveIn 1 = .ok (.istore_n 2, 1) := by decide +kernel
theorem dX0_driveIn_2 : decode cX0_driveIn 2 = .ok (.iconst 0, 1) := by decide +kernel
theorem dX0_driveIn_3 : decode cX0_driveIn 3 = .ok (.istore_n 3, 1) := by decide +kernel
theorem dX0_driveIn_4 : decode cX0_driveIn 4 = .ok (.iload_n 3, 1) := by decide +kernel
theorem dX0_driveIn_5 : decode cX0_driveIn 5 = .ok (.aload_n 0, 1) := by decide +kernel
theorem dX0_driveIn_6 : decode cX0_driveIn 6 = .ok (.getfield 33, 3) := by decide +kernel
theorem dX0_driveIn_9 : decode cX0_driveIn 9 = .ok (.getfield 97, 3) := by decide +kernel
theorem dX0_driveIn_12 : decode cX0_driveIn 12 = .ok (.if_icmp .ge 51, 3) := by decide +kernel
theorem dX0_driveIn_15 : decode cX0_driveIn 15 = .ok (.aload_n 0, 1) := by decide +kernel
theorem dX0_driveIn_16 : decode cX0_driveIn 16 = .ok (.getfield 33, 3) := by decide +kernel
theorem dX0_driveIn_19 : decode cX0_driveIn 19 = .ok (.getfield 124, 3) := by decide +kernel
theorem dX0_driveIn_22 : decode cX0_driveIn 22 = .ok (.iload_n 3, 1) := by decide +kernel
theorem dX0_driveIn_23 : decode cX0_driveIn 23 = .ok (.iaload, 1) := by decide +kernel
theorem dX0_driveIn_24 : decode cX0_driveIn 24 = .ok (.ifCond .ne 33, 3) := by decide +kernel
theorem dX0_driveIn_27 : decode cX0_driveIn 27 = .ok (.aload_n 0, 1) := by decide +kernel
theorem dX0_driveIn_28 : decode cX0_driveIn 28 = .ok (.getfield 30, 3) := by decide +kernel
theorem dX0_driveIn_31 : decode cX0_driveIn 31 = .ok (.iload_n 3, 1) := by decide +kernel
theorem dX0_driveIn_32 : decode cX0_driveIn 32 = .ok (.iaload, 1) := by decide +kernel
theorem dX0_driveIn_33 : decode cX0_driveIn 33 = .ok (.ifCond .lt 24, 3) := by decide +kernel
theorem dX0_driveIn_36 : decode cX0_driveIn 36 = .ok (.iload_n 2, 1) := by decide +kernel
theorem dX0_driveIn_37 : decode cX0_driveIn 37 = .ok (.iconst 1, 1) := by decide +kernel
theorem dX0_driveIn_38 : decode cX0_driveIn 38 = .ok (.aload_n 0, 1) := by decide +kernel
theorem dX0_driveIn_39 : decode cX0_driveIn 39 = .ok (.getfield 30, 3) := by decide +kernel
theorem dX0_driveIn_42 : decode cX0_driveIn 42 = .ok (.iload_n 3, 1) := by decide +kernel
theorem dX0_driveIn_43 : decode cX0_driveIn 43 = .ok (.iaload, 1) := by decide +kernel
theorem dX0_driveIn_44 : decode cX0_driveIn 44 = .ok (.ishl, 1) := by decide +kernel
theorem dX0_driveIn_45 : decode cX0_driveIn 45 = .ok (.ior, 1) := by decide +kernel
theorem dX0_driveIn_46 : decode cX0_driveIn 46 = .ok (.istore_n 2, 1) := by decide +kernel
theorem dX0_driveIn_47 : decode cX0_driveIn 47 = .ok (.aload_n 0, 1) := by decide +kernel
theorem dX0_driveIn_48 : decode cX0_driveIn 48 = .ok (.aload_n 0, 1) := by decide +kernel
theorem dX0_driveIn_49 : decode cX0_driveIn 49 = .ok (.getfield 30, 3) := by decide +kernel
theorem dX0_driveIn_52 : decode cX0_driveIn 52 = .ok (.iload_n 3, 1) := by decide +kernel
theorem dX0_driveIn_53 : decode cX0_driveIn 53 = .ok (.iaload, 1) := by decide +kernel
theorem dX0_driveIn_54 : decode cX0_driveIn 54 = .ok (.invokevirtual 121, 3) := by decide +kernel
theorem dX0_driveIn_57 : decode cX0_driveIn 57 = .ok (.iinc 3 1, 3) := by decide +kernel
theorem dX0_driveIn_60 : decode cX0_driveIn 60 = .ok (.goto (-56), 3) := by decide +kernel
theorem dX0_driveIn_63 : decode cX0_driveIn 63 = .ok (.iconst 0, 1) := by decide +kernel
theorem dX0_driveIn_64 : decode cX0_driveIn 64 = .ok (.istore_n 3, 1) := by decide +kernel
theorem dX0_driveIn_65 : decode cX0_driveIn 65 = .ok (.iload_n 3, 1) := by decide +kernel
theorem dX0_driveIn_66 : decode cX0_driveIn 66 = .ok (.aload_n 0, 1) := by decide +kernel
theorem dX0_driveIn_67 : decode cX0_driveIn 67 = .ok (.getfield 33, 3) := by decide +kernel
theorem dX0_driveIn_70 : decode cX0_driveIn 70 = .ok (.getfield 97, 3) := by decide +kernel
theorem dX0_driveIn_73 : decode cX0_driveIn 73 = .ok (.if_icmp .ge 29, 3) := by decide +kernel
theorem dX0_driveIn_76 : decode cX0_driveIn 76 = .ok (.aload_n 0, 1) := by decide +kernel
theorem dX0_driveIn_77 : decode cX0_driveIn 77 = .ok (.getfield 33, 3) := by decide +kernel
theorem dX0_driveIn_80 : decode cX0_driveIn 80 = .ok (.getfield 124, 3) := by decide +kernel
theorem dX0_driveIn_83 : decode cX0_driveIn 83 = .ok (.iload_n 3, 1) := by decide +kernel
theorem dX0_driveIn_84 : decode cX0_driveIn 84 = .ok (.iaload, 1) := by decide +kernel
theorem dX0_driveIn_85 : decode cX0_driveIn 85 = .ok (.ifCond .ne 11, 3) := by decide +kernel
theorem dX0_driveIn_88 : decode cX0_driveIn 88 = .ok (.aload_n 0, 1) := by decide +kernel
theorem dX0_driveIn_89 : decode cX0_driveIn 89 = .ok (.getfield 30, 3) := by decide +kernel
theorem dX0_driveIn_92 : decode cX0_driveIn 92 = .ok (.iload_n 3, 1) := by decide +kernel
theorem dX0_driveIn_93 : decode cX0_driveIn 93 = .ok (.bipush (-2), 2) := by decide +kernel
theorem dX0_driveIn_95 : decode cX0_driveIn 95 = .ok (.iastore, 1) := by decide +kernel
theorem dX0_driveIn_96 : decode cX0_driveIn 96 = .ok (.iinc 3 1, 3) := by decide +kernel
theorem dX0_driveIn_99 : decode cX0_driveIn 99 = .ok (.goto (-34), 3) := by decide +kernel
theorem dX0_driveIn_102 : decode cX0_driveIn 102 = .ok (.iconst 0, 1) := by decide +kernel
theorem dX0_driveIn_103 : decode cX0_driveIn 103 = .ok (.istore_n 3, 1) := by decide +kernel
theorem dX0_driveIn_104 : decode cX0_driveIn 104 = .ok (.iload_n 3, 1) := by decide +kernel
theorem dX0_driveIn_105 : decode cX0_driveIn 105 = .ok (.bipush 8, 2) := by decide +kernel
theorem dX0_driveIn_107 : decode cX0_driveIn 107 = .ok (.if_icmp .ge 42, 3) := by decide +kernel
theorem dX0_driveIn_110 : decode cX0_driveIn 110 = .ok (.iload_n 2, 1) := by decide +kernel
theorem dX0_driveIn_111 : decode cX0_driveIn 111 = .ok (.iload_n 3, 1) := by decide +kernel
theorem dX0_driveIn_112 : decode cX0_driveIn 112 = .ok (.ishr, 1) := by decide +kernel
theorem dX0_driveIn_113 : decode cX0_driveIn 113 = .ok (.iconst 1, 1) := by decide +kernel
theorem dX0_driveIn_114 : decode cX0_driveIn 114 = .ok (.iand, 1) := by decide +kernel
theorem dX0_driveIn_115 : decode cX0_driveIn 115 = .ok (.iconst 1, 1) := by decide +kernel
theorem dX0_driveIn_116 : decode cX0_driveIn 116 = .ok (.if_icmp .ne 27, 3) := by decide +kernel
theorem dX0_driveIn_119 : decode cX0_driveIn 119 = .ok (.aload_n 0, 1) := by decide +kernel
theorem dX0_driveIn_120 : decode cX0_driveIn 120 = .ok (.iload_n 3, 1) := by decide +kernel
theorem dX0_driveIn_121 : decode cX0_driveIn 121 = .ok (.invokevirtual 127, 3) := by decide +kernel
theorem dX0_driveIn_124 : decode cX0_driveIn 124 = .ok (.bipush (-9), 2) := by decide +kernel
theorem dX0_driveIn_126 : decode cX0_driveIn 126 = .ok (.if_icmp .ne 17, 3) := by decide +kernel
theorem dX0_driveIn_129 : decode cX0_driveIn 129 = .ok (.aload_n 0, 1) := by decide +kernel
theorem dX0_driveIn_130 : decode cX0_driveIn 130 = .ok (.getfield 9, 3) := by decide +kernel
theorem dX0_driveIn_133 : decode cX0_driveIn 133 = .ok (.iload_n 3, 1) := by decide +kernel
theorem dX0_driveIn_134 : decode cX0_driveIn 134 = .ok (.iconst 0, 1) := by decide +kernel
theorem dX0_driveIn_135 : decode cX0_driveIn 135 = .ok (.iastore, 1) := by decide +kernel
theorem dX0_driveIn_136 : decode cX0_driveIn 136 = .ok (.aload_n 0, 1) := by decide +kernel
theorem dX0_driveIn_137 : decode cX0_driveIn 137 = .ok (.getfield 21, 3) := by decide +kernel
theorem dX0_driveIn_140 : decode cX0_driveIn 140 = .ok (.iload_n 3, 1) := by decide +kernel
theorem dX0_driveIn_141 : decode cX0_driveIn 141 = .ok (.iload_n 1, 1) := by decide +kernel
theorem dX0_driveIn_142 : decode cX0_driveIn 142 = .ok (.iastore, 1) := by decide +kernel
theorem dX0_driveIn_143 : decode cX0_driveIn 143 = .ok (.iinc 3 1, 3) := by decide +kernel
theorem dX0_driveIn_146 : decode cX0_driveIn 146 = .ok (.goto (-42), 3) := by decide +kernel
theorem dX0_driveIn_149 : decode cX0_driveIn 149 = .ok (.return_, 1) := by decide +kernel
theorem dX0_callWaiting_0 : decode cX0_callWaiting 0 = .ok (.iconst 0, 1) := by decide +kernel
theorem dX0_callWaiting_1 : decode cX0_callWaiting 1 = .ok (.istore_n 2, 1) := by decide +kernel
theorem dX0_callWaiting_2 : decode cX0_callWaiting 2 = .ok (.iload_n 2, 1) := by decide +kernel
theorem dX0_callWaiting_3 : decode cX0_callWaiting 3 = .ok (.aload_n 0, 1) := by decide +kernel
theorem dX0_callWaiting_4 : decode cX0_callWaiting 4 = .ok (.getfield 86, 3) := by decide +kernel
theorem dX0_callWaiting_7 : decode cX0_callWaiting 7 = .ok (.if_icmp .ge 80, 3) := by decide +kernel
theorem dX0_callWaiting_10 : decode cX0_callWaiting 10 = .ok (.aload_n 0, 1) := by decide +kernel
theorem dX0_callWaiting_11 : decode cX0_callWaiting 11 = .ok (.getfield 27, 3) := by decide +kernel
theorem dX0_callWaiting_14 : decode cX0_callWaiting 14 = .ok (.iload_n 2, 1) := by decide +kernel
theorem dX0_callWaiting_15 : decode cX0_callWaiting 15 = .ok (.iaload, 1) := by decide +kernel
theorem dX0_callWaiting_16 : decode cX0_callWaiting 16 = .ok (.istore_n 3, 1) := by decide +kernel
theorem dX0_callWaiting_17 : decode cX0_callWaiting 17 = .ok (.aload_n 0, 1) := by decide +kernel
theorem dX0_callWaiting_18 : decode cX0_callWaiting 18 = .ok (.getfield 9, 3) := by decide +kernel
theorem dX0_callWaiting_21 : decode cX0_callWaiting 21 = .ok (.iload_n 3, 1) := by decide +kernel
theorem dX0_callWaiting_22 : decode cX0_callWaiting 22 = .ok (.iaload, 1) := by decide +kernel
theorem dX0_callWaiting_23 : decode cX0_callWaiting 23 = .ok (.iconst 4, 1) := by decide +kernel
theorem dX0_callWaiting_24 : decode cX0_callWaiting 24 = .ok (.if_icmp .ne 57, 3) := by decide +kernel
theorem dX0_callWaiting_27 : decode cX0_callWaiting 27 = .ok (.aload_n 0, 1) := by decide +kernel
theorem dX0_callWaiting_28 : decode cX0_callWaiting 28 = .ok (.iload_n 3, 1) := by decide +kernel
theorem dX0_callWaiting_29 : decode cX0_callWaiting 29 = .ok (.iload_n 1, 1) := by decide +kernel
theorem dX0_callWaiting_30 : decode cX0_callWaiting 30 = .ok (.invokevirtual 130, 3) := by decide +kernel
theorem dX0_callWaiting_33 : decode cX0_callWaiting 33 = .ok (.ifCond .ne 48, 3) := by decide +kernel
theorem dX0_callWaiting_36 : decode cX0_callWaiting 36 = .ok (.iload_n 1, 1) := by decide +kernel
theorem dX0_callWaiting_37 : decode cX0_callWaiting 37 = .ok (.aload_n 0, 1) := by decide +kernel
theorem dX0_callWaiting_38 : decode cX0_callWaiting 38 = .ok (.getfield 47, 3) := by decide +kernel
theorem dX0_callWaiting_41 : decode cX0_callWaiting 41 = .ok (.iload_n 3, 1) := by decide +kernel
theorem dX0_callWaiting_42 : decode cX0_callWaiting 42 = .ok (.aaload, 1) := by decide +kernel
theorem dX0_callWaiting_43 : decode cX0_callWaiting 43 = .ok (.getfield 112, 3) := by decide +kernel
theorem dX0_callWaiting_46 : decode cX0_callWaiting 46 = .ok (.isub, 1) := by decide +kernel
theorem dX0_callWaiting_47 : decode cX0_callWaiting 47 = .ok (.aload_n 0, 1) := by decide +kernel
theorem dX0_callWaiting_48 : decode cX0_callWaiting 48 = .ok (.getfield 33, 3) := by decide +kernel
theorem dX0_callWaiting_51 : decode cX0_callWaiting 51 = .ok (.getfield 118, 3) := by decide +kernel
theorem dX0_callWaiting_54 : decode cX0_callWaiting 54 = .ok (.if_icmp .lt 27, 3) := by decide +kernel
theorem dX0_callWaiting_57 : decode cX0_callWaiting 57 = .ok (.aload_n 0, 1) := by decide +kernel
theorem dX0_callWaiting_58 : decode cX0_callWaiting 58 = .ok (.getfield 9, 3) := by decide +kernel
theorem dX0_callWaiting_61 : decode cX0_callWaiting 61 = .ok (.iload_n 3, 1) := by decide +kernel
theorem dX0_callWaiting_62 : decode cX0_callWaiting 62 = .ok (.iconst 1, 1) := by decide +kernel
theorem dX0_callWaiting_63 : decode cX0_callWaiting 63 = .ok (.iastore, 1) := by decide +kernel
theorem dX0_callWaiting_64 : decode cX0_callWaiting 64 = .ok (.aload_n 0, 1) := by decide +kernel
theorem dX0_callWaiting_65 : decode cX0_callWaiting 65 = .ok (.getfield 24, 3) := by decide +kernel
theorem dX0_callWaiting_68 : decode cX0_callWaiting 68 = .ok (.iload_n 3, 1) := by decide +kernel
theorem dX0_callWaiting_69 : decode cX0_callWaiting 69 = .ok (.iload_n 1, 1) := by decide +kernel
theorem dX0_callWaiting_70 : decode cX0_callWaiting 70 = .ok (.aload_n 0, 1) := by decide +kernel
theorem dX0_callWaiting_71 : decode cX0_callWaiting 71 = .ok (.getfield 47, 3) := by decide +kernel
theorem dX0_callWaiting_74 : decode cX0_callWaiting 74 = .ok (.iload_n 3, 1) := by decide +kernel
theorem dX0_callWaiting_75 : decode cX0_callWaiting 75 = .ok (.aaload, 1) := by decide +kernel
theorem dX0_callWaiting_76 : decode cX0_callWaiting 76 = .ok (.getfield 112, 3) := by decide +kernel
theorem dX0_callWaiting_79 : decode cX0_callWaiting 79 = .ok (.isub, 1) := by decide +kernel
theorem dX0_callWaiting_80 : decode cX0_callWaiting 80 = .ok (.iastore, 1) := by decide +kernel
theorem dX0_callWaiting_81 : decode cX0_callWaiting 81 = .ok (.iinc 2 1, 3) := by decide +kernel
theorem dX0_callWaiting_84 : decode cX0_callWaiting 84 = .ok (.goto (-82), 3) := by decide +kernel
theorem dX0_callWaiting_87 : decode cX0_callWaiting 87 = .ok (.return_, 1) := by decide +kernel
theorem dX0_letCome_0 : decode cX0_letCome 0 = .ok (.iconst 0, 1) := by decide +kernel
theorem dX0_letCome_1 : decode cX0_letCome 1 = .ok (.istore_n 2, 1) := by decide +kernel
theorem dX0_letCome_2 : decode cX0_letCome 2 = .ok (.iload_n 2, 1) := by decide +kernel
theorem dX0_letCome_3 : decode cX0_letCome 3 = .ok (.aload_n 0, 1) := by decide +kernel
theorem dX0_letCome_4 : decode cX0_letCome 4 = .ok (.getfield 86, 3) := by decide +kernel
theorem dX0_letCome_7 : decode cX0_letCome 7 = .ok (.if_icmp .ge 98, 3) := by decide +kernel
theorem dX0_letCome_10 : decode cX0_letCome 10 = .ok (.aload_n 0, 1) := by decide +kernel
theorem dX0_letCome_11 : decode cX0_letCome 11 = .ok (.getfield 27, 3) := by decide +kernel
theorem dX0_letCome_14 : decode cX0_letCome 14 = .ok (.iload_n 2, 1) := by decide +kernel
theorem dX0_letCome_15 : decode cX0_letCome 15 = .ok (.iaload, 1) := by decide +kernel
theorem dX0_letCome_16 : decode cX0_letCome 16 = .ok (.istore_n 3, 1) := by decide +kernel
theorem dX0_letCome_17 : decode cX0_letCome 17 = .ok (.aload_n 0, 1) := by decide +kernel
theorem dX0_letCome_18 : decode cX0_letCome 18 = .ok (.getfield 9, 3) := by decide +kernel
theorem dX0_letCome_21 : decode cX0_letCome 21 = .ok (.iload_n 3, 1) := by decide +kernel
theorem dX0_letCome_22 : decode cX0_letCome 22 = .ok (.iaload, 1) := by decide +kernel
theorem dX0_letCome_23 : decode cX0_letCome 23 = .ok (.iconst 3, 1) := by decide +kernel
theorem dX0_letCome_24 : decode cX0_letCome 24 = .ok (.if_icmp .ne 75, 3) := by decide +kernel
theorem dX0_letCome_27 : decode cX0_letCome 27 = .ok (.aload_n 0, 1) := by decide +kernel
theorem dX0_letCome_28 : decode cX0_letCome 28 = .ok (.getfield 47, 3) := by decide +kernel
theorem dX0_letCome_31 : decode cX0_letCome 31 = .ok (.iload_n 3, 1) := by decide +kernel
theorem dX0_letCome_32 : decode cX0_letCome 32 = .ok (.aaload, 1) := by decide +kernel
theorem dX0_letCome_33 : decode cX0_letCome 33 = .ok (.getfield 112, 3) := by decide +kernel
theorem dX0_letCome_36 : decode cX0_letCome 36 = .ok (.iload_n 1, 1) := by decide +kernel
theorem dX0_letCome_37 : decode cX0_letCome 37 = .ok (.if_icmp .eq 6, 3) := by decide +kernel
theorem dX0_letCome_40 : decode cX0_letCome 40 = .ok (.goto 59, 3) := by decide +kernel
theorem dX0_letCome_43 : decode cX0_letCome 43 = .ok (.aload_n 0, 1) := by decide +kernel
theorem dX0_letCome_44 : decode cX0_letCome 44 = .ok (.invokevirtual 134, 3) := by decide +kernel
theorem dX0_letCome_47 : decode cX0_letCome 47 = .ok (.aload_n 0, 1) := by decide +kernel
theorem dX0_letCome_48 : decode cX0_letCome 48 = .ok (.getfield 47, 3) := by decide +kernel
theorem dX0_letCome_51 : decode cX0_letCome 51 = .ok (.iload_n 3, 1) := by decide +kernel
theorem dX0_letCome_52 : decode cX0_letCome 52 = .ok (.aaload, 1) := by decide +kernel
theorem dX0_letCome_53 : decode cX0_letCome 53 = .ok (.getfield 137, 3) := by decide +kernel
theorem dX0_letCome_56 : decode cX0_letCome 56 = .ok (.if_icmp .ge 13, 3) := by decide +kernel
theorem dX0_letCome_59 : decode cX0_letCome 59 = .ok (.aload_n 0, 1) := by decide +kernel
theorem dX0_letCome_60 : decode cX0_letCome 60 = .ok (.getfield 9, 3) := by decide +kernel
theorem dX0_letCome_63 : decode cX0_letCome 63 = .ok (.iload_n 3, 1) := by decide +kernel
theorem dX0_letCome_64 : decode cX0_letCome 64 = .ok (.iconst 2, 1) := by decide +kernel
theorem dX0_letCome_65 : decode cX0_letCome 65 = .ok (.iastore, 1) := by decide +kernel
theorem dX0_letCome_66 : decode cX0_letCome 66 = .ok (.goto 33, 3) := by decide +kernel
theorem dX0_letCome_69 : decode cX0_letCome 69 = .ok (.aload_n 0, 1) := by decide +kernel
theorem dX0_letCome_70 : decode cX0_letCome 70 = .ok (.iload_n 3, 1) := by decide +kernel
theorem dX0_letCome_71 : decode cX0_letCome 71 = .ok (.iload_n 1, 1) := by decide +kernel
theorem dX0_letCome_72 : decode cX0_letCome 72 = .ok (.invokevirtual 130, 3) := by decide +kernel
theorem dX0_letCome_75 : decode cX0_letCome 75 = .ok (.ifCond .ne 24, 3) := by decide +kernel
theorem dX0_letCome_78 : decode cX0_letCome 78 = .ok (.aload_n 0, 1) := by decide +kernel
theorem dX0_letCome_79 : decode cX0_letCome 79 = .ok (.getfield 9, 3) := by decide +kernel
theorem dX0_letCome_82 : decode cX0_letCome 82 = .ok (.iload_n 3, 1) := by decide +kernel
theorem dX0_letCome_83 : decode cX0_letCome 83 = .ok (.aload_n 0, 1) := by decide +kernel
theorem dX0_letCome_84 : decode cX0_letCome 84 = .ok (.getfield 33, 3) := by decide +kernel
theorem dX0_letCome_87 : decode cX0_letCome 87 = .ok (.getfield 118, 3) := by decide +kernel
theorem dX0_letCome_90 : decode cX0_letCome 90 = .ok (.ifCond .le 7, 3) := by decide +kernel
theorem dX0_letCome_93 : decode cX0_letCome 93 = .ok (.iconst 4, 1) := by decide +kernel
theorem dX0_letCome_94 : decode cX0_letCome 94 = .ok (.goto 4, 3) := by decide +kernel
theorem dX0_letCome_97 : decode cX0_letCome 97 = .ok (.iconst 1, 1) := by decide +kernel
theorem dX0_letCome_98 : decode cX0_letCome 98 = .ok (.iastore, 1) := by decide +kernel
theorem dX0_letCome_99 : decode cX0_letCome 99 = .ok (.iinc 2 1, 3) := by decide +kernel
theorem dX0_letCome_102 : decode cX0_letCome 102 = .ok (.goto (-100), 3) := by decide +kernel
theorem dX0_letCome_105 : decode cX0_letCome 105 = .ok (.return_, 1) := by decide +kernel
theorem dX0_sitDown_0 : decode cX0_sitDown 0 = .ok (.aload_n 0, 1) := by decide +kernel
theorem dX0_sitDown_1 : decode cX0_sitDown 1 = .ok (.iload_n 1, 1) := by decide +kernel
theorem dX0_sitDown_2 : decode cX0_sitDown 2 = .ok (.invokevirtual 127, 3) := by decide +kernel
theorem dX0_sitDown_5 : decode cX0_sitDown 5 = .ok (.istore_n 3, 1) := by decide +kernel
theorem dX0_sitDown_6 : decode cX0_sitDown 6 = .ok (.iload_n 3, 1) := by decide +kernel
theorem dX0_sitDown_7 : decode cX0_sitDown 7 = .ok (.bipush (-9), 2) := by decide +kernel
theorem dX0_sitDown_9 : decode cX0_sitDown 9 = .ok (.if_icmp .ne 5, 3) := by decide +kernel
theorem dX0_sitDown_12 : decode cX0_sitDown 12 = .ok (.iconst 0, 1) := by decide +kernel
theorem dX0_sitDown_13 : decode cX0_sitDown 13 = .ok (.ireturn, 1) := by decide +kernel
theorem dX0_sitDown_14 : decode cX0_sitDown 14 = .ok (.aload_n 0, 1) := by decide +kernel
theorem dX0_sitDown_15 : decode cX0_sitDown 15 = .ok (.getfield 9, 3) := by decide +kernel
theorem dX0_sitDown_18 : decode cX0_sitDown 18 = .ok (.iload_n 1, 1) := by decide +kernel
theorem dX0_sitDown_19 : decode cX0_sitDown 19 = .ok (.iconst 5, 1) := by decide +kernel
theorem dX0_sitDown_20 : decode cX0_sitDown 20 = .ok (.iastore, 1) := by decide +kernel
theorem dX0_sitDown_21 : decode cX0_sitDown 21 = .ok (.aload_n 0, 1) := by decide +kernel
theorem dX0_sitDown_22 : decode cX0_sitDown 22 = .ok (.getfield 15, 3) := by decide +kernel
theorem dX0_sitDown_25 : decode cX0_sitDown 25 = .ok (.iload_n 1, 1) := by decide +kernel
theorem dX0_sitDown_26 : decode cX0_sitDown 26 = .ok (.iload_n 3, 1) := by decide +kernel
theorem dX0_sitDown_27 : decode cX0_sitDown 27 = .ok (.iastore, 1) := by decide +kernel
theorem dX0_sitDown_28 : decode cX0_sitDown 28 = .ok (.aload_n 0, 1) := by decide +kernel
theorem dX0_sitDown_29 : decode cX0_sitDown 29 = .ok (.getfield 18, 3) := by decide +kernel
theorem dX0_sitDown_32 : decode cX0_sitDown 32 = .ok (.iload_n 1, 1) := by decide +kernel
theorem dX0_sitDown_33 : decode cX0_sitDown 33 = .ok (.iload_n 2, 1) := by decide +kernel
theorem dX0_sitDown_34 : decode cX0_sitDown 34 = .ok (.iastore, 1) := by decide +kernel
theorem dX0_sitDown_35 : decode cX0_sitDown 35 = .ok (.aload_n 0, 1) := by decide +kernel
theorem dX0_sitDown_36 : decode cX0_sitDown 36 = .ok (.getfield 21, 3) := by decide +kernel
theorem dX0_sitDown_39 : decode cX0_sitDown 39 = .ok (.iload_n 1, 1) := by decide +kernel
theorem dX0_sitDown_40 : decode cX0_sitDown 40 = .ok (.iload_n 2, 1) := by decide +kernel
theorem dX0_sitDown_41 : decode cX0_sitDown 41 = .ok (.aload_n 0, 1) := by decide +kernel
theorem dX0_sitDown_42 : decode cX0_sitDown 42 = .ok (.getfield 47, 3) := by decide +kernel
theorem dX0_sitDown_45 : decode cX0_sitDown 45 = .ok (.iload_n 1, 1) := by decide +kernel
theorem dX0_sitDown_46 : decode cX0_sitDown 46 = .ok (.aaload, 1) := by decide +kernel
theorem dX0_sitDown_47 : decode cX0_sitDown 47 = .ok (.aload_n 0, 1) := by decide +kernel
theorem dX0_sitDown_48 : decode cX0_sitDown 48 = .ok (.iload_n 1, 1) := by decide +kernel
theorem dX0_sitDown_49 : decode cX0_sitDown 49 = .ok (.invokevirtual 140, 3) := by decide +kernel
theorem dX0_sitDown_52 : decode cX0_sitDown 52 = .ok (.ifCond .le 7, 3) := by decide +kernel
theorem dX0_sitDown_55 : decode cX0_sitDown 55 = .ok (.iconst 1, 1) := by decide +kernel
theorem dX0_sitDown_56 : decode cX0_sitDown 56 = .ok (.goto 4, 3) := by decide +kernel
theorem dX0_sitDown_59 : decode cX0_sitDown 59 = .ok (.iconst 0, 1) := by decide +kernel
theorem dX0_sitDown_60 : decode cX0_sitDown 60 = .ok (.invokevirtual 143, 3) := by decide +kernel
theorem dX0_sitDown_63 : decode cX0_sitDown 63 = .ok (.iadd, 1) := by decide +kernel
theorem dX0_sitDown_64 : decode cX0_sitDown 64 = .ok (.iastore, 1) := by decide +kernel
theorem dX0_sitDown_65 : decode cX0_sitDown 65 = .ok (.aload_n 0, 1) := by decide +kernel
theorem dX0_sitDown_66 : decode cX0_sitDown 66 = .ok (.getfield 24, 3) := by decide +kernel
theorem dX0_sitDown_69 : decode cX0_sitDown 69 = .ok (.iload_n 1, 1) := by decide +kernel
theorem dX0_sitDown_70 : decode cX0_sitDown 70 = .ok (.iload_n 2, 1) := by decide +kernel
theorem dX0_sitDown_71 : decode cX0_sitDown 71 = .ok (.aload_n 0, 1) := by decide +kernel
theorem dX0_sitDown_72 : decode cX0_sitDown 72 = .ok (.getfield 47, 3) := by decide +kernel
theorem dX0_sitDown_75 : decode cX0_sitDown 75 = .ok (.iload_n 1, 1) := by decide +kernel
theorem dX0_sitDown_76 : decode cX0_sitDown 76 = .ok (.aaload, 1) := by decide +kernel
theorem dX0_sitDown_77 : decode cX0_sitDown 77 = .ok (.getfield 112, 3) := by decide +kernel
theorem dX0_sitDown_80 : decode cX0_sitDown 80 = .ok (.isub, 1) := by decide +kernel
theorem dX0_sitDown_81 : decode cX0_sitDown 81 = .ok (.iastore, 1) := by decide +kernel
theorem dX0_sitDown_82 : decode cX0_sitDown 82 = .ok (.iconst 1, 1) := by decide +kernel
theorem dX0_sitDown_83 : decode cX0_sitDown 83 = .ok (.ireturn, 1) := by decide +kernel
theorem dX0_findPlace_0 : decode cX0_findPlace 0 = .ok (.aload_n 0, 1) := by decide +kernel
theorem dX0_findPlace_1 : decode cX0_findPlace 1 = .ok (.getfield 47, 3) := by decide +kernel
theorem dX0_findPlace_4 : decode cX0_findPlace 4 = .ok (.iload_n 1, 1) := by decide +kernel
theorem dX0_findPlace_5 : decode cX0_findPlace 5 = .ok (.aaload, 1) := by decide +kernel
theorem dX0_findPlace_6 : decode cX0_findPlace 6 = .ok (.astore_n 2, 1) := by decide +kernel
theorem dX0_findPlace_7 : decode cX0_findPlace 7 = .ok (.aload_n 0, 1) := by decide +kernel
theorem dX0_findPlace_8 : decode cX0_findPlace 8 = .ok (.getfield 33, 3) := by decide +kernel
theorem dX0_findPlace_11 : decode cX0_findPlace 11 = .ok (.getfield 147, 3) := by decide +kernel
theorem dX0_findPlace_14 : decode cX0_findPlace 14 = .ok (.iconst 2, 1) := by decide +kernel
theorem dX0_findPlace_15 : decode cX0_findPlace 15 = .ok (.if_icmp .ne 18, 3) := by decide +kernel
theorem dX0_findPlace_18 : decode cX0_findPlace 18 = .ok (.aload_n 0, 1) := by decide +kernel
theorem dX0_findPlace_19 : decode cX0_findPlace 19 = .ok (.aload_n 2, 1) := by decide +kernel
theorem dX0_findPlace_20 : decode cX0_findPlace 20 = .ok (.getfield 150, 3) := by decide +kernel
theorem dX0_findPlace_23 : decode cX0_findPlace 23 = .ok (.aload_n 2, 1) := by decide +kernel
theorem dX0_findPlace_24 : decode cX0_findPlace 24 = .ok (.getfield 153, 3) := by decide +kernel
theorem dX0_findPlace_27 : decode cX0_findPlace 27 = .ok (.invokevirtual 156, 3) := by decide +kernel
theorem dX0_findPlace_30 : decode cX0_findPlace 30 = .ok (.goto 5, 3) := by decide +kernel
theorem dX0_findPlace_33 : decode cX0_findPlace 33 = .ok (.bipush (-9), 2) := by decide +kernel
theorem dX0_findPlace_35 : decode cX0_findPlace 35 = .ok (.istore_n 3, 1) := by decide +kernel
theorem dX0_findPlace_36 : decode cX0_findPlace 36 = .ok (.iload_n 3, 1) := by decide +kernel
theorem dX0_findPlace_37 : decode cX0_findPlace 37 = .ok (.bipush (-9), 2) := by decide +kernel
theorem dX0_findPlace_39 : decode cX0_findPlace 39 = .ok (.if_icmp .ne 13, 3) := by decide +kernel
theorem dX0_findPlace_42 : decode cX0_findPlace 42 = .ok (.aload_n 0, 1) := by decide +kernel
theorem dX0_findPlace_43 : decode cX0_findPlace 43 = .ok (.aload_n 2, 1) := by decide +kernel
theorem dX0_findPlace_44 : decode cX0_findPlace 44 = .ok (.getfield 150, 3) := by decide +kernel
theorem dX0_findPlace_47 : decode cX0_findPlace 47 = .ok (.iconst (-1), 1) := by decide +kernel
theorem dX0_findPlace_48 : decode cX0_findPlace 48 = .ok (.invokevirtual 156, 3) := by decide +kernel
theorem dX0_findPlace_51 : decode cX0_findPlace 51 = .ok (.istore_n 3, 1) := by decide +kernel
theorem dX0_findPlace_52 : decode cX0_findPlace 52 = .ok (.iload_n 3, 1) := by decide +kernel
theorem dX0_findPlace_53 : decode cX0_findPlace 53 = .ok (.bipush (-9), 2) := by decide +kernel
theorem dX0_findPlace_55 : decode cX0_findPlace 55 = .ok (.if_icmp .eq 12, 3) := by decide +kernel
theorem dX0_findPlace_58 : decode cX0_findPlace 58 = .ok (.aload_n 0, 1) := by decide +kernel
theorem dX0_findPlace_59 : decode cX0_findPlace 59 = .ok (.getfield 30, 3) := by decide +kernel
theorem dX0_findPlace_62 : decode cX0_findPlace 62 = .ok (.iload_n 3, 1) := by decide +kernel
theorem dX0_findPlace_63 : decode cX0_findPlace 63 = .ok (.iload_n 1, 1) := by decide +kernel
theorem dX0_findPlace_64 : decode cX0_findPlace 64 = .ok (.iastore, 1) := by decide +kernel
theorem dX0_findPlace_65 : decode cX0_findPlace 65 = .ok (.iload_n 3, 1) := by decide +kernel
theorem dX0_findPlace_66 : decode cX0_findPlace 66 = .ok (.ireturn, 1) := by decide +kernel
theorem dX0_findPlace_67 : decode cX0_findPlace 67 = .ok (.aload_n 0, 1) := by decide +kernel
theorem dX0_findPlace_68 : decode cX0_findPlace 68 = .ok (.getfield 33, 3) := by decide +kernel
theorem dX0_findPlace_71 : decode cX0_findPlace 71 = .ok (.getfield 159, 3) := by decide +kernel
theorem dX0_findPlace_74 : decode cX0_findPlace 74 = .ok (.ifCond .eq 14, 3) := by decide +kernel
theorem dX0_findPlace_77 : decode cX0_findPlace 77 = .ok (.aload_n 0, 1) := by decide +kernel
theorem dX0_findPlace_78 : decode cX0_findPlace 78 = .ok (.aload_n 2, 1) := by decide +kernel
theorem dX0_findPlace_79 : decode cX0_findPlace 79 = .ok (.getfield 150, 3) := by decide +kernel
theorem dX0_findPlace_82 : decode cX0_findPlace 82 = .ok (.invokevirtual 163, 3) := by decide +kernel
theorem dX0_findPlace_85 : decode cX0_findPlace 85 = .ok (.goto 5, 3) := by decide +kernel
theorem dX0_findPlace_88 : decode cX0_findPlace 88 = .ok (.bipush (-9), 2) := by decide +kernel
theorem dX0_findPlace_90 : decode cX0_findPlace 90 = .ok (.istore_n 3, 1) := by decide +kernel
theorem dX0_findPlace_91 : decode cX0_findPlace 91 = .ok (.iload_n 3, 1) := by decide +kernel
theorem dX0_findPlace_92 : decode cX0_findPlace 92 = .ok (.bipush (-9), 2) := by decide +kernel
theorem dX0_findPlace_94 : decode cX0_findPlace 94 = .ok (.if_icmp .eq 19, 3) := by decide +kernel
theorem dX0_findPlace_97 : decode cX0_findPlace 97 = .ok (.aload_n 0, 1) := by decide +kernel
theorem dX0_findPlace_98 : decode cX0_findPlace 98 = .ok (.getfield 30, 3) := by decide +kernel
theorem dX0_findPlace_101 : decode cX0_findPlace 101 = .ok (.iload_n 3, 1) := by decide +kernel
theorem dX0_findPlace_102 : decode cX0_findPlace 102 = .ok (.iload_n 1, 1) := by decide +kernel
theorem dX0_findPlace_103 : decode cX0_findPlace 103 = .ok (.iastore, 1) := by decide +kernel
theorem dX0_findPlace_104 : decode cX0_findPlace 104 = .ok (.aload_n 0, 1) := by decide +kernel
theorem dX0_findPlace_105 : decode cX0_findPlace 105 = .ok (.getfield 30, 3) := by decide +kernel
theorem dX0_findPlace_108 : decode cX0_findPlace 108 = .ok (.iload_n 3, 1) := by decide +kernel
theorem dX0_findPlace_109 : decode cX0_findPlace 109 = .ok (.iconst 1, 1) := by decide +kernel
theorem dX0_findPlace_110 : decode cX0_findPlace 110 = .ok (.iadd, 1) := by decide +kernel
theorem dX0_findPlace_111 : decode cX0_findPlace 111 = .ok (.iload_n 1, 1) := by decide +kernel
theorem dX0_findPlace_112 : decode cX0_findPlace 112 = .ok (.iastore, 1) := by decide +kernel
theorem dX0_findPlace_113 : decode cX0_findPlace 113 = .ok (.iload_n 3, 1) := by decide +kernel
theorem dX0_findPlace_114 : decode cX0_findPlace 114 = .ok (.ireturn, 1) := by decide +kernel
theorem dX0_oneTable_0 : decode cX0_oneTable 0 = .ok (.bipush (-9), 2) := by decide +kernel
theorem dX0_oneTable_2 : decode cX0_oneTable 2 = .ok (.istore_n 3, 1) := by decide +kernel
theorem dX0_oneTable_3 : decode cX0_oneTable 3 = .ok (.iconst 0, 1) := by decide +kernel
theorem dX0_oneTable_4 : decode cX0_oneTable 4 = .ok (.istore 4, 2) := by decide +kernel
theorem dX0_oneTable_6 : decode cX0_oneTable 6 = .ok (.iload 4, 2) := by decide +kernel
theorem dX0_oneTable_8 : decode cX0_oneTable 8 = .ok (.aload_n 0, 1) := by decide +kernel
theorem dX0_oneTable_9 : decode cX0_oneTable 9 = .ok (.getfield 33, 3) := by decide +kernel
theorem dX0_oneTable_12 : decode cX0_oneTable 12 = .ok (.getfield 97, 3) := by decide +kernel
theorem dX0_oneTable_15 : decode cX0_oneTable 15 = .ok (.if_icmp .ge 130, 3) := by decide +kernel
theorem dX0_oneTable_18 : decode cX0_oneTable 18 = .ok (.aload_n 0, 1) := by decide +kernel
theorem dX0_oneTable_19 : decode cX0_oneTable 19 = .ok (.getfield 30, 3) := by decide +kernel
theorem dX0_oneTable_22 : decode cX0_oneTable 22 = .ok (.iload 4, 2) := by decide +kernel
theorem dX0_oneTable_24 : decode cX0_oneTable 24 = .ok (.iaload, 1) := by decide +kernel
theorem dX0_oneTable_25 : decode cX0_oneTable 25 = .ok (.iconst (-1), 1) := by decide +kernel
theorem dX0_oneTable_26 : decode cX0_oneTable 26 = .ok (.if_icmp .ne 21, 3) := by decide +kernel
theorem dX0_oneTable_29 : decode cX0_oneTable 29 = .ok (.aload_n 0, 1) := by decide +kernel
theorem dX0_oneTable_30 : decode cX0_oneTable 30 = .ok (.getfield 33, 3) := by decide +kernel
theorem dX0_oneTable_33 : decode cX0_oneTable 33 = .ok (.getfield 166, 3) := by decide +kernel
theorem dX0_oneTable_36 : decode cX0_oneTable 36 = .ok (.iload 4, 2) := by decide +kernel
theorem dX0_oneTable_38 : decode cX0_oneTable 38 = .ok (.iaload, 1) := by decide +kernel
theorem dX0_oneTable_39 : decode cX0_oneTable 39 = .ok (.iload_n 1, 1) := by decide +kernel
theorem dX0_oneTable_40 : decode cX0_oneTable 40 = .ok (.if_icmp .lt 7, 3) := by decide +kernel
theorem dX0_oneTable_43 : decode cX0_oneTable 43 = .ok (.iconst 1, 1) := by decide +kernel
theorem dX0_oneTable_44 : decode cX0_oneTable 44 = .ok (.goto 4, 3) := by decide +kernel
theorem dX0_oneTable_47 : decode cX0_oneTable 47 = .ok (.iconst 0, 1) := by decide +kernel
theorem dX0_oneTable_48 : decode cX0_oneTable 48 = .ok (.istore 5, 2) := by decide +kernel
theorem dX0_oneTable_50 : decode cX0_oneTable 50 = .ok (.iload_n 2, 1) := by decide +kernel
theorem dX0_oneTable_51 : decode cX0_oneTable 51 = .ok (.iconst (-1), 1) := by decide +kernel
theorem dX0_oneTable_52 : decode cX0_oneTable 52 = .ok (.if_icmp .eq 17, 3) := by decide +kernel
theorem dX0_oneTable_55 : decode cX0_oneTable 55 = .ok (.aload_n 0, 1) := by decide +kernel
theorem dX0_oneTable_56 : decode cX0_oneTable 56 = .ok (.getfield 33, 3) := by decide +kernel
theorem dX0_oneTable_59 : decode cX0_oneTable 59 = .ok (.getfield 124, 3) := by decide +kernel
theorem dX0_oneTable_62 : decode cX0_oneTable 62 = .ok (.iload 4, 2) := by decide +kernel
theorem dX0_oneTable_64 : decode cX0_oneTable 64 = .ok (.iaload, 1) := by decide +kernel
theorem dX0_oneTable_65 : decode cX0_oneTable 65 = .ok (.iload_n 2, 1) := by decide +kernel
theorem dX0_oneTable_66 : decode cX0_oneTable 66 = .ok (.if_icmp .ne 7, 3) := by decide +kernel
theorem dX0_oneTable_69 : decode cX0_oneTable 69 = .ok (.iconst 1, 1) := by decide +kernel
theorem dX0_oneTable_70 : decode cX0_oneTable 70 = .ok (.goto 4, 3) := by decide +kernel
theorem dX0_oneTable_73 : decode cX0_oneTable 73 = .ok (.iconst 0, 1) := by decide +kernel
theorem dX0_oneTable_74 : decode cX0_oneTable 74 = .ok (.istore 6, 2) := by decide +kernel
theorem dX0_oneTable_76 : decode cX0_oneTable 76 = .ok (.iload_n 3, 1) := by decide +kernel
theorem dX0_oneTable_77 : decode cX0_oneTable 77 = .ok (.bipush (-9), 2) := by decide +kernel
theorem dX0_oneTable_79 : decode cX0_oneTable 79 = .ok (.if_icmp .eq 35, 3) := by decide +kernel
theorem dX0_oneTable_82 : decode cX0_oneTable 82 = .ok (.aload_n 0, 1) := by decide +kernel
theorem dX0_oneTable_83 : decode cX0_oneTable 83 = .ok (.getfield 33, 3) := by decide +kernel
theorem dX0_oneTable_86 : decode cX0_oneTable 86 = .ok (.getfield 147, 3) := by decide +kernel
theorem dX0_oneTable_89 : decode cX0_oneTable 89 = .ok (.ifCond .eq 29, 3) := by decide +kernel
theorem dX0_oneTable_92 : decode cX0_oneTable 92 = .ok (.aload_n 0, 1) := by decide +kernel
theorem dX0_oneTable_93 : decode cX0_oneTable 93 = .ok (.getfield 33, 3) := by decide +kernel
theorem dX0_oneTable_96 : decode cX0_oneTable 96 = .ok (.getfield 166, 3) := by decide +kernel
theorem dX0_oneTable_99 : decode cX0_oneTable 99 = .ok (.iload 4, 2) := by decide +kernel
theorem dX0_oneTable_101 : decode cX0_oneTable 101 = .ok (.iaload, 1) := by decide +kernel
theorem dX0_oneTable_102 : decode cX0_oneTable 102 = .ok (.aload_n 0, 1) := by decide +kernel
theorem dX0_oneTable_103 : decode cX0_oneTable 103 = .ok (.getfield 33, 3) := by decide +kernel
theorem dX0_oneTable_106 : decode cX0_oneTable 106 = .ok (.getfield 166, 3) := by decide +kernel
theorem dX0_oneTable_109 : decode cX0_oneTable 109 = .ok (.iload_n 3, 1) := by decide +kernel
theorem dX0_oneTable_110 : decode cX0_oneTable 110 = .ok (.iaload, 1) := by decide +kernel
theorem dX0_oneTable_111 : decode cX0_oneTable 111 = .ok (.if_icmp .ge 7, 3) := by decide +kernel
theorem dX0_oneTable_114 : decode cX0_oneTable 114 = .ok (.iconst 1, 1) := by decide +kernel
theorem dX0_oneTable_115 : decode cX0_oneTable 115 = .ok (.goto 4, 3) := by decide +kernel
theorem dX0_oneTable_118 : decode cX0_oneTable 118 = .ok (.iconst 0, 1) := by decide +kernel
theorem dX0_oneTable_119 : decode cX0_oneTable 119 = .ok (.istore 7, 2) := by decide +kernel
theorem dX0_oneTable_121 : decode cX0_oneTable 121 = .ok (.iload 5, 2) := by decide +kernel
theorem dX0_oneTable_123 : decode cX0_oneTable 123 = .ok (.ifCond .eq 16, 3) := by decide +kernel
theorem dX0_oneTable_126 : decode cX0_oneTable 126 = .ok (.iload 6, 2) := by decide +kernel
theorem dX0_oneTable_128 : decode cX0_oneTable 128 = .ok (.ifCond .eq 11, 3) := by decide +kernel
theorem dX0_oneTable_131 : decode cX0_oneTable 131 = .ok (.iload 7, 2) := by decide +kernel
theorem dX0_oneTable_133 : decode cX0_oneTable 133 = .ok (.ifCond .eq 6, 3) := by decide +kernel
theorem dX0_oneTable_136 : decode cX0_oneTable 136 = .ok (.iload 4, 2) := by decide +kernel
theorem dX0_oneTable_138 : decode cX0_oneTable 138 = .ok (.istore_n 3, 1) := by decide +kernel
theorem dX0_oneTable_139 : decode cX0_oneTable 139 = .ok (.iinc 4 1, 3) := by decide +kernel
theorem dX0_oneTable_142 : decode cX0_oneTable 142 = .ok (.goto (-136), 3) := by decide +kernel
theorem dX0_oneTable_145 : decode cX0_oneTable 145 = .ok (.iload_n 3, 1) := by decide +kernel
theorem dX0_oneTable_146 : decode cX0_oneTable 146 = .ok (.ireturn, 1) := by decide +kernel
theorem dX0_twoTables_0 : decode cX0_twoTables 0 = .ok (.iconst 0, 1) := by decide +kernel
theorem dX0_twoTables_1 : decode cX0_twoTables 1 = .ok (.istore_n 2, 1) := by decide +kernel
theorem dX0_twoTables_2 : decode cX0_twoTables 2 = .ok (.iload_n 2, 1) := by decide +kernel
theorem dX0_twoTables_3 : decode cX0_twoTables 3 = .ok (.iconst 1, 1) := by decide +kernel
theorem dX0_twoTables_4 : decode cX0_twoTables 4 = .ok (.iadd, 1) := by decide +kernel
theorem dX0_twoTables_5 : decode cX0_twoTables 5 = .ok (.aload_n 0, 1) := by decide +kernel
theorem dX0_twoTables_6 : decode cX0_twoTables 6 = .ok (.getfield 33, 3) := by decide +kernel
theorem dX0_twoTables_9 : decode cX0_twoTables 9 = .ok (.getfield 97, 3) := by decide +kernel
theorem dX0_twoTables_12 : decode cX0_twoTables 12 = .ok (.if_icmp .ge 68, 3) := by decide +kernel
theorem dX0_twoTables_15 : decode cX0_twoTables 15 = .ok (.aload_n 0, 1) := by decide +kernel
theorem dX0_twoTables_16 : decode cX0_twoTables 16 = .ok (.getfield 30, 3) := by decide +kernel
theorem dX0_twoTables_19 : decode cX0_twoTables 19 = .ok (.iload_n 2, 1) := by decide +kernel
theorem dX0_twoTables_20 : decode cX0_twoTables 20 = .ok (.iaload, 1) := by decide +kernel
theorem dX0_twoTables_21 : decode cX0_twoTables 21 = .ok (.iconst (-1), 1) := by decide +kernel
theorem dX0_twoTables_22 : decode cX0_twoTables 22 = .ok (.if_icmp .ne 19, 3) := by decide +kernel
theorem dX0_twoTables_25 : decode cX0_twoTables 25 = .ok (.aload_n 0, 1) := by decide +kernel
theorem dX0_twoTables_26 : decode cX0_twoTables 26 = .ok (.getfield 30, 3) := by decide +kernel
theorem dX0_twoTables_29 : decode cX0_twoTables 29 = .ok (.iload_n 2, 1) := by decide +kernel
theorem dX0_twoTables_30 : decode cX0_twoTables 30 = .ok (.iconst 1, 1) := by decide +kernel
theorem dX0_twoTables_31 : decode cX0_twoTables 31 = .ok (.iadd, 1) := by decide +kernel
theorem dX0_twoTables_32 : decode cX0_twoTables 32 = .ok (.iaload, 1) := by decide +kernel
theorem dX0_twoTables_33 : decode cX0_twoTables 33 = .ok (.iconst (-1), 1) := by decide +kernel
theorem dX0_twoTables_34 : decode cX0_twoTables 34 = .ok (.if_icmp .ne 7, 3) := by decide +kernel
theorem dX0_twoTables_37 : decode cX0_twoTables 37 = .ok (.iconst 1, 1) := by decide +kernel
theorem dX0_twoTables_38 : decode cX0_twoTables 38 = .ok (.goto 4, 3) := by decide +kernel
theorem dX0_twoTables_41 : decode cX0_twoTables 41 = .ok (.iconst 0, 1) := by decide +kernel
theorem dX0_twoTables_42 : decode cX0_twoTables 42 = .ok (.istore_n 3, 1) := by decide +kernel
theorem dX0_twoTables_43 : decode cX0_twoTables 43 = .ok (.iload_n 3, 1) := by decide +kernel
theorem dX0_twoTables_44 : decode cX0_twoTables 44 = .ok (.ifCond .eq 30, 3) := by decide +kernel
theorem dX0_twoTables_47 : decode cX0_twoTables 47 = .ok (.aload_n 0, 1) := by decide +kernel
theorem dX0_twoTables_48 : decode cX0_twoTables 48 = .ok (.getfield 33, 3) := by decide +kernel
theorem dX0_twoTables_51 : decode cX0_twoTables 51 = .ok (.getfield 166, 3) := by decide +kernel
theorem dX0_twoTables_54 : decode cX0_twoTables 54 = .ok (.iload_n 2, 1) := by decide +kernel
theorem dX0_twoTables_55 : decode cX0_twoTables 55 = .ok (.iaload, 1) := by decide +kernel
theorem dX0_twoTables_56 : decode cX0_twoTables 56 = .ok (.aload_n 0, 1) := by decide +kernel
theorem dX0_twoTables_57 : decode cX0_twoTables 57 = .ok (.getfield 33, 3) := by decide +kernel
theorem dX0_twoTables_60 : decode cX0_twoTables 60 = .ok (.getfield 166, 3) := by decide +kernel
theorem dX0_twoTables_63 : decode cX0_twoTables 63 = .ok (.iload_n 2, 1) := by decide +kernel
theorem dX0_twoTables_64 : decode cX0_twoTables 64 = .ok (.iconst 1, 1) := by decide +kernel
theorem dX0_twoTables_65 : decode cX0_twoTables 65 = .ok (.iadd, 1) := by decide +kernel
theorem dX0_twoTables_66 : decode cX0_twoTables 66 = .ok (.iaload, 1) := by decide +kernel
theorem dX0_twoTables_67 : decode cX0_twoTables 67 = .ok (.iadd, 1) := by decide +kernel
theorem dX0_twoTables_68 : decode cX0_twoTables 68 = .ok (.iload_n 1, 1) := by decide +kernel
theorem dX0_twoTables_69 : decode cX0_twoTables 69 = .ok (.if_icmp .lt 5, 3) := by decide +kernel
theorem dX0_twoTables_72 : decode cX0_twoTables 72 = .ok (.iload_n 2, 1) := by decide +kernel
theorem dX0_twoTables_73 : decode cX0_twoTables 73 = .ok (.ireturn, 1) := by decide +kernel
theorem dX0_twoTables_74 : decode cX0_twoTables 74 = .ok (.iinc 2 1, 3) := by decide +kernel
theorem dX0_twoTables_77 : decode cX0_twoTables 77 = .ok (.goto (-75), 3) := by decide +kernel
theorem dX0_twoTables_80 : decode cX0_twoTables 80 = .ok (.bipush (-9), 2) := by decide +kernel
theorem dX0_twoTables_82 : decode cX0_twoTables 82 = .ok (.ireturn, 1) := by decide +kernel
theorem dX1_init_0 : decode cX1_init 0 = .ok (.aload_n 0, 1) := by decide +kernel
theorem dX1_init_1 : decode cX1_init 1 = .ok (.invokespecial 3, 3) := by decide +kernel
theorem dX1_init_4 : decode cX1_init 4 = .ok (.aload_n 0, 1) := by decide +kernel
theorem dX1_init_5 : decode cX1_init 5 = .ok (.bipush 8, 2) := by decide +kernel
theorem dX1_init_7 : decode cX1_init 7 = .ok (.anewarray 9, 3) := by decide +kernel
theorem dX1_init_10 : decode cX1_init 10 = .ok (.putfield 11, 3) := by decide +kernel
theorem dX1_init_13 : decode cX1_init 13 = .ok (.return_, 1) := by decide +kernel
theorem dX1_numbered_0 : decode cX1_numbered 0 = .ok (.iload_n 1, 1) := by decide +kernel
theorem dX1_numbered_1 : decode cX1_numbered 1 = .ok (.ifCond .lt 11, 3) := by decide +kernel
theorem dX1_numbered_4 : decode cX1_numbered 4 = .ok (.iload_n 1, 1) := by decide +kernel
theorem dX1_numbered_5 : decode cX1_numbered 5 = .ok (.aload_n 0, 1) := by decide +kernel
theorem dX1_numbered_6 : decode cX1_numbered 6 = .ok (.getfield 17, 3) := by decide +kernel
theorem dX1_numbered_9 : decode cX1_numbered 9 = .ok (.if_icmp .lt 7, 3) := by decide +kernel
theorem dX1_numbered_12 : decode cX1_numbered 12 = .ok (.aconst_null, 1) := by decide +kernel
theorem dX1_numbered_13 : decode cX1_numbered 13 = .ok (.goto 9, 3) := by decide +kernel
theorem dX1_numbered_16 : decode cX1_numbered 16 = .ok (.aload_n 0, 1) := by decide +kernel
theorem dX1_numbered_17 : decode cX1_numbered 17 = .ok (.getfield 11, 3) := by decide +kernel
theorem dX1_numbered_20 : decode cX1_numbered 20 = .ok (.iload_n 1, 1) := by decide +kernel
theorem dX1_numbered_21 : decode cX1_numbered 21 = .ok (.aaload, 1) := by decide +kernel
theorem dX1_numbered_22 : decode cX1_numbered 22 = .ok (.areturn, 1) := by decide +kernel
theorem dX2_init_0 : decode cX2_init 0 = .ok (.aload_n 0, 1) := by decide +kernel
theorem dX2_init_1 : decode cX2_init 1 = .ok (.invokespecial 1, 3) := by decide +kernel
theorem dX2_init_4 : decode cX2_init 4 = .ok (.aload_n 0, 1) := by decide +kernel
theorem dX2_init_5 : decode cX2_init 5 = .ok (.iload_n 1, 1) := by decide +kernel
theorem dX2_init_6 : decode cX2_init 6 = .ok (.putfield 7, 3) := by decide +kernel
theorem dX2_init_9 : decode cX2_init 9 = .ok (.aload_n 0, 1) := by decide +kernel
theorem dX2_init_10 : decode cX2_init 10 = .ok (.iload_n 2, 1) := by decide +kernel
theorem dX2_init_11 : decode cX2_init 11 = .ok (.putfield 13, 3) := by decide +kernel
theorem dX2_init_14 : decode cX2_init 14 = .ok (.aload_n 0, 1) := by decide +kernel
theorem dX2_init_15 : decode cX2_init 15 = .ok (.iload_n 3, 1) := by decide +kernel
theorem dX2_init_16 : decode cX2_init 16 = .ok (.putfield 16, 3) := by decide +kernel
theorem dX2_init_19 : decode cX2_init 19 = .ok (.aload_n 0, 1) := by decide +kernel
theorem dX2_init_20 : decode cX2_init 20 = .ok (.iload 4, 2) := by decide +kernel
theorem dX2_init_22 : decode cX2_init 22 = .ok (.putfield 19, 3) := by decide +kernel
theorem dX2_init_25 : decode cX2_init 25 = .ok (.aload_n 0, 1) := by decide +kernel
theorem dX2_init_26 : decode cX2_init 26 = .ok (.iload 5, 2) := by decide +kernel
theorem dX2_init_28 : decode cX2_init 28 = .ok (.putfield 22, 3) := by decide +kernel
theorem dX2_init_31 : decode cX2_init 31 = .ok (.aload_n 0, 1) := by decide +kernel
theorem dX2_init_32 : decode cX2_init 32 = .ok (.iload 6, 2) := by decide +kernel
theorem dX2_init_34 : decode cX2_init 34 = .ok (.putfield 25, 3) := by decide +kernel
theorem dX2_init_37 : decode cX2_init 37 = .ok (.return_, 1) := by decide +kernel
theorem dX2_kindNumber_0 : decode cX2_kindNumber 0 = .ok (.iconst 0, 1) := by decide +kernel
theorem dX2_kindNumber_1 : decode cX2_kindNumber 1 = .ok (.ireturn, 1) := by decide +kernel
theorem dX2_staysFor_0 : decode cX2_staysFor 0 = .ok (.aload_n 0, 1) := by decide +kernel
theorem dX2_staysFor_1 : decode cX2_staysFor 1 = .ok (.getfield 19, 3) := by decide +kernel
theorem dX2_staysFor_4 : decode cX2_staysFor 4 = .ok (.ireturn, 1) := by decide +kernel
theorem dX2_coinFor_0 : decode cX2_coinFor 0 = .ok (.aload_n 0, 1) := by decide +kernel
theorem dX2_coinFor_1 : decode cX2_coinFor 1 = .ok (.getfield 13, 3) := by decide +kernel
theorem dX2_coinFor_4 : decode cX2_coinFor 4 = .ok (.iconst 5, 1) := by decide +kernel
theorem dX2_coinFor_5 : decode cX2_coinFor 5 = .ok (.iload_n 1, 1) := by decide +kernel
theorem dX2_coinFor_6 : decode cX2_coinFor 6 = .ok (.bipush 10, 2) := by decide +kernel
theorem dX2_coinFor_8 : decode cX2_coinFor 8 = .ok (.idiv, 1) := by decide +kernel
theorem dX2_coinFor_9 : decode cX2_coinFor 9 = .ok (.iadd, 1) := by decide +kernel
theorem dX2_coinFor_10 : decode cX2_coinFor 10 = .ok (.imul, 1) := by decide +kernel
theorem dX2_coinFor_11 : decode cX2_coinFor 11 = .ok (.ireturn, 1) := by decide +kernel
theorem dX2_guestBody_0 : decode cX2_guestBody 0 = .ok (.aload_n 1, 1) := by decide +kernel
theorem dX2_guestBody_1 : decode cX2_guestBody 1 = .ok (.iconst 1, 1) := by decide +kernel
theorem dX2_guestBody_2 : decode cX2_guestBody 2 = .ok (.invokevirtual 28, 3) := by decide +kernel
theorem dX2_guestBody_5 : decode cX2_guestBody 5 = .ok (.aload_n 0, 1) := by decide +kernel
theorem dX2_guestBody_6 : decode cX2_guestBody 6 = .ok (.getfield 13, 3) := by decide +kernel
theorem dX2_guestBody_9 : decode cX2_guestBody 9 = .ok (.ireturn, 1) := by decide +kernel
theorem dX2_telling_0 : decode cX2_telling 0 = .ok (.aload_n 0, 1) := by decide +kernel
theorem dX2_telling_1 : decode cX2_telling 1 = .ok (.aload_n 1, 1) := by decide +kernel
theorem dX2_telling_2 : decode cX2_telling 2 = .ok (.invokevirtual 34, 3) := by decide +kernel
theorem dX2_telling_5 : decode cX2_telling 5 = .ok (.ireturn, 1) := by decide +kernel
theorem dX2_served_0 : decode cX2_served 0 = .ok (.aload_n 1, 1) := by decide +kernel
theorem dX2_served_1 : decode cX2_served 1 = .ok (.iconst 4, 1) := by decide +kernel
theorem dX2_served_2 : decode cX2_served 2 = .ok (.invokevirtual 28, 3) := by decide +kernel
theorem dX2_served_5 : decode cX2_served 5 = .ok (.aload_n 0, 1) := by decide +kernel
theorem dX2_served_6 : decode cX2_served 6 = .ok (.getfield 7, 3) := by decide +kernel
theorem dX2_served_9 : decode cX2_served 9 = .ok (.ireturn, 1) := by decide +kernel
theorem dX3_init_0 : decode cX3_init 0 = .ok (.aload_n 0, 1) := by decide +kernel
theorem dX3_init_1 : decode cX3_init 1 = .ok (.invokespecial 3, 3) := by decide +kernel
theorem dX3_init_4 : decode cX3_init 4 = .ok (.aload_n 0, 1) := by decide +kernel
theorem dX3_init_5 : decode cX3_init 5 = .ok (.bipush 6, 2) := by decide +kernel
theorem dX3_init_7 : decode cX3_init 7 = .ok (.newarray .int, 2) := by decide +kernel
theorem dX3_init_9 : decode cX3_init 9 = .ok (.putfield 9, 3) := by decide +kernel
theorem dX3_init_12 : decode cX3_init 12 = .ok (.aload_n 0, 1) := by decide +kernel
theorem dX3_init_13 : decode cX3_init 13 = .ok (.bipush 6, 2) := by decide +kernel
theorem dX3_init_15 : decode cX3_init 15 = .ok (.newarray .int, 2) := by decide +kernel
theorem dX3_init_17 : decode cX3_init 17 = .ok (.putfield 15, 3) := by decide +kernel
theorem dX3_init_20 : decode cX3_init 20 = .ok (.aload_n 0, 1) := by decide +kernel
theorem dX3_init_21 : decode cX3_init 21 = .ok (.bipush (-9), 2) := by decide +kernel
theorem dX3_init_23 : decode cX3_init 23 = .ok (.putfield 18, 3) := by decide +kernel
theorem dX3_init_26 : decode cX3_init 26 = .ok (.return_, 1) := by decide +kernel
theorem dX3_takeText_0 : decode cX3_takeText 0 = .ok (.aload_n 0, 1) := by decide +kernel
theorem dX3_takeText_1 : decode cX3_takeText 1 = .ok (.iload_n 3, 1) := by decide +kernel
theorem dX3_takeText_2 : decode cX3_takeText 2 = .ok (.iconst 1, 1) := by decide +kernel
theorem dX3_takeText_3 : decode cX3_takeText 3 = .ok (.iadd, 1) := by decide +kernel
theorem dX3_takeText_4 : decode cX3_takeText 4 = .ok (.iconst 3, 1) := by decide +kernel
theorem dX3_takeText_5 : decode cX3_takeText 5 = .ok (.idiv, 1) := by decide +kernel
theorem dX3_takeText_6 : decode cX3_takeText 6 = .ok (.bipush 6, 2) := by decide +kernel
theorem dX3_takeText_8 : decode cX3_takeText 8 = .ok (.invokestatic 22, 3) := by decide +kernel
theorem dX3_takeText_11 : decode cX3_takeText 11 = .ok (.putfield 28, 3) := by decide +kernel
theorem dX3_takeText_14 : decode cX3_takeText 14 = .ok (.iconst 0, 1) := by decide +kernel
theorem dX3_takeText_15 : decode cX3_takeText 15 = .ok (.istore 4, 2) := by decide +kernel
theorem dX3_takeText_17 : decode cX3_takeText 17 = .ok (.iload 4, 2) := by decide +kernel
theorem dX3_takeText_19 : decode cX3_takeText 19 = .ok (.aload_n 0, 1) := by decide +kernel
theorem dX3_takeText_20 : decode cX3_takeText 20 = .ok (.getfield 28, 3) := by decide +kernel
theorem dX3_takeText_23 : decode cX3_takeText 23 = .ok (.if_icmp .ge 53, 3) := by decide +kernel
theorem dX3_takeText_26 : decode cX3_takeText 26 = .ok (.aload_n 0, 1) := by decide +kernel
theorem dX3_takeText_27 : decode cX3_takeText 27 = .ok (.getfield 9, 3) := by decide +kernel
theorem dX3_takeText_30 : decode cX3_takeText 30 = .ok (.iload 4, 2) := by decide +kernel
theorem dX3_takeText_32 : decode cX3_takeText 32 = .ok (.aload_n 1, 1) := by decide +kernel
theorem dX3_takeText_33 : decode cX3_takeText 33 = .ok (.getfield 31, 3) := by decide +kernel
theorem dX3_takeText_36 : decode cX3_takeText 36 = .ok (.iload_n 2, 1) := by decide +kernel
theorem dX3_takeText_37 : decode cX3_takeText 37 = .ok (.iconst 3, 1) := by decide +kernel
theorem dX3_takeText_38 : decode cX3_takeText 38 = .ok (.iload 4, 2) := by decide +kernel
theorem dX3_takeText_40 : decode cX3_takeText 40 = .ok (.imul, 1) := by decide +kernel
theorem dX3_takeText_41 : decode cX3_takeText 41 = .ok (.iadd, 1) := by decide +kernel
theorem dX3_takeText_42 : decode cX3_takeText 42 = .ok (.iaload, 1) := by decide +kernel
theorem dX3_takeText_43 : decode cX3_takeText 43 = .ok (.invokestatic 36, 3) := by decide +kernel
theorem dX3_takeText_46 : decode cX3_takeText 46 = .ok (.iastore, 1) := by decide +kernel
theorem dX3_takeText_47 : decode cX3_takeText 47 = .ok (.aload_n 0, 1) := by decide +kernel
theorem dX3_takeText_48 : decode cX3_takeText 48 = .ok (.getfield 15, 3) := by decide +kernel
theorem dX3_takeText_51 : decode cX3_takeText 51 = .ok (.iload 4, 2) := by decide +kernel
theorem dX3_takeText_53 : decode cX3_takeText 53 = .ok (.aload_n 1, 1) := by decide +kernel
theorem dX3_takeText_54 : decode cX3_takeText 54 = .ok (.getfield 31, 3) := by decide +kernel
theorem dX3_takeText_57 : decode cX3_takeText 57 = .ok (.iload_n 2, 1) := by decide +kernel
theorem dX3_takeText_58 : decode cX3_takeText 58 = .ok (.iconst 3, 1) := by decide +kernel
theorem dX3_takeText_59 : decode cX3_takeText 59 = .ok (.iload 4, 2) := by decide +kernel
theorem dX3_takeText_61 : decode cX3_takeText 61 = .ok (.imul, 1) := by decide +kernel
theorem dX3_takeText_62 : decode cX3_takeText 62 = .ok (.iadd, 1) := by decide +kernel
theorem dX3_takeText_63 : decode cX3_takeText 63 = .ok (.iconst 1, 1) := by decide +kernel
theorem dX3_takeText_64 : decode cX3_takeText 64 = .ok (.iadd, 1) := by decide +kernel
theorem dX3_takeText_65 : decode cX3_takeText 65 = .ok (.iaload, 1) := by decide +kernel
theorem dX3_takeText_66 : decode cX3_takeText 66 = .ok (.bipush 48, 2) := by decide +kernel
theorem dX3_takeText_68 : decode cX3_takeText 68 = .ok (.isub, 1) := by decide +kernel
theorem dX3_takeText_69 : decode cX3_takeText 69 = .ok (.iastore, 1) := by decide +kernel
theorem dX3_takeText_70 : decode cX3_takeText 70 = .ok (.iinc 4 1, 3) := by decide +kernel
theorem dX3_takeText_73 : decode cX3_takeText 73 = .ok (.goto (-56), 3) := by decide +kernel
theorem dX3_takeText_76 : decode cX3_takeText 76 = .ok (.aload_n 0, 1) := by decide +kernel
theorem dX3_takeText_77 : decode cX3_takeText 77 = .ok (.iconst 0, 1) := by decide +kernel
theorem dX3_takeText_78 : decode cX3_takeText 78 = .ok (.putfield 40, 3) := by decide +kernel
theorem dX3_takeText_81 : decode cX3_takeText 81 = .ok (.aload_n 0, 1) := by decide +kernel
theorem dX3_takeText_82 : decode cX3_takeText 82 = .ok (.iconst 0, 1) := by decide +kernel
theorem dX3_takeText_83 : decode cX3_takeText 83 = .ok (.putfield 43, 3) := by decide +kernel
theorem dX3_takeText_86 : decode cX3_takeText 86 = .ok (.aload_n 0, 1) := by decide +kernel
theorem dX3_takeText_87 : decode cX3_takeText 87 = .ok (.iconst 0, 1) := by decide +kernel
theorem dX3_takeText_88 : decode cX3_takeText 88 = .ok (.putfield 46, 3) := by decide +kernel
theorem dX3_takeText_91 : decode cX3_takeText 91 = .ok (.aload_n 0, 1) := by decide +kernel
theorem dX3_takeText_92 : decode cX3_takeText 92 = .ok (.bipush (-9), 2) := by decide +kernel
theorem dX3_takeText_94 : decode cX3_takeText 94 = .ok (.putfield 18, 3) := by decide +kernel
theorem dX3_takeText_97 : decode cX3_takeText 97 = .ok (.return_, 1) := by decide +kernel
theorem dX3_copyOf_0 : decode cX3_copyOf 0 = .ok (.aload_n 0, 1) := by decide +kernel
theorem dX3_copyOf_1 : decode cX3_copyOf 1 = .ok (.aload_n 1, 1) := by decide +kernel
theorem dX3_copyOf_2 : decode cX3_copyOf 2 = .ok (.getfield 28, 3) := by decide +kernel
theorem dX3_copyOf_5 : decode cX3_copyOf 5 = .ok (.putfield 28, 3) := by decide +kernel
theorem dX3_copyOf_8 : decode cX3_copyOf 8 = .ok (.iconst 0, 1) := by decide +kernel
theorem dX3_copyOf_9 : decode cX3_copyOf 9 = .ok (.istore_n 2, 1) := by decide +kernel
theorem dX3_copyOf_10 : decode cX3_copyOf 10 = .ok (.iload_n 2, 1) := by decide +kernel
theorem dX3_copyOf_11 : decode cX3_copyOf 11 = .ok (.bipush 6, 2) := by decide +kernel
theorem dX3_copyOf_13 : decode cX3_copyOf 13 = .ok (.if_icmp .ge 33, 3) := by decide +kernel
theorem dX3_copyOf_16 : decode cX3_copyOf 16 = .ok (.aload_n 0, 1) := by decide +kernel
theorem dX3_copyOf_17 : decode cX3_copyOf 17 = .ok (.getfield 9, 3) := by decide +kernel
theorem dX3_copyOf_20 : decode cX3_copyOf 20 = .ok (.iload_n 2, 1) := by decide +kernel
theorem dX3_copyOf_21 : decode cX3_copyOf 21 = .ok (.aload_n 1, 1) := by decide +kernel
theorem dX3_copyOf_22 : decode cX3_copyOf 22 = .ok (.getfield 9, 3) := by decide +kernel
theorem dX3_copyOf_25 : decode cX3_copyOf 25 = .ok (.iload_n 2, 1) := by decide +kernel
theorem dX3_copyOf_26 : decode cX3_copyOf 26 = .ok (.iaload, 1) := by decide +kernel
theorem dX3_copyOf_27 : decode cX3_copyOf 27 = .ok (.iastore, 1) := by decide +kernel
theorem dX3_copyOf_28 : decode cX3_copyOf 28 = .ok (.aload_n 0, 1) := by decide +kernel
theorem dX3_copyOf_29 : decode cX3_copyOf 29 = .ok (.getfield 15, 3) := by decide +kernel
theorem dX3_copyOf_32 : decode cX3_copyOf 32 = .ok (.iload_n 2, 1) := by decide +kernel
theorem dX3_copyOf_33 : decode cX3_copyOf 33 = .ok (.aload_n 1, 1) := by decide +kernel
theorem dX3_copyOf_34 : decode cX3_copyOf 34 = .ok (.getfield 15, 3) := by decide +kernel
theorem dX3_copyOf_37 : decode cX3_copyOf 37 = .ok (.iload_n 2, 1) := by decide +kernel
theorem dX3_copyOf_38 : decode cX3_copyOf 38 = .ok (.iaload, 1) := by decide +kernel
theorem dX3_copyOf_39 : decode cX3_copyOf 39 = .ok (.iastore, 1) := by decide +kernel
theorem dX3_copyOf_40 : decode cX3_copyOf 40 = .ok (.iinc 2 1, 3) := by decide +kernel
theorem dX3_copyOf_43 : decode cX3_copyOf 43 = .ok (.goto (-33), 3) := by decide +kernel
theorem dX3_copyOf_46 : decode cX3_copyOf 46 = .ok (.aload_n 0, 1) := by decide +kernel
theorem dX3_copyOf_47 : decode cX3_copyOf 47 = .ok (.aload_n 1, 1) := by decide +kernel
theorem dX3_copyOf_48 : decode cX3_copyOf 48 = .ok (.getfield 40, 3) := by decide +kernel
theorem dX3_copyOf_51 : decode cX3_copyOf 51 = .ok (.putfield 40, 3) := by decide +kernel
theorem dX3_copyOf_54 : decode cX3_copyOf 54 = .ok (.aload_n 0, 1) := by decide +kernel
theorem dX3_copyOf_55 : decode cX3_copyOf 55 = .ok (.aload_n 1, 1) := by decide +kernel
theorem dX3_copyOf_56 : decode cX3_copyOf 56 = .ok (.getfield 43, 3) := by decide +kernel
theorem dX3_copyOf_59 : decode cX3_copyOf 59 = .ok (.putfield 43, 3) := by decide +kernel
theorem dX3_copyOf_62 : decode cX3_copyOf 62 = .ok (.aload_n 0, 1) := by decide +kernel
theorem dX3_copyOf_63 : decode cX3_copyOf 63 = .ok (.aload_n 1, 1) := by decide +kernel
theorem dX3_copyOf_64 : decode cX3_copyOf 64 = .ok (.getfield 46, 3) := by decide +kernel
theorem dX3_copyOf_67 : decode cX3_copyOf 67 = .ok (.putfield 46, 3) := by decide +kernel
theorem dX3_copyOf_70 : decode cX3_copyOf 70 = .ok (.aload_n 0, 1) := by decide +kernel
theorem dX3_copyOf_71 : decode cX3_copyOf 71 = .ok (.aload_n 1, 1) := by decide +kernel
theorem dX3_copyOf_72 : decode cX3_copyOf 72 = .ok (.getfield 18, 3) := by decide +kernel
theorem dX3_copyOf_75 : decode cX3_copyOf 75 = .ok (.putfield 18, 3) := by decide +kernel
theorem dX3_copyOf_78 : decode cX3_copyOf 78 = .ok (.return_, 1) := by decide +kernel
theorem dX3_mixTables_0 : decode cX3_mixTables 0 = .ok (.aload_n 0, 1) := by decide +kernel
theorem dX3_mixTables_1 : decode cX3_mixTables 1 = .ok (.iload_n 1, 1) := by decide +kernel
theorem dX3_mixTables_2 : decode cX3_mixTables 2 = .ok (.iload_n 2, 1) := by decide +kernel
theorem dX3_mixTables_3 : decode cX3_mixTables 3 = .ok (.iadd, 1) := by decide +kernel
theorem dX3_mixTables_4 : decode cX3_mixTables 4 = .ok (.iload_n 3, 1) := by decide +kernel
theorem dX3_mixTables_5 : decode cX3_mixTables 5 = .ok (.iadd, 1) := by decide +kernel
theorem dX3_mixTables_6 : decode cX3_mixTables 6 = .ok (.bipush 6, 2) := by decide +kernel
theorem dX3_mixTables_8 : decode cX3_mixTables 8 = .ok (.invokestatic 22, 3) := by decide +kernel
theorem dX3_mixTables_11 : decode cX3_mixTables 11 = .ok (.putfield 28, 3) := by decide +kernel
theorem dX3_mixTables_14 : decode cX3_mixTables 14 = .ok (.iconst 0, 1) := by decide +kernel
theorem dX3_mixTables_15 : decode cX3_mixTables 15 = .ok (.istore 4, 2) := by decide +kernel
theorem dX3_mixTables_17 : decode cX3_mixTables 17 = .ok (.iload 4, 2) := by decide +kernel
theorem dX3_mixTables_19 : decode cX3_mixTables 19 = .ok (.aload_n 0, 1) := by decide +kernel
theorem dX3_mixTables_20 : decode cX3_mixTables 20 = .ok (.getfield 28, 3) := by decide +kernel
theorem dX3_mixTables_23 : decode cX3_mixTables 23 = .ok (.if_icmp .ge 48, 3) := by decide +kernel
theorem dX3_mixTables_26 : decode cX3_mixTables 26 = .ok (.aload_n 0, 1) := by decide +kernel
theorem dX3_mixTables_27 : decode cX3_mixTables 27 = .ok (.getfield 9, 3) := by decide +kernel
theorem dX3_mixTables_30 : decode cX3_mixTables 30 = .ok (.iload 4, 2) := by decide +kernel
theorem dX3_mixTables_32 : decode cX3_mixTables 32 = .ok (.iconst 2, 1) := by decide +kernel
theorem dX3_mixTables_33 : decode cX3_mixTables 33 = .ok (.iastore, 1) := by decide +kernel
theorem dX3_mixTables_34 : decode cX3_mixTables 34 = .ok (.aload_n 0, 1) := by decide +kernel
theorem dX3_mixTables_35 : decode cX3_mixTables 35 = .ok (.getfield 15, 3) := by decide +kernel
theorem dX3_mixTables_38 : decode cX3_mixTables 38 = .ok (.iload 4, 2) := by decide +kernel
theorem dX3_mixTables_40 : decode cX3_mixTables 40 = .ok (.iload 4, 2) := by decide +kernel
theorem dX3_mixTables_42 : decode cX3_mixTables 42 = .ok (.iload_n 1, 1) := by decide +kernel
theorem dX3_mixTables_43 : decode cX3_mixTables 43 = .ok (.if_icmp .ge 7, 3) := by decide +kernel
theorem dX3_mixTables_46 : decode cX3_mixTables 46 = .ok (.iconst 2, 1) := by decide +kernel
theorem dX3_mixTables_47 : decode cX3_mixTables 47 = .ok (.goto 17, 3) := by decide +kernel
theorem dX3_mixTables_50 : decode cX3_mixTables 50 = .ok (.iload 4, 2) := by decide +kernel
theorem dX3_mixTables_52 : decode cX3_mixTables 52 = .ok (.iload_n 1, 1) := by decide +kernel
theorem dX3_mixTables_53 : decode cX3_mixTables 53 = .ok (.iload_n 2, 1) := by decide +kernel
theorem dX3_mixTables_54 : decode cX3_mixTables 54 = .ok (.iadd, 1) := by decide +kernel
theorem dX3_mixTables_55 : decode cX3_mixTables 55 = .ok (.if_icmp .ge 7, 3) := by decide +kernel
theorem dX3_mixTables_58 : decode cX3_mixTables 58 = .ok (.iconst 4, 1) := by decide +kernel
theorem dX3_mixTables_59 : decode cX3_mixTables 59 = .ok (.goto 5, 3) := by decide +kernel
theorem dX3_mixTables_62 : decode cX3_mixTables 62 = .ok (.bipush 6, 2) := by decide +kernel
theorem dX3_mixTables_64 : decode cX3_mixTables 64 = .ok (.iastore, 1) := by decide +kernel
theorem dX3_mixTables_65 : decode cX3_mixTables 65 = .ok (.iinc 4 1, 3) := by decide +kernel
theorem dX3_mixTables_68 : decode cX3_mixTables 68 = .ok (.goto (-51), 3) := by decide +kernel
theorem dX3_mixTables_71 : decode cX3_mixTables 71 = .ok (.return_, 1) := by decide +kernel
theorem dX3_seatsInAll_0 : decode cX3_seatsInAll 0 = .ok (.iconst 0, 1) := by decide +kernel
theorem dX3_seatsInAll_1 : decode cX3_seatsInAll 1 = .ok (.istore_n 1, 1) := by decide +kernel
theorem dX3_seatsInAll_2 : decode cX3_seatsInAll 2 = .ok (.iconst 0, 1) := by decide +kernel
theorem dX3_seatsInAll_3 : decode cX3_seatsInAll 3 = .ok (.istore_n 2, 1) := by decide +kernel
theorem dX3_seatsInAll_4 : decode cX3_seatsInAll 4 = .ok (.iload_n 2, 1) := by decide +kernel
theorem dX3_seatsInAll_5 : decode cX3_seatsInAll 5 = .ok (.aload_n 0, 1) := by decide +kernel
theorem dX3_seatsInAll_6 : decode cX3_seatsInAll 6 = .ok (.getfield 28, 3) := by decide +kernel
theorem dX3_seatsInAll_9 : decode cX3_seatsInAll 9 = .ok (.if_icmp .ge 18, 3) := by decide +kernel
theorem dX3_seatsInAll_12 : decode cX3_seatsInAll 12 = .ok (.iload_n 1, 1) := by decide +kernel
theorem dX3_seatsInAll_13 : decode cX3_seatsInAll 13 = .ok (.aload_n 0, 1) := by decide +kernel
theorem dX3_seatsInAll_14 : decode cX3_seatsInAll 14 = .ok (.getfield 15, 3) := by decide +kernel
theorem dX3_seatsInAll_17 : decode cX3_seatsInAll 17 = .ok (.iload_n 2, 1) := by decide +kernel
theorem dX3_seatsInAll_18 : decode cX3_seatsInAll 18 = .ok (.iaload, 1) := by decide +kernel
theorem dX3_seatsInAll_19 : decode cX3_seatsInAll 19 = .ok (.iadd, 1) := by decide +kernel
theorem dX3_seatsInAll_20 : decode cX3_seatsInAll 20 = .ok (.istore_n 1, 1) := by decide +kernel
theorem dX3_seatsInAll_21 : decode cX3_seatsInAll 21 = .ok (.iinc 2 1, 3) := by decide +kernel
theorem dX3_seatsInAll_24 : decode cX3_seatsInAll 24 = .ok (.goto (-20), 3) := by decide +kernel
theorem dX3_seatsInAll_27 : decode cX3_seatsInAll 27 = .ok (.iload_n 1, 1) := by decide +kernel
theorem dX3_seatsInAll_28 : decode cX3_seatsInAll 28 = .ok (.ireturn, 1) := by decide +kernel
theorem dX4_init_0 : decode cX4_init 0 = .ok (.aload_n 0, 1) := by decide +kernel
theorem dX4_init_1 : decode cX4_init 1 = .ok (.iload_n 1, 1) := by decide +kernel
theorem dX4_init_2 : decode cX4_init 2 = .ok (.iload_n 2, 1) := by decide +kernel
theorem dX4_init_3 : decode cX4_init 3 = .ok (.iload_n 3, 1) := by decide +kernel
theorem dX4_init_4 : decode cX4_init 4 = .ok (.iload 4, 2) := by decide +kernel
theorem dX4_init_6 : decode cX4_init 6 = .ok (.iload 5, 2) := by decide +kernel
theorem dX4_init_8 : decode cX4_init 8 = .ok (.iload 6, 2) := by decide +kernel
theorem dX4_init_10 : decode cX4_init 10 = .ok (.invokespecial 1, 3) := by decide +kernel
theorem dX4_init_13 : decode cX4_init 13 = .ok (.return_, 1) := by decide +kernel
theorem dX4_kindNumber_0 : decode cX4_kindNumber 0 = .ok (.iconst 2, 1) := by decide +kernel
theorem dX4_kindNumber_1 : decode cX4_kindNumber 1 = .ok (.ireturn, 1) := by decide +kernel
theorem dX4_staysFor_0 : decode cX4_staysFor 0 = .ok (.aload_n 0, 1) := by decide +kernel
theorem dX4_staysFor_1 : decode cX4_staysFor 1 = .ok (.iload_n 1, 1) := by decide +kernel
theorem dX4_staysFor_2 : decode cX4_staysFor 2 = .ok (.invokespecial 7, 3) := by decide +kernel
theorem dX4_staysFor_5 : decode cX4_staysFor 5 = .ok (.istore_n 2, 1) := by decide +kernel
theorem dX4_staysFor_6 : decode cX4_staysFor 6 = .ok (.iload_n 1, 1) := by decide +kernel
theorem dX4_staysFor_7 : decode cX4_staysFor 7 = .ok (.ifCond .eq 12, 3) := by decide +kernel
theorem dX4_staysFor_10 : decode cX4_staysFor 10 = .ok (.iload_n 2, 1) := by decide +kernel
theorem dX4_staysFor_11 : decode cX4_staysFor 11 = .ok (.iload_n 2, 1) := by decide +kernel
theorem dX4_staysFor_12 : decode cX4_staysFor 12 = .ok (.bipush 9, 2) := by decide +kernel
theorem dX4_staysFor_14 : decode cX4_staysFor 14 = .ok (.idiv, 1) := by decide +kernel
theorem dX4_staysFor_15 : decode cX4_staysFor 15 = .ok (.iadd, 1) := by decide +kernel
theorem dX4_staysFor_16 : decode cX4_staysFor 16 = .ok (.goto 4, 3) := by decide +kernel
theorem dX4_staysFor_19 : decode cX4_staysFor 19 = .ok (.iload_n 2, 1) := by decide +kernel
theorem dX4_staysFor_20 : decode cX4_staysFor 20 = .ok (.ireturn, 1) := by decide +kernel
theorem dX4_telling_0 : decode cX4_telling 0 = .ok (.aload_n 1, 1) := by decide +kernel
theorem dX4_telling_1 : decode cX4_telling 1 = .ok (.iconst 3, 1) := by decide +kernel
theorem dX4_telling_2 : decode cX4_telling 2 = .ok (.invokevirtual 11, 3) := by decide +kernel
theorem dX4_telling_5 : decode cX4_telling 5 = .ok (.aload_n 0, 1) := by decide +kernel
theorem dX4_telling_6 : decode cX4_telling 6 = .ok (.aload_n 1, 1) := by decide +kernel
theorem dX4_telling_7 : decode cX4_telling 7 = .ok (.invokespecial 17, 3) := by decide +kernel
theorem dX4_telling_10 : decode cX4_telling 10 = .ok (.istore_n 2, 1) := by decide +kernel
theorem dX4_telling_11 : decode cX4_telling 11 = .ok (.iload_n 2, 1) := by decide +kernel
theorem dX4_telling_12 : decode cX4_telling 12 = .ok (.aload_n 0, 1) := by decide +kernel
theorem dX4_telling_13 : decode cX4_telling 13 = .ok (.aload_n 1, 1) := by decide +kernel
theorem dX4_telling_14 : decode cX4_telling 14 = .ok (.invokevirtual 21, 3) := by decide +kernel
theorem dX4_telling_17 : decode cX4_telling 17 = .ok (.iadd, 1) := by decide +kernel
theorem dX4_telling_18 : decode cX4_telling 18 = .ok (.ireturn, 1) := by decide +kernel
theorem dX4_served_0 : decode cX4_served 0 = .ok (.aload_n 1, 1) := by decide +kernel
theorem dX4_served_1 : decode cX4_served 1 = .ok (.iconst 5, 1) := by decide +kernel
theorem dX4_served_2 : decode cX4_served 2 = .ok (.invokevirtual 11, 3) := by decide +kernel
theorem dX4_served_5 : decode cX4_served 5 = .ok (.bipush 50, 2) := by decide +kernel
theorem dX4_served_7 : decode cX4_served 7 = .ok (.ireturn, 1) := by decide +kernel
theorem dX5_init_0 : decode cX5_init 0 = .ok (.aload_n 0, 1) := by decide +kernel
theorem dX5_init_1 : decode cX5_init 1 = .ok (.invokespecial 3, 3) := by decide +kernel
theorem dX5_init_4 : decode cX5_init 4 = .ok (.aload_n 0, 1) := by decide +kernel
theorem dX5_init_5 : decode cX5_init 5 = .ok (.bipush 6, 2) := by decide +kernel
theorem dX5_init_7 : decode cX5_init 7 = .ok (.newarray .int, 2) := by decide +kernel
theorem dX5_init_9 : decode cX5_init 9 = .ok (.putfield 9, 3) := by decide +kernel
theorem dX5_init_12 : decode cX5_init 12 = .ok (.aload_n 0, 1) := by decide +kernel
theorem dX5_init_13 : decode cX5_init 13 = .ok (.bipush 6, 2) := by decide +kernel
theorem dX5_init_15 : decode cX5_init 15 = .ok (.newarray .int, 2) := by decide +kernel
theorem dX5_init_17 : decode cX5_init 17 = .ok (.putfield 15, 3) := by decide +kernel
theorem dX5_init_20 : decode cX5_init 20 = .ok (.aload_n 0, 1) := by decide +kernel
theorem dX5_init_21 : decode cX5_init 21 = .ok (.bipush 6, 2) := by decide +kernel
theorem dX5_init_23 : decode cX5_init 23 = .ok (.newarray .int, 2) := by decide +kernel
theorem dX5_init_25 : decode cX5_init 25 = .ok (.putfield 18, 3) := by decide +kernel
theorem dX5_init_28 : decode cX5_init 28 = .ok (.aload_n 0, 1) := by decide +kernel
theorem dX5_init_29 : decode cX5_init 29 = .ok (.bipush 6, 2) := by decide +kernel
theorem dX5_init_31 : decode cX5_init 31 = .ok (.newarray .int, 2) := by decide +kernel
theorem dX5_init_33 : decode cX5_init 33 = .ok (.putfield 21, 3) := by decide +kernel
theorem dX5_init_36 : decode cX5_init 36 = .ok (.aload_n 0, 1) := by decide +kernel
theorem dX5_init_37 : decode cX5_init 37 = .ok (.bipush 6, 2) := by decide +kernel
theorem dX5_init_39 : decode cX5_init 39 = .ok (.newarray .int, 2) := by decide +kernel
theorem dX5_init_41 : decode cX5_init 41 = .ok (.putfield 24, 3) := by decide +kernel
theorem dX5_init_44 : decode cX5_init 44 = .ok (.aload_n 0, 1) := by decide +kernel
theorem dX5_init_45 : decode cX5_init 45 = .ok (.bipush 7, 2) := by decide +kernel
theorem dX5_init_47 : decode cX5_init 47 = .ok (.newarray .int, 2) := by decide +kernel
theorem dX5_init_49 : decode cX5_init 49 = .ok (.putfield 27, 3) := by decide +kernel
theorem dX5_init_52 : decode cX5_init 52 = .ok (.aload_n 0, 1) := by decide +kernel
theorem dX5_init_53 : decode cX5_init 53 = .ok (.bipush 6, 2) := by decide +kernel
theorem dX5_init_55 : decode cX5_init 55 = .ok (.newarray .int, 2) := by decide +kernel
theorem dX5_init_57 : decode cX5_init 57 = .ok (.putfield 30, 3) := by decide +kernel
theorem dX5_init_60 : decode cX5_init 60 = .ok (.aload_n 0, 1) := by decide +kernel
theorem dX5_init_61 : decode cX5_init 61 = .ok (.aload_n 1, 1) := by decide +kernel
theorem dX5_init_62 : decode cX5_init 62 = .ok (.putfield 33, 3) := by decide +kernel
theorem dX5_init_65 : decode cX5_init 65 = .ok (.aload_n 0, 1) := by decide +kernel
theorem dX5_init_66 : decode cX5_init 66 = .ok (.aload_n 2, 1) := by decide +kernel
theorem dX5_init_67 : decode cX5_init 67 = .ok (.putfield 37, 3) := by decide +kernel
theorem dX5_init_70 : decode cX5_init 70 = .ok (.return_, 1) := by decide +kernel
theorem dX5_find_0 : decode cX5_find 0 = .ok (.aload_n 0, 1) := by decide +kernel
theorem dX5_find_1 : decode cX5_find 1 = .ok (.aload_n 0, 1) := by decide +kernel
theorem dX5_find_2 : decode cX5_find 2 = .ok (.getfield 37, 3) := by decide +kernel
theorem dX5_find_5 : decode cX5_find 5 = .ok (.getfield 41, 3) := by decide +kernel
theorem dX5_find_8 : decode cX5_find 8 = .ok (.bipush 6, 2) := by decide +kernel
theorem dX5_find_10 : decode cX5_find 10 = .ok (.invokestatic 47, 3) := by decide +kernel
theorem dX5_find_13 : decode cX5_find 13 = .ok (.putfield 53, 3) := by decide +kernel
theorem dX5_find_16 : decode cX5_find 16 = .ok (.iconst 0, 1) := by decide +kernel
theorem dX5_find_17 : decode cX5_find 17 = .ok (.istore_n 1, 1) := by decide +kernel
theorem dX5_find_18 : decode cX5_find 18 = .ok (.iload_n 1, 1) := by decide +kernel
theorem dX5_find_19 : decode cX5_find 19 = .ok (.aload_n 0, 1) := by decide +kernel
theorem dX5_find_20 : decode cX5_find 20 = .ok (.getfield 53, 3) := by decide +kernel
theorem dX5_find_23 : decode cX5_find 23 = .ok (.if_icmp .ge 55, 3) := by decide +kernel
theorem dX5_find_26 : decode cX5_find 26 = .ok (.aload_n 0, 1) := by decide +kernel
theorem dX5_find_27 : decode cX5_find 27 = .ok (.getfield 37, 3) := by decide +kernel
theorem dX5_find_30 : decode cX5_find 30 = .ok (.getfield 56, 3) := by decide +kernel
theorem dX5_find_33 : decode cX5_find 33 = .ok (.iload_n 1, 1) := by decide +kernel
theorem dX5_find_34 : decode cX5_find 34 = .ok (.aaload, 1) := by decide +kernel
theorem dX5_find_35 : decode cX5_find 35 = .ok (.astore_n 2, 1) := by decide +kernel
theorem dX5_find_36 : decode cX5_find 36 = .ok (.aload_n 0, 1) := by decide +kernel
theorem dX5_find_37 : decode cX5_find 37 = .ok (.getfield 18, 3) := by decide +kernel
theorem dX5_find_40 : decode cX5_find 40 = .ok (.iload_n 1, 1) := by decide +kernel
theorem dX5_find_41 : decode cX5_find 41 = .ok (.aload_n 2, 1) := by decide +kernel
theorem dX5_find_42 : decode cX5_find 42 = .ok (.getfield 60, 3) := by decide +kernel
theorem dX5_find_45 : decode cX5_find 45 = .ok (.iastore, 1) := by decide +kernel
theorem dX5_find_46 : decode cX5_find 46 = .ok (.aload_n 0, 1) := by decide +kernel
theorem dX5_find_47 : decode cX5_find 47 = .ok (.getfield 21, 3) := by decide +kernel
theorem dX5_find_50 : decode cX5_find 50 = .ok (.iload_n 1, 1) := by decide +kernel
theorem dX5_find_51 : decode cX5_find 51 = .ok (.aload_n 2, 1) := by decide +kernel
theorem dX5_find_52 : decode cX5_find 52 = .ok (.aload_n 2, 1) := by decide +kernel
theorem dX5_find_53 : decode cX5_find 53 = .ok (.iconst 0, 1) := by decide +kernel
theorem dX5_find_54 : decode cX5_find 54 = .ok (.invokevirtual 64, 3) := by decide +kernel
theorem dX5_find_57 : decode cX5_find 57 = .ok (.invokevirtual 68, 3) := by decide +kernel
theorem dX5_find_60 : decode cX5_find 60 = .ok (.iastore, 1) := by decide +kernel
theorem dX5_find_61 : decode cX5_find 61 = .ok (.aload_n 0, 1) := by decide +kernel
theorem dX5_find_62 : decode cX5_find 62 = .ok (.getfield 24, 3) := by decide +kernel
theorem dX5_find_65 : decode cX5_find 65 = .ok (.iload_n 1, 1) := by decide +kernel
theorem dX5_find_66 : decode cX5_find 66 = .ok (.aload_n 0, 1) := by decide +kernel
theorem dX5_find_67 : decode cX5_find 67 = .ok (.iload_n 1, 1) := by decide +kernel
theorem dX5_find_68 : decode cX5_find 68 = .ok (.invokevirtual 72, 3) := by decide +kernel
theorem dX5_find_71 : decode cX5_find 71 = .ok (.iastore, 1) := by decide +kernel
theorem dX5_find_72 : decode cX5_find 72 = .ok (.iinc 1 1, 3) := by decide +kernel
theorem dX5_find_75 : decode cX5_find 75 = .ok (.goto (-57), 3) := by decide +kernel
theorem dX5_find_78 : decode cX5_find 78 = .ok (.aload_n 0, 1) := by decide +kernel
theorem dX5_find_79 : decode cX5_find 79 = .ok (.getfield 27, 3) := by decide +kernel
theorem dX5_find_82 : decode cX5_find 82 = .ok (.aload_n 0, 1) := by decide +kernel
theorem dX5_find_83 : decode cX5_find 83 = .ok (.getfield 53, 3) := by decide +kernel
theorem dX5_find_86 : decode cX5_find 86 = .ok (.iconst 0, 1) := by decide +kernel
theorem dX5_find_87 : decode cX5_find 87 = .ok (.iastore, 1) := by decide +kernel
theorem dX5_find_88 : decode cX5_find 88 = .ok (.aload_n 0, 1) := by decide +kernel
theorem dX5_find_89 : decode cX5_find 89 = .ok (.getfield 53, 3) := by decide +kernel
theorem dX5_find_92 : decode cX5_find 92 = .ok (.iconst 1, 1) := by decide +kernel
theorem dX5_find_93 : decode cX5_find 93 = .ok (.isub, 1) := by decide +kernel
theorem dX5_find_94 : decode cX5_find 94 = .ok (.istore_n 1, 1) := by decide +kernel
theorem dX5_find_95 : decode cX5_find 95 = .ok (.iload_n 1, 1) := by decide +kernel
theorem dX5_find_96 : decode cX5_find 96 = .ok (.ifCond .lt 42, 3) := by decide +kernel
theorem dX5_find_99 : decode cX5_find 99 = .ok (.aload_n 0, 1) := by decide +kernel
theorem dX5_find_100 : decode cX5_find 100 = .ok (.getfield 27, 3) := by decide +kernel
theorem dX5_find_103 : decode cX5_find 103 = .ok (.iload_n 1, 1) := by decide +kernel
theorem dX5_find_104 : decode cX5_find 104 = .ok (.aload_n 0, 1) := by decide +kernel
theorem dX5_find_105 : decode cX5_find 105 = .ok (.getfield 27, 3) := by decide +kernel
theorem dX5_find_108 : decode cX5_find 108 = .ok (.iload_n 1, 1) := by decide +kernel
theorem dX5_find_109 : decode cX5_find 109 = .ok (.iconst 1, 1) := by decide +kernel
theorem dX5_find_110 : decode cX5_find 110 = .ok (.iadd, 1) := by decide +kernel
theorem dX5_find_111 : decode cX5_find 111 = .ok (.iaload, 1) := by decide +kernel
theorem dX5_find_112 : decode cX5_find 112 = .ok (.aload_n 0, 1) := by decide +kernel
theorem dX5_find_113 : decode cX5_find 113 = .ok (.iload_n 1, 1) := by decide +kernel
theorem dX5_find_114 : decode cX5_find 114 = .ok (.invokevirtual 75, 3) := by decide +kernel
theorem dX5_find_117 : decode cX5_find 117 = .ok (.ifCond .eq 12, 3) := by decide +kernel
theorem dX5_find_120 : decode cX5_find 120 = .ok (.aload_n 0, 1) := by decide +kernel
theorem dX5_find_121 : decode cX5_find 121 = .ok (.getfield 21, 3) := by decide +kernel
theorem dX5_find_124 : decode cX5_find 124 = .ok (.iload_n 1, 1) := by decide +kernel
theorem dX5_find_125 : decode cX5_find 125 = .ok (.iaload, 1) := by decide +kernel
theorem dX5_find_126 : decode cX5_find 126 = .ok (.goto 4, 3) := by decide +kernel
theorem dX5_find_129 : decode cX5_find 129 = .ok (.iconst 0, 1) := by decide +kernel
theorem dX5_find_130 : decode cX5_find 130 = .ok (.iadd, 1) := by decide +kernel
theorem dX5_find_131 : decode cX5_find 131 = .ok (.iastore, 1) := by decide +kernel
theorem dX5_find_132 : decode cX5_find 132 = .ok (.iinc 1 (-1), 3) := by decide +kernel
theorem dX5_find_135 : decode cX5_find 135 = .ok (.goto (-40), 3) := by decide +kernel
theorem dX5_find_138 : decode cX5_find 138 = .ok (.aload_n 0, 1) := by decide +kernel
theorem dX5_find_139 : decode cX5_find 139 = .ok (.getfield 30, 3) := by decide +kernel
theorem dX5_find_142 : decode cX5_find 142 = .ok (.iconst 0, 1) := by decide +kernel
theorem dX5_find_143 : decode cX5_find 143 = .ok (.invokestatic 79, 3) := by decide +kernel
theorem dX5_find_146 : decode cX5_find 146 = .ok (.aload_n 0, 1) := by decide +kernel
theorem dX5_find_147 : decode cX5_find 147 = .ok (.iconst (-1), 1) := by decide +kernel
theorem dX5_find_148 : decode cX5_find 148 = .ok (.putfield 85, 3) := by decide +kernel
theorem dX5_find_151 : decode cX5_find 151 = .ok (.aload_n 0, 1) := by decide +kernel
theorem dX5_find_152 : decode cX5_find 152 = .ok (.iconst 0, 1) := by decide +kernel
theorem dX5_find_153 : decode cX5_find 153 = .ok (.iconst 0, 1) := by decide +kernel
theorem dX5_find_154 : decode cX5_find 154 = .ok (.invokevirtual 88, 3) := by decide +kernel
theorem dX5_find_157 : decode cX5_find 157 = .ok (.return_, 1) := by decide +kernel
theorem dX5_clashesOf_0 : decode cX5_clashesOf 0 = .ok (.aload_n 0, 1) := by decide +kernel
theorem dX5_clashesOf_1 : decode cX5_clashesOf 1 = .ok (.getfield 37, 3) := by decide +kernel
theorem dX5_clashesOf_4 : decode cX5_clashesOf 4 = .ok (.getfield 56, 3) := by decide +kernel
theorem dX5_clashesOf_7 : decode cX5_clashesOf 7 = .ok (.iload_n 1, 1) := by decide +kernel
theorem dX5_clashesOf_8 : decode cX5_clashesOf 8 = .ok (.aaload, 1) := by decide +kernel
theorem dX5_clashesOf_9 : decode cX5_clashesOf 9 = .ok (.astore_n 2, 1) := by decide +kernel
theorem dX5_clashesOf_10 : decode cX5_clashesOf 10 = .ok (.iconst 0, 1) := by decide +kernel
theorem dX5_clashesOf_11 : decode cX5_clashesOf 11 = .ok (.istore_n 3, 1) := by decide +kernel
theorem dX5_clashesOf_12 : decode cX5_clashesOf 12 = .ok (.iconst 0, 1) := by decide +kernel
theorem dX5_clashesOf_13 : decode cX5_clashesOf 13 = .ok (.istore 4, 2) := by decide +kernel
theorem dX5_clashesOf_15 : decode cX5_clashesOf 15 = .ok (.iload 4, 2) := by decide +kernel
theorem dX5_clashesOf_17 : decode cX5_clashesOf 17 = .ok (.aload_n 0, 1) := by decide +kernel
theorem dX5_clashesOf_18 : decode cX5_clashesOf 18 = .ok (.getfield 53, 3) := by decide +kernel
theorem dX5_clashesOf_21 : decode cX5_clashesOf 21 = .ok (.if_icmp .ge 89, 3) := by decide +kernel
theorem dX5_clashesOf_24 : decode cX5_clashesOf 24 = .ok (.aload_n 0, 1) := by decide +kernel
theorem dX5_clashesOf_25 : decode cX5_clashesOf 25 = .ok (.getfield 37, 3) := by decide +kernel
theorem dX5_clashesOf_28 : decode cX5_clashesOf 28 = .ok (.getfield 56, 3) := by decide +kernel
theorem dX5_clashesOf_31 : decode cX5_clashesOf 31 = .ok (.iload 4, 2) := by decide +kernel
theorem dX5_clashesOf_33 : decode cX5_clashesOf 33 = .ok (.aaload, 1) := by decide +kernel
theorem dX5_clashesOf_34 : decode cX5_clashesOf 34 = .ok (.astore 5, 2) := by decide +kernel
theorem dX5_clashesOf_36 : decode cX5_clashesOf 36 = .ok (.aload 5, 2) := by decide +kernel
theorem dX5_clashesOf_38 : decode cX5_clashesOf 38 = .ok (.getfield 92, 3) := by decide +kernel
theorem dX5_clashesOf_41 : decode cX5_clashesOf 41 = .ok (.aload 5, 2) := by decide +kernel
theorem dX5_clashesOf_43 : decode cX5_clashesOf 43 = .ok (.iconst 0, 1) := by decide +kernel
theorem dX5_clashesOf_44 : decode cX5_clashesOf 44 = .ok (.invokevirtual 64, 3) := by decide +kernel
theorem dX5_clashesOf_47 : decode cX5_clashesOf 47 = .ok (.iadd, 1) := by decide +kernel
theorem dX5_clashesOf_48 : decode cX5_clashesOf 48 = .ok (.aload_n 2, 1) := by decide +kernel
theorem dX5_clashesOf_49 : decode cX5_clashesOf 49 = .ok (.getfield 92, 3) := by decide +kernel
theorem dX5_clashesOf_52 : decode cX5_clashesOf 52 = .ok (.if_icmp .gt 7, 3) := by decide +kernel
theorem dX5_clashesOf_55 : decode cX5_clashesOf 55 = .ok (.iconst 1, 1) := by decide +kernel
theorem dX5_clashesOf_56 : decode cX5_clashesOf 56 = .ok (.goto 4, 3) := by decide +kernel
theorem dX5_clashesOf_59 : decode cX5_clashesOf 59 = .ok (.iconst 0, 1) := by decide +kernel
theorem dX5_clashesOf_60 : decode cX5_clashesOf 60 = .ok (.istore 6, 2) := by decide +kernel
theorem dX5_clashesOf_62 : decode cX5_clashesOf 62 = .ok (.aload_n 2, 1) := by decide +kernel
theorem dX5_clashesOf_63 : decode cX5_clashesOf 63 = .ok (.getfield 92, 3) := by decide +kernel
theorem dX5_clashesOf_66 : decode cX5_clashesOf 66 = .ok (.aload_n 2, 1) := by decide +kernel
theorem dX5_clashesOf_67 : decode cX5_clashesOf 67 = .ok (.iconst 0, 1) := by decide +kernel
theorem dX5_clashesOf_68 : decode cX5_clashesOf 68 = .ok (.invokevirtual 64, 3) := by decide +kernel
theorem dX5_clashesOf_71 : decode cX5_clashesOf 71 = .ok (.iadd, 1) := by decide +kernel
theorem dX5_clashesOf_72 : decode cX5_clashesOf 72 = .ok (.aload 5, 2) := by decide +kernel
theorem dX5_clashesOf_74 : decode cX5_clashesOf 74 = .ok (.getfield 92, 3) := by decide +kernel
theorem dX5_clashesOf_77 : decode cX5_clashesOf 77 = .ok (.if_icmp .gt 7, 3) := by decide +kernel
theorem dX5_clashesOf_80 : decode cX5_clashesOf 80 = .ok (.iconst 1, 1) := by decide +kernel
theorem dX5_clashesOf_81 : decode cX5_clashesOf 81 = .ok (.goto 4, 3) := by decide +kernel
theorem dX5_clashesOf_84 : decode cX5_clashesOf 84 = .ok (.iconst 0, 1) := by decide +kernel
theorem dX5_clashesOf_85 : decode cX5_clashesOf 85 = .ok (.istore 7, 2) := by decide +kernel
theorem dX5_clashesOf_87 : decode cX5_clashesOf 87 = .ok (.iload 6, 2) := by decide +kernel
theorem dX5_clashesOf_89 : decode cX5_clashesOf 89 = .ok (.ifCond .ne 15, 3) := by decide +kernel
theorem dX5_clashesOf_92 : decode cX5_clashesOf 92 = .ok (.iload 7, 2) := by decide +kernel
theorem dX5_clashesOf_94 : decode cX5_clashesOf 94 = .ok (.ifCond .ne 10, 3) := by decide +kernel
theorem dX5_clashesOf_97 : decode cX5_clashesOf 97 = .ok (.iload_n 3, 1) := by decide +kernel
theorem dX5_clashesOf_98 : decode cX5_clashesOf 98 = .ok (.iconst 1, 1) := by decide +kernel
theorem dX5_clashesOf_99 : decode cX5_clashesOf 99 = .ok (.iload 4, 2) := by decide +kernel
theorem dX5_clashesOf_101 : decode cX5_clashesOf 101 = .ok (.ishl, 1) := by decide +kernel
theorem dX5_clashesOf_102 : decode cX5_clashesOf 102 = .ok (.ior, 1) := by decide +kernel
theorem dX5_clashesOf_103 : decode cX5_clashesOf 103 = .ok (.istore_n 3, 1) := by decide +kernel
theorem dX5_clashesOf_104 : decode cX5_clashesOf 104 = .ok (.iinc 4 1, 3) := by decide +kernel
theorem dX5_clashesOf_107 : decode cX5_clashesOf 107 = .ok (.goto (-92), 3) := by decide +kernel
theorem dX5_clashesOf_110 : decode cX5_clashesOf 110 = .ok (.iload_n 3, 1) := by decide +kernel
theorem dX5_clashesOf_111 : decode cX5_clashesOf 111 = .ok (.ireturn, 1) := by decide +kernel
theorem dX5_fitsSomewhere_0 : decode cX5_fitsSomewhere 0 = .ok (.iconst 0, 1) := by decide +kernel
theorem dX5_fitsSomewhere_1 : decode cX5_fitsSomewhere 1 = .ok (.istore_n 2, 1) := by decide +kernel
theorem dX5_fitsSomewhere_2 : decode cX5_fitsSomewhere 2 = .ok (.iload_n 2, 1) := by decide +kernel
theorem dX5_fitsSomewhere_3 : decode cX5_fitsSomewhere 3 = .ok (.aload_n 0, 1) := by decide +kernel
theorem dX5_fitsSomewhere_4 : decode cX5_fitsSomewhere 4 = .ok (.getfield 33, 3) := by decide +kernel
theorem dX5_fitsSomewhere_7 : decode cX5_fitsSomewhere 7 = .ok (.getfield 95, 3) := by decide +kernel
theorem dX5_fitsSomewhere_10 : decode cX5_fitsSomewhere 10 = .ok (.if_icmp .ge 29, 3) := by decide +kernel
theorem dX5_fitsSomewhere_13 : decode cX5_fitsSomewhere 13 = .ok (.aload_n 0, 1) := by decide +kernel
theorem dX5_fitsSomewhere_14 : decode cX5_fitsSomewhere 14 = .ok (.getfield 33, 3) := by decide +kernel
theorem dX5_fitsSomewhere_17 : decode cX5_fitsSomewhere 17 = .ok (.getfield 100, 3) := by decide +kernel
theorem dX5_fitsSomewhere_20 : decode cX5_fitsSomewhere 20 = .ok (.iload_n 2, 1) := by decide +kernel
theorem dX5_fitsSomewhere_21 : decode cX5_fitsSomewhere 21 = .ok (.iaload, 1) := by decide +kernel
theorem dX5_fitsSomewhere_22 : decode cX5_fitsSomewhere 22 = .ok (.aload_n 0, 1) := by decide +kernel
theorem dX5_fitsSomewhere_23 : decode cX5_fitsSomewhere 23 = .ok (.getfield 18, 3) := by decide +kernel
theorem dX5_fitsSomewhere_26 : decode cX5_fitsSomewhere 26 = .ok (.iload_n 1, 1) := by decide +kernel
theorem dX5_fitsSomewhere_27 : decode cX5_fitsSomewhere 27 = .ok (.iaload, 1) := by decide +kernel
theorem dX5_fitsSomewhere_28 : decode cX5_fitsSomewhere 28 = .ok (.if_icmp .lt 5, 3) := by decide +kernel
theorem dX5_fitsSomewhere_31 : decode cX5_fitsSomewhere 31 = .ok (.iconst 1, 1) := by decide +kernel
theorem dX5_fitsSomewhere_32 : decode cX5_fitsSomewhere 32 = .ok (.ireturn, 1) := by decide +kernel
theorem dX5_fitsSomewhere_33 : decode cX5_fitsSomewhere 33 = .ok (.iinc 2 1, 3) := by decide +kernel
theorem dX5_fitsSomewhere_36 : decode cX5_fitsSomewhere 36 = .ok (.goto (-34), 3) := by decide +kernel
theorem dX5_fitsSomewhere_39 : decode cX5_fitsSomewhere 39 = .ok (.iconst 0, 1) := by decide +kernel
theorem dX5_fitsSomewhere_40 : decode cX5_fitsSomewhere 40 = .ok (.ireturn, 1) := by decide +kernel
theorem dX5_place_0 : decode cX5_place 0 = .ok (.iload_n 1, 1) := by decide +kernel
theorem dX5_place_1 : decode cX5_place 1 = .ok (.aload_n 0, 1) := by decide +kernel
theorem dX5_place_2 : decode cX5_place 2 = .ok (.getfield 53, 3) := by decide +kernel
theorem dX5_place_5 : decode cX5_place 5 = .ok (.if_icmp .gt 18, 3) := by decide +kernel
theorem dX5_place_8 : decode cX5_place 8 = .ok (.iload_n 2, 1) := by decide +kernel
theorem dX5_place_9 : decode cX5_place 9 = .ok (.aload_n 0, 1) := by decide +kernel
theorem dX5_place_10 : decode cX5_place 10 = .ok (.getfield 27, 3) := by decide +kernel
theorem dX5_place_13 : decode cX5_place 13 = .ok (.iload_n 1, 1) := by decide +kernel
theorem dX5_place_14 : decode cX5_place 14 = .ok (.iaload, 1) := by decide +kernel
theorem dX5_place_15 : decode cX5_place 15 = .ok (.iadd, 1) := by decide +kernel
theorem dX5_place_16 : decode cX5_place 16 = .ok (.aload_n 0, 1) := by decide +kernel
theorem dX5_place_17 : decode cX5_place 17 = .ok (.getfield 85, 3) := by decide +kernel
theorem dX5_place_20 : decode cX5_place 20 = .ok (.if_icmp .gt 4, 3) := by decide +kernel
theorem dX5_place_23 : decode cX5_place 23 = .ok (.return_, 1) := by decide +kernel
theorem dX5_place_24 : decode cX5_place 24 = .ok (.iload_n 1, 1) := by decide +kernel
theorem dX5_place_25 : decode cX5_place 25 = .ok (.aload_n 0, 1) := by decide +kernel
theorem dX5_place_26 : decode cX5_place 26 = .ok (.getfield 53, 3) := by decide +kernel
theorem dX5_place_29 : decode cX5_place 29 = .ok (.if_icmp .ne 37, 3) := by decide +kernel
theorem dX5_place_32 : decode cX5_place 32 = .ok (.aload_n 0, 1) := by decide +kernel
theorem dX5_place_33 : decode cX5_place 33 = .ok (.iload_n 2, 1) := by decide +kernel
theorem dX5_place_34 : decode cX5_place 34 = .ok (.putfield 85, 3) := by decide +kernel
theorem dX5_place_37 : decode cX5_place 37 = .ok (.iconst 0, 1) := by decide +kernel
theorem dX5_place_38 : decode cX5_place 38 = .ok (.istore_n 3, 1) := by decide +kernel
theorem dX5_place_39 : decode cX5_place 39 = .ok (.iload_n 3, 1) := by decide +kernel
theorem dX5_place_40 : decode cX5_place 40 = .ok (.aload_n 0, 1) := by decide +kernel
theorem dX5_place_41 : decode cX5_place 41 = .ok (.getfield 53, 3) := by decide +kernel
theorem dX5_place_44 : decode cX5_place 44 = .ok (.if_icmp .ge 21, 3) := by decide +kernel
theorem dX5_place_47 : decode cX5_place 47 = .ok (.aload_n 0, 1) := by decide +kernel
theorem dX5_place_48 : decode cX5_place 48 = .ok (.getfield 9, 3) := by decide +kernel
theorem dX5_place_51 : decode cX5_place 51 = .ok (.iload_n 3, 1) := by decide +kernel
theorem dX5_place_52 : decode cX5_place 52 = .ok (.aload_n 0, 1) := by decide +kernel
theorem dX5_place_53 : decode cX5_place 53 = .ok (.getfield 15, 3) := by decide +kernel
theorem dX5_place_56 : decode cX5_place 56 = .ok (.iload_n 3, 1) := by decide +kernel
theorem dX5_place_57 : decode cX5_place 57 = .ok (.iaload, 1) := by decide +kernel
theorem dX5_place_58 : decode cX5_place 58 = .ok (.iastore, 1) := by decide +kernel
theorem dX5_place_59 : decode cX5_place 59 = .ok (.iinc 3 1, 3) := by decide +kernel
theorem dX5_place_62 : decode cX5_place 62 = .ok (.goto (-23), 3) := by decide +kernel
theorem dX5_place_65 : decode cX5_place 65 = .ok (.return_, 1) := by decide +kernel
theorem dX5_place_66 : decode cX5_place 66 = .ok (.iconst 0, 1) := by decide +kernel
theorem dX5_place_67 : decode cX5_place 67 = .ok (.istore_n 3, 1) := by decide +kernel
theorem dX5_place_68 : decode cX5_place 68 = .ok (.iload_n 3, 1) := by decide +kernel
theorem dX5_place_69 : decode cX5_place 69 = .ok (.aload_n 0, 1) := by decide +kernel
theorem dX5_place_70 : decode cX5_place 70 = .ok (.getfield 33, 3) := by decide +kernel
theorem dX5_place_73 : decode cX5_place 73 = .ok (.getfield 95, 3) := by decide +kernel
theorem dX5_place_76 : decode cX5_place 76 = .ok (.if_icmp .ge 91, 3) := by decide +kernel
theorem dX5_place_79 : decode cX5_place 79 = .ok (.aload_n 0, 1) := by decide +kernel
theorem dX5_place_80 : decode cX5_place 80 = .ok (.getfield 33, 3) := by decide +kernel
theorem dX5_place_83 : decode cX5_place 83 = .ok (.getfield 100, 3) := by decide +kernel
theorem dX5_place_86 : decode cX5_place 86 = .ok (.iload_n 3, 1) := by decide +kernel
theorem dX5_place_87 : decode cX5_place 87 = .ok (.iaload, 1) := by decide +kernel
theorem dX5_place_88 : decode cX5_place 88 = .ok (.aload_n 0, 1) := by decide +kernel
theorem dX5_place_89 : decode cX5_place 89 = .ok (.getfield 18, 3) := by decide +kernel
theorem dX5_place_92 : decode cX5_place 92 = .ok (.iload_n 1, 1) := by decide +kernel
theorem dX5_place_93 : decode cX5_place 93 = .ok (.iaload, 1) := by decide +kernel
theorem dX5_place_94 : decode cX5_place 94 = .ok (.if_icmp .lt 67, 3) := by decide +kernel
theorem dX5_place_97 : decode cX5_place 97 = .ok (.aload_n 0, 1) := by decide +kernel
theorem dX5_place_98 : decode cX5_place 98 = .ok (.getfield 30, 3) := by decide +kernel
theorem dX5_place_101 : decode cX5_place 101 = .ok (.iload_n 3, 1) := by decide +kernel
theorem dX5_place_102 : decode cX5_place 102 = .ok (.iaload, 1) := by decide +kernel
theorem dX5_place_103 : decode cX5_place 103 = .ok (.aload_n 0, 1) := by decide +kernel
theorem dX5_place_104 : decode cX5_place 104 = .ok (.getfield 24, 3) := by decide +kernel
theorem dX5_place_107 : decode cX5_place 107 = .ok (.iload_n 1, 1) := by decide +kernel
theorem dX5_place_108 : decode cX5_place 108 = .ok (.iaload, 1) := by decide +kernel
theorem dX5_place_109 : decode cX5_place 109 = .ok (.iand, 1) := by decide +kernel
theorem dX5_place_110 : decode cX5_place 110 = .ok (.ifCond .ne 51, 3) := by decide +kernel
theorem dX5_place_113 : decode cX5_place 113 = .ok (.aload_n 0, 1) := by decide +kernel
theorem dX5_place_114 : decode cX5_place 114 = .ok (.getfield 30, 3) := by decide +kernel
theorem dX5_place_117 : decode cX5_place 117 = .ok (.iload_n 3, 1) := by decide +kernel
theorem dX5_place_118 : decode cX5_place 118 = .ok (.dup2, 1) := by decide +kernel
theorem dX5_place_119 : decode cX5_place 119 = .ok (.iaload, 1) := by decide +kernel
theorem dX5_place_120 : decode cX5_place 120 = .ok (.iconst 1, 1) := by decide +kernel
theorem dX5_place_121 : decode cX5_place 121 = .ok (.iload_n 1, 1) := by decide +kernel
theorem dX5_place_122 : decode cX5_place 122 = .ok (.ishl, 1) := by decide +kernel
theorem dX5_place_123 : decode cX5_place 123 = .ok (.ior, 1) := by decide +kernel
theorem dX5_place_124 : decode cX5_place 124 = .ok (.iastore, 1) := by decide +kernel
theorem dX5_place_125 : decode cX5_place 125 = .ok (.aload_n 0, 1) := by decide +kernel
theorem dX5_place_126 : decode cX5_place 126 = .ok (.getfield 15, 3) := by decide +kernel
theorem dX5_place_129 : decode cX5_place 129 = .ok (.iload_n 1, 1) := by decide +kernel
theorem dX5_place_130 : decode cX5_place 130 = .ok (.iload_n 3, 1) := by decide +kernel
theorem dX5_place_131 : decode cX5_place 131 = .ok (.iastore, 1) := by decide +kernel
theorem dX5_place_132 : decode cX5_place 132 = .ok (.aload_n 0, 1) := by decide +kernel
theorem dX5_place_133 : decode cX5_place 133 = .ok (.iload_n 1, 1) := by decide +kernel
theorem dX5_place_134 : decode cX5_place 134 = .ok (.iconst 1, 1) := by decide +kernel
theorem dX5_place_135 : decode cX5_place 135 = .ok (.iadd, 1) := by decide +kernel
theorem dX5_place_136 : decode cX5_place 136 = .ok (.iload_n 2, 1) := by decide +kernel
theorem dX5_place_137 : decode cX5_place 137 = .ok (.aload_n 0, 1) := by decide +kernel
theorem dX5_place_138 : decode cX5_place 138 = .ok (.getfield 21, 3) := by decide +kernel
theorem dX5_place_141 : decode cX5_place 141 = .ok (.iload_n 1, 1) := by decide +kernel
theorem dX5_place_142 : decode cX5_place 142 = .ok (.iaload, 1) := by decide +kernel
theorem dX5_place_143 : decode cX5_place 143 = .ok (.iadd, 1) := by decide +kernel
theorem dX5_place_144 : decode cX5_place 144 = .ok (.invokevirtual 88, 3) := by decide +kernel
theorem dX5_place_147 : decode cX5_place 147 = .ok (.aload_n 0, 1) := by decide +kernel
theorem dX5_place_148 : decode cX5_place 148 = .ok (.getfield 30, 3) := by decide +kernel
theorem dX5_place_151 : decode cX5_place 151 = .ok (.iload_n 3, 1) := by decide +kernel
theorem dX5_place_152 : decode cX5_place 152 = .ok (.dup2, 1) := by decide +kernel
theorem dX5_place_153 : decode cX5_place 153 = .ok (.iaload, 1) := by decide +kernel
theorem dX5_place_154 : decode cX5_place 154 = .ok (.iconst 1, 1) := by decide +kernel
theorem dX5_place_155 : decode cX5_place 155 = .ok (.iload_n 1, 1) := by decide +kernel
theorem dX5_place_156 : decode cX5_place 156 = .ok (.ishl, 1) := by decide +kernel
theorem dX5_place_157 : decode cX5_place 157 = .ok (.iconst (-1), 1) := by decide +kernel
theorem dX5_place_158 : decode cX5_place 158 = .ok (.ixor, 1) := by decide +kernel
theorem dX5_place_159 : decode cX5_place 159 = .ok (.iand, 1) := by decide +kernel
theorem dX5_place_160 : decode cX5_place 160 = .ok (.iastore, 1) := by decide +kernel
theorem dX5_place_161 : decode cX5_place 161 = .ok (.iinc 3 1, 3) := by decide +kernel
theorem dX5_place_164 : decode cX5_place 164 = .ok (.goto (-96), 3) := by decide +kernel
theorem dX5_place_167 : decode cX5_place 167 = .ok (.aload_n 0, 1) := by decide +kernel
theorem dX5_place_168 : decode cX5_place 168 = .ok (.getfield 15, 3) := by decide +kernel
theorem dX5_place_171 : decode cX5_place 171 = .ok (.iload_n 1, 1) := by decide +kernel
theorem dX5_place_172 : decode cX5_place 172 = .ok (.bipush (-9), 2) := by decide +kernel
theorem dX5_place_174 : decode cX5_place 174 = .ok (.iastore, 1) := by decide +kernel
theorem dX5_place_175 : decode cX5_place 175 = .ok (.aload_n 0, 1) := by decide +kernel
theorem dX5_place_176 : decode cX5_place 176 = .ok (.iload_n 1, 1) := by decide +kernel
theorem dX5_place_177 : decode cX5_place 177 = .ok (.iconst 1, 1) := by decide +kernel
theorem dX5_place_178 : decode cX5_place 178 = .ok (.iadd, 1) := by decide +kernel
theorem dX5_place_179 : decode cX5_place 179 = .ok (.iload_n 2, 1) := by decide +kernel
theorem dX5_place_180 : decode cX5_place 180 = .ok (.invokevirtual 88, 3) := by decide +kernel
theorem dX5_place_183 : decode cX5_place 183 = .ok (.return_, 1) := by decide +kernel
theorem dX6_init_0 : decode cX6_init 0 = .ok (.aload_n 0, 1) := by decide +kernel
theorem dX6_init_1 : decode cX6_init 1 = .ok (.invokespecial 3, 3) := by decide +kernel
theorem dX6_init_4 : decode cX6_init 4 = .ok (.aload_n 0, 1) := by decide +kernel
theorem dX6_init_5 : decode cX6_init 5 = .ok (.bipush 40, 2) := by decide +kernel
theorem dX6_init_7 : decode cX6_init 7 = .ok (.newarray .int, 2) := by decide +kernel
theorem dX6_init_9 : decode cX6_init 9 = .ok (.putfield 9, 3) := by decide +kernel
theorem dX6_init_12 : decode cX6_init 12 = .ok (.return_, 1) := by decide +kernel
theorem dX6_renew_0 : decode cX6_renew 0 = .ok (.aload_n 0, 1) := by decide +kernel
theorem dX6_renew_1 : decode cX6_renew 1 = .ok (.getfield 9, 3) := by decide +kernel
theorem dX6_renew_4 : decode cX6_renew 4 = .ok (.iconst 0, 1) := by decide +kernel
theorem dX6_renew_5 : decode cX6_renew 5 = .ok (.invokestatic 15, 3) := by decide +kernel
theorem dX6_renew_8 : decode cX6_renew 8 = .ok (.aload_n 0, 1) := by decide +kernel
theorem dX6_renew_9 : decode cX6_renew 9 = .ok (.iconst 1, 1) := by decide +kernel
theorem dX6_renew_10 : decode cX6_renew 10 = .ok (.putfield 21, 3) := by decide +kernel
theorem dX6_renew_13 : decode cX6_renew 13 = .ok (.aload_n 0, 1) := by decide +kernel
theorem dX6_renew_14 : decode cX6_renew 14 = .ok (.iload_n 1, 1) := by decide +kernel
theorem dX6_renew_15 : decode cX6_renew 15 = .ok (.putfield 25, 3) := by decide +kernel
theorem dX6_renew_18 : decode cX6_renew 18 = .ok (.aload_n 0, 1) := by decide +kernel
theorem dX6_renew_19 : decode cX6_renew 19 = .ok (.iload_n 2, 1) := by decide +kernel
theorem dX6_renew_20 : decode cX6_renew 20 = .ok (.putfield 29, 3) := by decide +kernel
theorem dX6_renew_23 : decode cX6_renew 23 = .ok (.return_, 1) := by decide +kernel
theorem dX6_cut_0 : decode cX6_cut 0 = .ok (.aload_n 0, 1) := by decide +kernel
theorem dX6_cut_1 : decode cX6_cut 1 = .ok (.getfield 25, 3) := by decide +kernel
theorem dX6_cut_4 : decode cX6_cut 4 = .ok (.ifCond .ne 6, 3) := by decide +kernel
theorem dX6_cut_7 : decode cX6_cut 7 = .ok (.iload_n 1, 1) := by decide +kernel
theorem dX6_cut_8 : decode cX6_cut 8 = .ok (.i2b, 1) := by decide +kernel
theorem dX6_cut_9 : decode cX6_cut 9 = .ok (.ireturn, 1) := by decide +kernel
theorem dX6_cut_10 : decode cX6_cut 10 = .ok (.aload_n 0, 1) := by decide +kernel
theorem dX6_cut_11 : decode cX6_cut 11 = .ok (.getfield 25, 3) := by decide +kernel
theorem dX6_cut_14 : decode cX6_cut 14 = .ok (.iconst 1, 1) := by decide +kernel
theorem dX6_cut_15 : decode cX6_cut 15 = .ok (.if_icmp .ne 8, 3) := by decide +kernel
theorem dX6_cut_18 : decode cX6_cut 18 = .ok (.iload_n 1, 1) := by decide +kernel
theorem dX6_cut_19 : decode cX6_cut 19 = .ok (.i2s, 1) := by decide +kernel
theorem dX6_cut_20 : decode cX6_cut 20 = .ok (.goto 4, 3) := by decide +kernel
theorem dX6_cut_23 : decode cX6_cut 23 = .ok (.iload_n 1, 1) := by decide +kernel
theorem dX6_cut_24 : decode cX6_cut 24 = .ok (.ireturn, 1) := by decide +kernel
theorem dX6_reaches_0 : decode cX6_reaches 0 = .ok (.iload_n 1, 1) := by decide +kernel
theorem dX6_reaches_1 : decode cX6_reaches 1 = .ok (.ifCond .lt 29, 3) := by decide +kernel
theorem dX6_reaches_4 : decode cX6_reaches 4 = .ok (.iload_n 1, 1) := by decide +kernel
theorem dX6_reaches_5 : decode cX6_reaches 5 = .ok (.aload_n 0, 1) := by decide +kernel
theorem dX6_reaches_6 : decode cX6_reaches 6 = .ok (.getfield 29, 3) := by decide +kernel
theorem dX6_reaches_9 : decode cX6_reaches 9 = .ok (.if_icmp .gt 21, 3) := by decide +kernel
theorem dX6_reaches_12 : decode cX6_reaches 12 = .ok (.iload_n 2, 1) := by decide +kernel
theorem dX6_reaches_13 : decode cX6_reaches 13 = .ok (.ifCond .lt 17, 3) := by decide +kernel
theorem dX6_reaches_16 : decode cX6_reaches 16 = .ok (.iload_n 2, 1) := by decide +kernel
theorem dX6_reaches_17 : decode cX6_reaches 17 = .ok (.aload_n 0, 1) := by decide +kernel
theorem dX6_reaches_18 : decode cX6_reaches 18 = .ok (.getfield 29, 3) := by decide +kernel
theorem dX6_reaches_21 : decode cX6_reaches 21 = .ok (.iload_n 1, 1) := by decide +kernel
theorem dX6_reaches_22 : decode cX6_reaches 22 = .ok (.isub, 1) := by decide +kernel
theorem dX6_reaches_23 : decode cX6_reaches 23 = .ok (.if_icmp .gt 7, 3) := by decide +kernel
theorem dX6_reaches_26 : decode cX6_reaches 26 = .ok (.iconst 1, 1) := by decide +kernel
theorem dX6_reaches_27 : decode cX6_reaches 27 = .ok (.goto 4, 3) := by decide +kernel
theorem dX6_reaches_30 : decode cX6_reaches 30 = .ok (.iconst 0, 1) := by decide +kernel
theorem dX6_reaches_31 : decode cX6_reaches 31 = .ok (.ireturn, 1) := by decide +kernel
theorem dX7_init_0 : decode cX7_init 0 = .ok (.aload_n 0, 1) := by decide +kernel
theorem dX7_init_1 : decode cX7_init 1 = .ok (.iload_n 1, 1) := by decide +kernel
theorem dX7_init_2 : decode cX7_init 2 = .ok (.iload_n 2, 1) := by decide +kernel
theorem dX7_init_3 : decode cX7_init 3 = .ok (.iload_n 3, 1) := by decide +kernel
theorem dX7_init_4 : decode cX7_init 4 = .ok (.iload 4, 2) := by decide +kernel
theorem dX7_init_6 : decode cX7_init 6 = .ok (.iload 5, 2) := by decide +kernel
theorem dX7_init_8 : decode cX7_init 8 = .ok (.iload 6, 2) := by decide +kernel
theorem dX7_init_10 : decode cX7_init 10 = .ok (.invokespecial 1, 3) := by decide +kernel
theorem dX7_init_13 : decode cX7_init 13 = .ok (.return_, 1) := by decide +kernel
theorem dX7_kindNumber_0 : decode cX7_kindNumber 0 = .ok (.iconst 1, 1) := by decide +kernel
theorem dX7_kindNumber_1 : decode cX7_kindNumber 1 = .ok (.ireturn, 1) := by decide +kernel
theorem dX7_staysFor_0 : decode cX7_staysFor 0 = .ok (.iconst 2, 1) := by decide +kernel
theorem dX7_staysFor_1 : decode cX7_staysFor 1 = .ok (.aload_n 0, 1) := by decide +kernel
theorem dX7_staysFor_2 : decode cX7_staysFor 2 = .ok (.getfield 7, 3) := by decide +kernel
theorem dX7_staysFor_5 : decode cX7_staysFor 5 = .ok (.imul, 1) := by decide +kernel
theorem dX7_staysFor_6 : decode cX7_staysFor 6 = .ok (.ireturn, 1) := by decide +kernel
theorem dX7_coinFor_0 : decode cX7_coinFor 0 = .ok (.aload_n 0, 1) := by decide +kernel
theorem dX7_coinFor_1 : decode cX7_coinFor 1 = .ok (.getfield 13, 3) := by decide +kernel
theorem dX7_coinFor_4 : decode cX7_coinFor 4 = .ok (.iconst 5, 1) := by decide +kernel
theorem dX7_coinFor_5 : decode cX7_coinFor 5 = .ok (.iload_n 1, 1) := by decide +kernel
theorem dX7_coinFor_6 : decode cX7_coinFor 6 = .ok (.bipush 20, 2) := by decide +kernel
theorem dX7_coinFor_8 : decode cX7_coinFor 8 = .ok (.idiv, 1) := by decide +kernel
theorem dX7_coinFor_9 : decode cX7_coinFor 9 = .ok (.iadd, 1) := by decide +kernel
theorem dX7_coinFor_10 : decode cX7_coinFor 10 = .ok (.imul, 1) := by decide +kernel
theorem dX7_coinFor_11 : decode cX7_coinFor 11 = .ok (.ireturn, 1) := by decide +kernel
theorem dX7_telling_0 : decode cX7_telling 0 = .ok (.aload_n 1, 1) := by decide +kernel
theorem dX7_telling_1 : decode cX7_telling 1 = .ok (.iconst 2, 1) := by decide +kernel
theorem dX7_telling_2 : decode cX7_telling 2 = .ok (.invokevirtual 16, 3) := by decide +kernel
theorem dX7_telling_5 : decode cX7_telling 5 = .ok (.aload_n 0, 1) := by decide +kernel
theorem dX7_telling_6 : decode cX7_telling 6 = .ok (.aload_n 1, 1) := by decide +kernel
theorem dX7_telling_7 : decode cX7_telling 7 = .ok (.invokespecial 22, 3) := by decide +kernel
theorem dX7_telling_10 : decode cX7_telling 10 = .ok (.bipush 100, 2) := by decide +kernel
theorem dX7_telling_12 : decode cX7_telling 12 = .ok (.iadd, 1) := by decide +kernel
theorem dX7_telling_13 : decode cX7_telling 13 = .ok (.ireturn, 1) := by decide +kernel
theorem dX8_init_0 : decode cX8_init 0 = .ok (.aload_n 0, 1) := by decide +kernel
theorem dX8_init_1 : decode cX8_init 1 = .ok (.invokespecial 1, 3) := by decide +kernel
theorem dX8_init_4 : decode cX8_init 4 = .ok (.return_, 1) := by decide +kernel
theorem dX8_mark_0 : decode cX8_mark 0 = .ok (.aload_n 0, 1) := by decide +kernel
theorem dX8_mark_1 : decode cX8_mark 1 = .ok (.bipush 31, 2) := by decide +kernel
theorem dX8_mark_3 : decode cX8_mark 3 = .ok (.aload_n 0, 1) := by decide +kernel
theorem dX8_mark_4 : decode cX8_mark 4 = .ok (.getfield 7, 3) := by decide +kernel
theorem dX8_mark_7 : decode cX8_mark 7 = .ok (.imul, 1) := by decide +kernel
theorem dX8_mark_8 : decode cX8_mark 8 = .ok (.iload_n 1, 1) := by decide +kernel
theorem dX8_mark_9 : decode cX8_mark 9 = .ok (.iadd, 1) := by decide +kernel
theorem dX8_mark_10 : decode cX8_mark 10 = .ok (.putfield 7, 3) := by decide +kernel
theorem dX8_mark_13 : decode cX8_mark 13 = .ok (.return_, 1) := by decide +kernel
theorem dX9_init_0 : decode cX9_init 0 = .ok (.aload_n 0, 1) := by decide +kernel
theorem dX9_init_1 : decode cX9_init 1 = .ok (.invokespecial 3, 3) := by decide +kernel
theorem dX9_init_4 : decode cX9_init 4 = .ok (.aload_n 0, 1) := by decide +kernel
theorem dX9_init_5 : decode cX9_init 5 = .ok (.new 9, 3) := by decide +kernel
theorem dX9_init_8 : decode cX9_init 8 = .ok (.dup, 1) := by decide +kernel
theorem dX9_init_9 : decode cX9_init 9 = .ok (.invokespecial 11, 3) := by decide +kernel
theorem dX9_init_12 : decode cX9_init 12 = .ok (.putfield 12, 3) := by decide +kernel
theorem dX9_init_15 : decode cX9_init 15 = .ok (.aload_n 0, 1) := by decide +kernel
theorem dX9_init_16 : decode cX9_init 16 = .ok (.new 9, 3) := by decide +kernel
theorem dX9_init_19 : decode cX9_init 19 = .ok (.dup, 1) := by decide +kernel
theorem dX9_init_20 : decode cX9_init 20 = .ok (.invokespecial 11, 3) := by decide +kernel
theorem dX9_init_23 : decode cX9_init 23 = .ok (.putfield 18, 3) := by decide +kernel
theorem dX9_init_26 : decode cX9_init 26 = .ok (.aload_n 0, 1) := by decide +kernel
theorem dX9_init_27 : decode cX9_init 27 = .ok (.new 21, 3) := by decide +kernel
theorem dX9_init_30 : decode cX9_init 30 = .ok (.dup, 1) := by decide +kernel
theorem dX9_init_31 : decode cX9_init 31 = .ok (.invokespecial 23, 3) := by decide +kernel
theorem dX9_init_34 : decode cX9_init 34 = .ok (.putfield 24, 3) := by decide +kernel
theorem dX9_init_37 : decode cX9_init 37 = .ok (.aload_n 0, 1) := by decide +kernel
theorem dX9_init_38 : decode cX9_init 38 = .ok (.iconst 4, 1) := by decide +kernel
theorem dX9_init_39 : decode cX9_init 39 = .ok (.anewarray 28, 3) := by decide +kernel
theorem dX9_init_42 : decode cX9_init 42 = .ok (.putfield 30, 3) := by decide +kernel
theorem dX9_init_45 : decode cX9_init 45 = .ok (.iconst 0, 1) := by decide +kernel
theorem dX9_init_46 : decode cX9_init 46 = .ok (.istore_n 1, 1) := by decide +kernel
theorem dX9_init_47 : decode cX9_init 47 = .ok (.iload_n 1, 1) := by decide +kernel
theorem dX9_init_48 : decode cX9_init 48 = .ok (.iconst 4, 1) := by decide +kernel
theorem dX9_init_49 : decode cX9_init 49 = .ok (.if_icmp .ge 22, 3) := by decide +kernel
theorem dX9_init_52 : decode cX9_init 52 = .ok (.aload_n 0, 1) := by decide +kernel
theorem dX9_init_53 : decode cX9_init 53 = .ok (.getfield 30, 3) := by decide +kernel
theorem dX9_init_56 : decode cX9_init 56 = .ok (.iload_n 1, 1) := by decide +kernel
theorem dX9_init_57 : decode cX9_init 57 = .ok (.new 28, 3) := by decide +kernel
theorem dX9_init_60 : decode cX9_init 60 = .ok (.dup, 1) := by decide +kernel
theorem dX9_init_61 : decode cX9_init 61 = .ok (.invokespecial 34, 3) := by decide +kernel
theorem dX9_init_64 : decode cX9_init 64 = .ok (.aastore, 1) := by decide +kernel
theorem dX9_init_65 : decode cX9_init 65 = .ok (.iinc 1 1, 3) := by decide +kernel
theorem dX9_init_68 : decode cX9_init 68 = .ok (.goto (-21), 3) := by decide +kernel
theorem dX9_init_71 : decode cX9_init 71 = .ok (.aload_n 0, 1) := by decide +kernel
theorem dX9_init_72 : decode cX9_init 72 = .ok (.new 35, 3) := by decide +kernel
theorem dX9_init_75 : decode cX9_init 75 = .ok (.dup, 1) := by decide +kernel
theorem dX9_init_76 : decode cX9_init 76 = .ok (.invokespecial 37, 3) := by decide +kernel
theorem dX9_init_79 : decode cX9_init 79 = .ok (.putfield 38, 3) := by decide +kernel
theorem dX9_init_82 : decode cX9_init 82 = .ok (.aload_n 0, 1) := by decide +kernel
theorem dX9_init_83 : decode cX9_init 83 = .ok (.new 42, 3) := by decide +kernel
theorem dX9_init_86 : decode cX9_init 86 = .ok (.dup, 1) := by decide +kernel
theorem dX9_init_87 : decode cX9_init 87 = .ok (.aload_n 0, 1) := by decide +kernel
theorem dX9_init_88 : decode cX9_init 88 = .ok (.getfield 12, 3) := by decide +kernel
theorem dX9_init_91 : decode cX9_init 91 = .ok (.aload_n 0, 1) := by decide +kernel
theorem dX9_init_92 : decode cX9_init 92 = .ok (.getfield 24, 3) := by decide +kernel
theorem dX9_init_95 : decode cX9_init 95 = .ok (.invokespecial 44, 3) := by decide +kernel
theorem dX9_init_98 : decode cX9_init 98 = .ok (.putfield 47, 3) := by decide +kernel
theorem dX9_init_101 : decode cX9_init 101 = .ok (.aload_n 0, 1) := by decide +kernel
theorem dX9_init_102 : decode cX9_init 102 = .ok (.new 42, 3) := by decide +kernel
theorem dX9_init_105 : decode cX9_init 105 = .ok (.dup, 1) := by decide +kernel
theorem dX9_init_106 : decode cX9_init 106 = .ok (.aload_n 0, 1) := by decide +kernel
theorem dX9_init_107 : decode cX9_init 107 = .ok (.getfield 12, 3) := by decide +kernel
theorem dX9_init_110 : decode cX9_init 110 = .ok (.aload_n 0, 1) := by decide +kernel
theorem dX9_init_111 : decode cX9_init 111 = .ok (.getfield 24, 3) := by decide +kernel
theorem dX9_init_114 : decode cX9_init 114 = .ok (.invokespecial 44, 3) := by decide +kernel
theorem dX9_init_117 : decode cX9_init 117 = .ok (.putfield 51, 3) := by decide +kernel
theorem dX9_init_120 : decode cX9_init 120 = .ok (.aload_n 0, 1) := by decide +kernel
theorem dX9_init_121 : decode cX9_init 121 = .ok (.new 54, 3) := by decide +kernel
theorem dX9_init_124 : decode cX9_init 124 = .ok (.dup, 1) := by decide +kernel
theorem dX9_init_125 : decode cX9_init 125 = .ok (.aload_n 0, 1) := by decide +kernel
theorem dX9_init_126 : decode cX9_init 126 = .ok (.getfield 12, 3) := by decide +kernel
theorem dX9_init_129 : decode cX9_init 129 = .ok (.aload_n 0, 1) := by decide +kernel
theorem dX9_init_130 : decode cX9_init 130 = .ok (.getfield 24, 3) := by decide +kernel
theorem dX9_init_133 : decode cX9_init 133 = .ok (.invokespecial 56, 3) := by decide +kernel
theorem dX9_init_136 : decode cX9_init 136 = .ok (.putfield 57, 3) := by decide +kernel
theorem dX9_init_139 : decode cX9_init 139 = .ok (.aload_n 0, 1) := by decide +kernel
theorem dX9_init_140 : decode cX9_init 140 = .ok (.bipush 31, 2) := by decide +kernel
theorem dX9_init_142 : decode cX9_init 142 = .ok (.newarray .int, 2) := by decide +kernel
theorem dX9_init_144 : decode cX9_init 144 = .ok (.putfield 61, 3) := by decide +kernel
theorem dX9_init_147 : decode cX9_init 147 = .ok (.aload_n 0, 1) := by decide +kernel
theorem dX9_init_148 : decode cX9_init 148 = .ok (.iconst 4, 1) := by decide +kernel
theorem dX9_init_149 : decode cX9_init 149 = .ok (.newarray .int, 2) := by decide +kernel
theorem dX9_init_151 : decode cX9_init 151 = .ok (.putfield 65, 3) := by decide +kernel
theorem dX9_init_154 : decode cX9_init 154 = .ok (.return_, 1) := by decide +kernel
theorem dX9_cafe_0 : decode cX9_cafe 0 = .ok (.aload_n 0, 1) := by decide +kernel
theorem dX9_cafe_1 : decode cX9_cafe 1 = .ok (.iconst 0, 1) := by decide +kernel
theorem dX9_cafe_2 : decode cX9_cafe 2 = .ok (.putfield 68, 3) := by decide +kernel
theorem dX9_cafe_5 : decode cX9_cafe 5 = .ok (.iload_n 1, 1) := by decide +kernel
theorem dX9_cafe_6 : decode cX9_cafe 6 = .ok (.invokestatic 72, 3) := by decide +kernel
theorem dX9_cafe_9 : decode cX9_cafe 9 = .ok (.ifCond .eq 5, 3) := by decide +kernel
theorem dX9_cafe_12 : decode cX9_cafe 12 = .ok (.iconst (-1), 1) := by decide +kernel
theorem dX9_cafe_13 : decode cX9_cafe 13 = .ok (.ireturn, 1) := by decide +kernel
theorem dX9_cafe_14 : decode cX9_cafe 14 = .ok (.iload_n 2, 1) := by decide +kernel
theorem dX9_cafe_15 : decode cX9_cafe 15 = .ok (.invokestatic 76, 3) := by decide +kernel
theorem dX9_cafe_18 : decode cX9_cafe 18 = .ok (.ifCond .eq 6, 3) := by decide +kernel
theorem dX9_cafe_21 : decode cX9_cafe 21 = .ok (.bipush (-2), 2) := by decide +kernel
theorem dX9_cafe_23 : decode cX9_cafe 23 = .ok (.ireturn, 1) := by decide +kernel
theorem dX9_cafe_24 : decode cX9_cafe 24 = .ok (.aload_n 0, 1) := by decide +kernel
theorem dX9_cafe_25 : decode cX9_cafe 25 = .ok (.getfield 30, 3) := by decide +kernel
theorem dX9_cafe_28 : decode cX9_cafe 28 = .ok (.iload_n 1, 1) := by decide +kernel
theorem dX9_cafe_29 : decode cX9_cafe 29 = .ok (.aaload, 1) := by decide +kernel
theorem dX9_cafe_30 : decode cX9_cafe 30 = .ok (.astore 5, 2) := by decide +kernel
theorem dX9_cafe_32 : decode cX9_cafe 32 = .ok (.aload 5, 2) := by decide +kernel
theorem dX9_cafe_34 : decode cX9_cafe 34 = .ok (.getfield 79, 3) := by decide +kernel
theorem dX9_cafe_37 : decode cX9_cafe 37 = .ok (.ifCond .eq 18, 3) := by decide +kernel
theorem dX9_cafe_40 : decode cX9_cafe 40 = .ok (.aload 5, 2) := by decide +kernel
theorem dX9_cafe_42 : decode cX9_cafe 42 = .ok (.getfield 83, 3) := by decide +kernel
theorem dX9_cafe_45 : decode cX9_cafe 45 = .ok (.iload_n 2, 1) := by decide +kernel
theorem dX9_cafe_46 : decode cX9_cafe 46 = .ok (.if_icmp .eq 9, 3) := by decide +kernel
theorem dX9_cafe_49 : decode cX9_cafe 49 = .ok (.aload_n 0, 1) := by decide +kernel
theorem dX9_cafe_50 : decode cX9_cafe 50 = .ok (.iconst 2, 1) := by decide +kernel
theorem dX9_cafe_51 : decode cX9_cafe 51 = .ok (.invokevirtual 86, 3) := by decide +kernel
theorem dX9_cafe_54 : decode cX9_cafe 54 = .ok (.ireturn, 1) := by decide +kernel
theorem dX9_cafe_55 : decode cX9_cafe 55 = .ok (.aload 5, 2) := by decide +kernel
theorem dX9_cafe_57 : decode cX9_cafe 57 = .ok (.getfield 79, 3) := by decide +kernel
theorem dX9_cafe_60 : decode cX9_cafe 60 = .ok (.ifCond .ne 9, 3) := by decide +kernel
theorem dX9_cafe_63 : decode cX9_cafe 63 = .ok (.aload_n 0, 1) := by decide +kernel
theorem dX9_cafe_64 : decode cX9_cafe 64 = .ok (.iconst 1, 1) := by decide +kernel
theorem dX9_cafe_65 : decode cX9_cafe 65 = .ok (.invokevirtual 86, 3) := by decide +kernel
theorem dX9_cafe_68 : decode cX9_cafe 68 = .ok (.ireturn, 1) := by decide +kernel
theorem dX9_cafe_69 : decode cX9_cafe 69 = .ok (.iload 4, 2) := by decide +kernel
theorem dX9_cafe_71 : decode cX9_cafe 71 = .ok (.ifCond .ge 9, 3) := by decide +kernel
theorem dX9_cafe_74 : decode cX9_cafe 74 = .ok (.aload_n 0, 1) := by decide +kernel
theorem dX9_cafe_75 : decode cX9_cafe 75 = .ok (.iconst 4, 1) := by decide +kernel
theorem dX9_cafe_76 : decode cX9_cafe 76 = .ok (.invokevirtual 86, 3) := by decide +kernel
theorem dX9_cafe_79 : decode cX9_cafe 79 = .ok (.ireturn, 1) := by decide +kernel
theorem dX9_cafe_80 : decode cX9_cafe 80 = .ok (.aload 5, 2) := by decide +kernel
theorem dX9_cafe_82 : decode cX9_cafe 82 = .ok (.iload_n 3, 1) := by decide +kernel
theorem dX9_cafe_83 : decode cX9_cafe 83 = .ok (.iload 4, 2) := by decide +kernel
theorem dX9_cafe_85 : decode cX9_cafe 85 = .ok (.invokevirtual 90, 3) := by decide +kernel
theorem dX9_cafe_88 : decode cX9_cafe 88 = .ok (.ifCond .ne 9, 3) := by decide +kernel
theorem dX9_cafe_91 : decode cX9_cafe 91 = .ok (.aload_n 0, 1) := by decide +kernel
theorem dX9_cafe_92 : decode cX9_cafe 92 = .ok (.iconst 3, 1) := by decide +kernel
theorem dX9_cafe_93 : decode cX9_cafe 93 = .ok (.invokevirtual 86, 3) := by decide +kernel
theorem dX9_cafe_96 : decode cX9_cafe 96 = .ok (.ireturn, 1) := by decide +kernel
theorem dX9_cafe_97 : decode cX9_cafe 97 = .ok (.aload 5, 2) := by decide +kernel
theorem dX9_cafe_99 : decode cX9_cafe 99 = .ok (.iload_n 3, 1) := by decide +kernel
theorem dX9_cafe_100 : decode cX9_cafe 100 = .ok (.iload 4, 2) := by decide +kernel
theorem dX9_cafe_102 : decode cX9_cafe 102 = .ok (.invokestatic 94, 3) := by decide +kernel
theorem dX9_cafe_105 : decode cX9_cafe 105 = .ok (.istore 6, 2) := by decide +kernel
theorem dX9_cafe_107 : decode cX9_cafe 107 = .ok (.iload 6, 2) := by decide +kernel
theorem dX9_cafe_109 : decode cX9_cafe 109 = .ok (.bipush (-9), 2) := by decide +kernel
theorem dX9_cafe_111 : decode cX9_cafe 111 = .ok (.if_icmp .eq 9, 3) := by decide +kernel
theorem dX9_cafe_114 : decode cX9_cafe 114 = .ok (.bipush (-100), 2) := by decide +kernel
theorem dX9_cafe_116 : decode cX9_cafe 116 = .ok (.iload 6, 2) := by decide +kernel
theorem dX9_cafe_118 : decode cX9_cafe 118 = .ok (.isub, 1) := by decide +kernel
theorem dX9_cafe_119 : decode cX9_cafe 119 = .ok (.ireturn, 1) := by decide +kernel
theorem dX9_cafe_120 : decode cX9_cafe 120 = .ok (.aload_n 0, 1) := by decide +kernel
theorem dX9_cafe_121 : decode cX9_cafe 121 = .ok (.getfield 12, 3) := by decide +kernel
theorem dX9_cafe_124 : decode cX9_cafe 124 = .ok (.aload 5, 2) := by decide +kernel
theorem dX9_cafe_126 : decode cX9_cafe 126 = .ok (.iload_n 3, 1) := by decide +kernel
theorem dX9_cafe_127 : decode cX9_cafe 127 = .ok (.iload 4, 2) := by decide +kernel
theorem dX9_cafe_129 : decode cX9_cafe 129 = .ok (.invokevirtual 98, 3) := by decide +kernel
theorem dX9_cafe_132 : decode cX9_cafe 132 = .ok (.aload_n 0, 1) := by decide +kernel
theorem dX9_cafe_133 : decode cX9_cafe 133 = .ok (.getfield 24, 3) := by decide +kernel
theorem dX9_cafe_136 : decode cX9_cafe 136 = .ok (.iconst 0, 1) := by decide +kernel
theorem dX9_cafe_137 : decode cX9_cafe 137 = .ok (.putfield 102, 3) := by decide +kernel
theorem dX9_cafe_140 : decode cX9_cafe 140 = .ok (.aload_n 0, 1) := by decide +kernel
theorem dX9_cafe_141 : decode cX9_cafe 141 = .ok (.invokevirtual 105, 3) := by decide +kernel
theorem dX9_cafe_144 : decode cX9_cafe 144 = .ok (.aload_n 0, 1) := by decide +kernel
theorem dX9_cafe_145 : decode cX9_cafe 145 = .ok (.getfield 12, 3) := by decide +kernel
theorem dX9_cafe_148 : decode cX9_cafe 148 = .ok (.getfield 108, 3) := by decide +kernel
theorem dX9_cafe_151 : decode cX9_cafe 151 = .ok (.ireturn, 1) := by decide +kernel
theorem dX9_ofTable_0 : decode cX9_ofTable 0 = .ok (.iload_n 1, 1) := by decide +kernel
theorem dX9_ofTable_1 : decode cX9_ofTable 1 = .ok (.ifCond .lt 14, 3) := by decide +kernel
theorem dX9_ofTable_4 : decode cX9_ofTable 4 = .ok (.iload_n 1, 1) := by decide +kernel
theorem dX9_ofTable_5 : decode cX9_ofTable 5 = .ok (.aload_n 0, 1) := by decide +kernel
theorem dX9_ofTable_6 : decode cX9_ofTable 6 = .ok (.getfield 12, 3) := by decide +kernel
theorem dX9_ofTable_9 : decode cX9_ofTable 9 = .ok (.getfield 108, 3) := by decide +kernel
theorem dX9_ofTable_12 : decode cX9_ofTable 12 = .ok (.if_icmp .lt 5, 3) := by decide +kernel
theorem dX9_ofTable_15 : decode cX9_ofTable 15 = .ok (.iconst (-1), 1) := by decide +kernel
theorem dX9_ofTable_16 : decode cX9_ofTable 16 = .ok (.ireturn, 1) := by decide +kernel
theorem dX9_ofTable_17 : decode cX9_ofTable 17 = .ok (.iload_n 2, 1) := by decide +kernel
theorem dX9_ofTable_18 : decode cX9_ofTable 18 = .ok (.ifCond .lt 8, 3) := by decide +kernel
theorem dX9_ofTable_21 : decode cX9_ofTable 21 = .ok (.iload_n 2, 1) := by decide +kernel
theorem dX9_ofTable_22 : decode cX9_ofTable 22 = .ok (.iconst 1, 1) := by decide +kernel
theorem dX9_ofTable_23 : decode cX9_ofTable 23 = .ok (.if_icmp .le 6, 3) := by decide +kernel
theorem dX9_ofTable_26 : decode cX9_ofTable 26 = .ok (.bipush (-2), 2) := by decide +kernel
theorem dX9_ofTable_28 : decode cX9_ofTable 28 = .ok (.ireturn, 1) := by decide +kernel
theorem dX9_ofTable_29 : decode cX9_ofTable 29 = .ok (.iload_n 2, 1) := by decide +kernel
theorem dX9_ofTable_30 : decode cX9_ofTable 30 = .ok (.ifCond .ne 15, 3) := by decide +kernel
theorem dX9_ofTable_33 : decode cX9_ofTable 33 = .ok (.aload_n 0, 1) := by decide +kernel
theorem dX9_ofTable_34 : decode cX9_ofTable 34 = .ok (.getfield 12, 3) := by decide +kernel
theorem dX9_ofTable_37 : decode cX9_ofTable 37 = .ok (.getfield 111, 3) := by decide +kernel
theorem dX9_ofTable_40 : decode cX9_ofTable 40 = .ok (.iload_n 1, 1) := by decide +kernel
theorem dX9_ofTable_41 : decode cX9_ofTable 41 = .ok (.iaload, 1) := by decide +kernel
theorem dX9_ofTable_42 : decode cX9_ofTable 42 = .ok (.goto 12, 3) := by decide +kernel
theorem dX9_ofTable_45 : decode cX9_ofTable 45 = .ok (.aload_n 0, 1) := by decide +kernel
theorem dX9_ofTable_46 : decode cX9_ofTable 46 = .ok (.getfield 12, 3) := by decide +kernel
theorem dX9_ofTable_49 : decode cX9_ofTable 49 = .ok (.getfield 114, 3) := by decide +kernel
theorem dX9_ofTable_52 : decode cX9_ofTable 52 = .ok (.iload_n 1, 1) := by decide +kernel
theorem dX9_ofTable_53 : decode cX9_ofTable 53 = .ok (.iaload, 1) := by decide +kernel
theorem dX9_ofTable_54 : decode cX9_ofTable 54 = .ok (.ireturn, 1) := by decide +kernel
theorem dX9_rule_0 : decode cX9_rule 0 = .ok (.iload_n 1, 1) := by decide +kernel
theorem dX9_rule_1 : decode cX9_rule 1 = .ok (.ifCond .lt 8, 3) := by decide +kernel
theorem dX9_rule_4 : decode cX9_rule 4 = .ok (.iload_n 1, 1) := by decide +kernel
theorem dX9_rule_5 : decode cX9_rule 5 = .ok (.iconst 2, 1) := by decide +kernel
theorem dX9_rule_6 : decode cX9_rule 6 = .ok (.if_icmp .le 6, 3) := by decide +kernel
theorem dX9_rule_9 : decode cX9_rule 9 = .ok (.bipush (-2), 2) := by decide +kernel
theorem dX9_rule_11 : decode cX9_rule 11 = .ok (.ireturn, 1) := by decide +kernel
theorem dX9_rule_12 : decode cX9_rule 12 = .ok (.aload_n 0, 1) := by decide +kernel
theorem dX9_rule_13 : decode cX9_rule 13 = .ok (.invokevirtual 117, 3) := by decide +kernel
theorem dX9_rule_16 : decode cX9_rule 16 = .ok (.ifCond .eq 6, 3) := by decide +kernel
theorem dX9_rule_19 : decode cX9_rule 19 = .ok (.bipush (-3), 2) := by decide +kernel
theorem dX9_rule_21 : decode cX9_rule 21 = .ok (.ireturn, 1) := by decide +kernel
theorem dX9_rule_22 : decode cX9_rule 22 = .ok (.aload_n 0, 1) := by decide +kernel
theorem dX9_rule_23 : decode cX9_rule 23 = .ok (.getfield 12, 3) := by decide +kernel
theorem dX9_rule_26 : decode cX9_rule 26 = .ok (.getfield 121, 3) := by decide +kernel
theorem dX9_rule_29 : decode cX9_rule 29 = .ok (.istore_n 2, 1) := by decide +kernel
theorem dX9_rule_30 : decode cX9_rule 30 = .ok (.aload_n 0, 1) := by decide +kernel
theorem dX9_rule_31 : decode cX9_rule 31 = .ok (.getfield 12, 3) := by decide +kernel
theorem dX9_rule_34 : decode cX9_rule 34 = .ok (.iload_n 1, 1) := by decide +kernel
theorem dX9_rule_35 : decode cX9_rule 35 = .ok (.putfield 121, 3) := by decide +kernel
theorem dX9_rule_38 : decode cX9_rule 38 = .ok (.aload_n 0, 1) := by decide +kernel
theorem dX9_rule_39 : decode cX9_rule 39 = .ok (.invokevirtual 105, 3) := by decide +kernel
theorem dX9_rule_42 : decode cX9_rule 42 = .ok (.iload_n 2, 1) := by decide +kernel
theorem dX9_rule_43 : decode cX9_rule 43 = .ok (.ireturn, 1) := by decide +kernel
theorem dX9_patience_0 : decode cX9_patience 0 = .ok (.iload_n 1, 1) := by decide +kernel
theorem dX9_patience_1 : decode cX9_patience 1 = .ok (.ifCond .lt 9, 3) := by decide +kernel
theorem dX9_patience_4 : decode cX9_patience 4 = .ok (.iload_n 1, 1) := by decide +kernel
theorem dX9_patience_5 : decode cX9_patience 5 = .ok (.bipush 30, 2) := by decide +kernel
theorem dX9_patience_7 : decode cX9_patience 7 = .ok (.if_icmp .le 6, 3) := by decide +kernel
theorem dX9_patience_10 : decode cX9_patience 10 = .ok (.bipush (-2), 2) := by decide +kernel
theorem dX9_patience_12 : decode cX9_patience 12 = .ok (.ireturn, 1) := by decide +kernel
theorem dX9_patience_13 : decode cX9_patience 13 = .ok (.aload_n 0, 1) := by decide +kernel
theorem dX9_patience_14 : decode cX9_patience 14 = .ok (.invokevirtual 117, 3) := by decide +kernel
theorem dX9_patience_17 : decode cX9_patience 17 = .ok (.ifCond .eq 6, 3) := by decide +kernel
theorem dX9_patience_20 : decode cX9_patience 20 = .ok (.bipush (-3), 2) := by decide +kernel
theorem dX9_patience_22 : decode cX9_patience 22 = .ok (.ireturn, 1) := by decide +kernel
theorem dX9_patience_23 : decode cX9_patience 23 = .ok (.aload_n 0, 1) := by decide +kernel
theorem dX9_patience_24 : decode cX9_patience 24 = .ok (.getfield 12, 3) := by decide +kernel
theorem dX9_patience_27 : decode cX9_patience 27 = .ok (.getfield 124, 3) := by decide +kernel
theorem dX9_patience_30 : decode cX9_patience 30 = .ok (.istore_n 2, 1) := by decide +kernel
theorem dX9_patience_31 : decode cX9_patience 31 = .ok (.aload_n 0, 1) := by decide +kernel
theorem dX9_patience_32 : decode cX9_patience 32 = .ok (.getfield 12, 3) := by decide +kernel
theorem dX9_patience_35 : decode cX9_patience 35 = .ok (.iload_n 1, 1) := by decide +kernel
theorem dX9_patience_36 : decode cX9_patience 36 = .ok (.putfield 124, 3) := by decide +kernel
theorem dX9_patience_39 : decode cX9_patience 39 = .ok (.aload_n 0, 1) := by decide +kernel
theorem dX9_patience_40 : decode cX9_patience 40 = .ok (.invokevirtual 105, 3) := by decide +kernel
theorem dX9_patience_43 : decode cX9_patience 43 = .ok (.iload_n 2, 1) := by decide +kernel
theorem dX9_patience_44 : decode cX9_patience 44 = .ok (.ireturn, 1) := by decide +kernel
theorem dX9_joining_0 : decode cX9_joining 0 = .ok (.aload_n 0, 1) := by decide +kernel
theorem dX9_joining_1 : decode cX9_joining 1 = .ok (.invokevirtual 117, 3) := by decide +kernel
theorem dX9_joining_4 : decode cX9_joining 4 = .ok (.ifCond .eq 6, 3) := by decide +kernel
theorem dX9_joining_7 : decode cX9_joining 7 = .ok (.bipush (-3), 2) := by decide +kernel
theorem dX9_joining_9 : decode cX9_joining 9 = .ok (.ireturn, 1) := by decide +kernel
theorem dX9_joining_10 : decode cX9_joining 10 = .ok (.aload_n 0, 1) := by decide +kernel
theorem dX9_joining_11 : decode cX9_joining 11 = .ok (.getfield 12, 3) := by decide +kernel
theorem dX9_joining_14 : decode cX9_joining 14 = .ok (.getfield 127, 3) := by decide +kernel
theorem dX9_joining_17 : decode cX9_joining 17 = .ok (.iload_n 1, 1) := by decide +kernel
theorem dX9_joining_18 : decode cX9_joining 18 = .ok (.if_icmp .ne 5, 3) := by decide +kernel
theorem dX9_joining_21 : decode cX9_joining 21 = .ok (.iconst 0, 1) := by decide +kernel
theorem dX9_joining_22 : decode cX9_joining 22 = .ok (.ireturn, 1) := by decide +kernel
theorem dX9_joining_23 : decode cX9_joining 23 = .ok (.aload_n 0, 1) := by decide +kernel
theorem dX9_joining_24 : decode cX9_joining 24 = .ok (.getfield 12, 3) := by decide +kernel
theorem dX9_joining_27 : decode cX9_joining 27 = .ok (.iload_n 1, 1) := by decide +kernel
theorem dX9_joining_28 : decode cX9_joining 28 = .ok (.putfield 127, 3) := by decide +kernel
theorem dX9_joining_31 : decode cX9_joining 31 = .ok (.aload_n 0, 1) := by decide +kernel
theorem dX9_joining_32 : decode cX9_joining 32 = .ok (.invokevirtual 105, 3) := by decide +kernel
theorem dX9_joining_35 : decode cX9_joining 35 = .ok (.iconst 1, 1) := by decide +kernel
theorem dX9_joining_36 : decode cX9_joining 36 = .ok (.ireturn, 1) := by decide +kernel
theorem dX9_rain_0 : decode cX9_rain 0 = .ok (.iload_n 1, 1) := by decide +kernel
theorem dX9_rain_1 : decode cX9_rain 1 = .ok (.bipush (-9), 2) := by decide +kernel
theorem dX9_rain_3 : decode cX9_rain 3 = .ok (.if_icmp .eq 17, 3) := by decide +kernel
theorem dX9_rain_6 : decode cX9_rain 6 = .ok (.iload_n 1, 1) := by decide +kernel
theorem dX9_rain_7 : decode cX9_rain 7 = .ok (.ifCond .lt 10, 3) := by decide +kernel
theorem dX9_rain_10 : decode cX9_rain 10 = .ok (.iload_n 1, 1) := by decide +kernel
theorem dX9_rain_11 : decode cX9_rain 11 = .ok (.sipush 400, 3) := by decide +kernel
theorem dX9_rain_14 : decode cX9_rain 14 = .ok (.if_icmp .lt 6, 3) := by decide +kernel
theorem dX9_rain_17 : decode cX9_rain 17 = .ok (.bipush (-2), 2) := by decide +kernel
theorem dX9_rain_19 : decode cX9_rain 19 = .ok (.ireturn, 1) := by decide +kernel
theorem dX9_rain_20 : decode cX9_rain 20 = .ok (.aload_n 0, 1) := by decide +kernel
theorem dX9_rain_21 : decode cX9_rain 21 = .ok (.invokevirtual 117, 3) := by decide +kernel
theorem dX9_rain_24 : decode cX9_rain 24 = .ok (.ifCond .eq 6, 3) := by decide +kernel
theorem dX9_rain_27 : decode cX9_rain 27 = .ok (.bipush (-3), 2) := by decide +kernel
theorem dX9_rain_29 : decode cX9_rain 29 = .ok (.ireturn, 1) := by decide +kernel
theorem dX9_rain_30 : decode cX9_rain 30 = .ok (.aload_n 0, 1) := by decide +kernel
theorem dX9_rain_31 : decode cX9_rain 31 = .ok (.getfield 12, 3) := by decide +kernel
theorem dX9_rain_34 : decode cX9_rain 34 = .ok (.iload_n 1, 1) := by decide +kernel
theorem dX9_rain_35 : decode cX9_rain 35 = .ok (.putfield 130, 3) := by decide +kernel
theorem dX9_rain_38 : decode cX9_rain 38 = .ok (.aload_n 0, 1) := by decide +kernel
theorem dX9_rain_39 : decode cX9_rain 39 = .ok (.invokevirtual 105, 3) := by decide +kernel
theorem dX9_rain_42 : decode cX9_rain 42 = .ok (.iconst 1, 1) := by decide +kernel
theorem dX9_rain_43 : decode cX9_rain 43 = .ok (.ireturn, 1) := by decide +kernel
theorem dX9_group_0 : decode cX9_group 0 = .ok (.iload_n 1, 1) := by decide +kernel
theorem dX9_group_1 : decode cX9_group 1 = .ok (.invokestatic 133, 3) := by decide +kernel
theorem dX9_group_4 : decode cX9_group 4 = .ok (.ifCond .ne 24, 3) := by decide +kernel
theorem dX9_group_7 : decode cX9_group 7 = .ok (.iload_n 2, 1) := by decide +kernel
theorem dX9_group_8 : decode cX9_group 8 = .ok (.iconst 1, 1) := by decide +kernel
theorem dX9_group_9 : decode cX9_group 9 = .ok (.if_icmp .lt 19, 3) := by decide +kernel
theorem dX9_group_12 : decode cX9_group 12 = .ok (.iload_n 2, 1) := by decide +kernel
theorem dX9_group_13 : decode cX9_group 13 = .ok (.bipush 6, 2) := by decide +kernel
theorem dX9_group_15 : decode cX9_group 15 = .ok (.if_icmp .gt 13, 3) := by decide +kernel
theorem dX9_group_18 : decode cX9_group 18 = .ok (.iload_n 3, 1) := by decide +kernel
theorem dX9_group_19 : decode cX9_group 19 = .ok (.ifCond .lt 9, 3) := by decide +kernel
theorem dX9_group_22 : decode cX9_group 22 = .ok (.iload_n 3, 1) := by decide +kernel
theorem dX9_group_23 : decode cX9_group 23 = .ok (.bipush 99, 2) := by decide +kernel
theorem dX9_group_25 : decode cX9_group 25 = .ok (.if_icmp .le 6, 3) := by decide +kernel
theorem dX9_group_28 : decode cX9_group 28 = .ok (.bipush (-2), 2) := by decide +kernel
theorem dX9_group_30 : decode cX9_group 30 = .ok (.ireturn, 1) := by decide +kernel
theorem dX9_group_31 : decode cX9_group 31 = .ok (.iload 4, 2) := by decide +kernel
theorem dX9_group_33 : decode cX9_group 33 = .ok (.iconst 1, 1) := by decide +kernel
theorem dX9_group_34 : decode cX9_group 34 = .ok (.if_icmp .lt 33, 3) := by decide +kernel
theorem dX9_group_37 : decode cX9_group 37 = .ok (.iload 4, 2) := by decide +kernel
theorem dX9_group_39 : decode cX9_group 39 = .ok (.bipush 60, 2) := by decide +kernel
theorem dX9_group_41 : decode cX9_group 41 = .ok (.if_icmp .gt 26, 3) := by decide +kernel
theorem dX9_group_44 : decode cX9_group 44 = .ok (.iload 5, 2) := by decide +kernel
theorem dX9_group_46 : decode cX9_group 46 = .ok (.ifCond .lt 21, 3) := by decide +kernel
theorem dX9_group_49 : decode cX9_group 49 = .ok (.iload 5, 2) := by decide +kernel
theorem dX9_group_51 : decode cX9_group 51 = .ok (.iconst 2, 1) := by decide +kernel
theorem dX9_group_52 : decode cX9_group 52 = .ok (.if_icmp .gt 15, 3) := by decide +kernel
theorem dX9_group_55 : decode cX9_group 55 = .ok (.iload 6, 2) := by decide +kernel
theorem dX9_group_57 : decode cX9_group 57 = .ok (.ifCond .lt 10, 3) := by decide +kernel
theorem dX9_group_60 : decode cX9_group 60 = .ok (.iload 6, 2) := by decide +kernel
theorem dX9_group_62 : decode cX9_group 62 = .ok (.bipush 6, 2) := by decide +kernel
theorem dX9_group_64 : decode cX9_group 64 = .ok (.if_icmp .le 6, 3) := by decide +kernel
theorem dX9_group_67 : decode cX9_group 67 = .ok (.bipush (-2), 2) := by decide +kernel
theorem dX9_group_69 : decode cX9_group 69 = .ok (.ireturn, 1) := by decide +kernel
theorem dX9_group_70 : decode cX9_group 70 = .ok (.aload_n 0, 1) := by decide +kernel
theorem dX9_group_71 : decode cX9_group 71 = .ok (.invokevirtual 117, 3) := by decide +kernel
theorem dX9_group_74 : decode cX9_group 74 = .ok (.ifCond .eq 6, 3) := by decide +kernel
theorem dX9_group_77 : decode cX9_group 77 = .ok (.bipush (-3), 2) := by decide +kernel
theorem dX9_group_79 : decode cX9_group 79 = .ok (.ireturn, 1) := by decide +kernel
theorem dX9_group_80 : decode cX9_group 80 = .ok (.aload_n 0, 1) := by decide +kernel
theorem dX9_group_81 : decode cX9_group 81 = .ok (.getfield 24, 3) := by decide +kernel
theorem dX9_group_84 : decode cX9_group 84 = .ok (.getfield 102, 3) := by decide +kernel
theorem dX9_group_87 : decode cX9_group 87 = .ok (.istore 7, 2) := by decide +kernel
theorem dX9_group_89 : decode cX9_group 89 = .ok (.iload 7, 2) := by decide +kernel
theorem dX9_group_91 : decode cX9_group 91 = .ok (.bipush 8, 2) := by decide +kernel
theorem dX9_group_93 : decode cX9_group 93 = .ok (.if_icmp .lt 6, 3) := by decide +kernel
theorem dX9_group_96 : decode cX9_group 96 = .ok (.bipush (-4), 2) := by decide +kernel
theorem dX9_group_98 : decode cX9_group 98 = .ok (.ireturn, 1) := by decide +kernel
theorem dX9_group_99 : decode cX9_group 99 = .ok (.iload_n 1, 1) := by decide +kernel
theorem dX9_group_100 : decode cX9_group 100 = .ok (.ifCond .ne 33, 3) := by decide +kernel
theorem dX9_group_103 : decode cX9_group 103 = .ok (.aload_n 0, 1) := by decide +kernel
theorem dX9_group_104 : decode cX9_group 104 = .ok (.getfield 24, 3) := by decide +kernel
theorem dX9_group_107 : decode cX9_group 107 = .ok (.getfield 136, 3) := by decide +kernel
theorem dX9_group_110 : decode cX9_group 110 = .ok (.iload 7, 2) := by decide +kernel
theorem dX9_group_112 : decode cX9_group 112 = .ok (.new 140, 3) := by decide +kernel
theorem dX9_group_115 : decode cX9_group 115 = .ok (.dup, 1) := by decide +kernel
theorem dX9_group_116 : decode cX9_group 116 = .ok (.iload 7, 2) := by decide +kernel
theorem dX9_group_118 : decode cX9_group 118 = .ok (.iload_n 2, 1) := by decide +kernel
theorem dX9_group_119 : decode cX9_group 119 = .ok (.iload_n 3, 1) := by decide +kernel
theorem dX9_group_120 : decode cX9_group 120 = .ok (.iload 4, 2) := by decide +kernel
theorem dX9_group_122 : decode cX9_group 122 = .ok (.iload 5, 2) := by decide +kernel
theorem dX9_group_124 : decode cX9_group 124 = .ok (.iload 6, 2) := by decide +kernel
theorem dX9_group_126 : decode cX9_group 126 = .ok (.invokespecial 142, 3) := by decide +kernel
theorem dX9_group_129 : decode cX9_group 129 = .ok (.aastore, 1) := by decide +kernel
theorem dX9_group_130 : decode cX9_group 130 = .ok (.goto 65, 3) := by decide +kernel
theorem dX9_group_133 : decode cX9_group 133 = .ok (.iload_n 1, 1) := by decide +kernel
theorem dX9_group_134 : decode cX9_group 134 = .ok (.iconst 1, 1) := by decide +kernel
theorem dX9_group_135 : decode cX9_group 135 = .ok (.if_icmp .ne 33, 3) := by decide +kernel
theorem dX9_group_138 : decode cX9_group 138 = .ok (.aload_n 0, 1) := by decide +kernel
theorem dX9_group_139 : decode cX9_group 139 = .ok (.getfield 24, 3) := by decide +kernel
theorem dX9_group_142 : decode cX9_group 142 = .ok (.getfield 136, 3) := by decide +kernel
theorem dX9_group_145 : decode cX9_group 145 = .ok (.iload 7, 2) := by decide +kernel
theorem dX9_group_147 : decode cX9_group 147 = .ok (.new 145, 3) := by decide +kernel
theorem dX9_group_150 : decode cX9_group 150 = .ok (.dup, 1) := by decide +kernel
theorem dX9_group_151 : decode cX9_group 151 = .ok (.iload 7, 2) := by decide +kernel
theorem dX9_group_153 : decode cX9_group 153 = .ok (.iload_n 2, 1) := by decide +kernel
theorem dX9_group_154 : decode cX9_group 154 = .ok (.iload_n 3, 1) := by decide +kernel
theorem dX9_group_155 : decode cX9_group 155 = .ok (.iload 4, 2) := by decide +kernel
theorem dX9_group_157 : decode cX9_group 157 = .ok (.iload 5, 2) := by decide +kernel
theorem dX9_group_159 : decode cX9_group 159 = .ok (.iload 6, 2) := by decide +kernel
theorem dX9_group_161 : decode cX9_group 161 = .ok (.invokespecial 147, 3) := by decide +kernel
theorem dX9_group_164 : decode cX9_group 164 = .ok (.aastore, 1) := by decide +kernel
theorem dX9_group_165 : decode cX9_group 165 = .ok (.goto 30, 3) := by decide +kernel
theorem dX9_group_168 : decode cX9_group 168 = .ok (.aload_n 0, 1) := by decide +kernel
theorem dX9_group_169 : decode cX9_group 169 = .ok (.getfield 24, 3) := by decide +kernel
theorem dX9_group_172 : decode cX9_group 172 = .ok (.getfield 136, 3) := by decide +kernel
theorem dX9_group_175 : decode cX9_group 175 = .ok (.iload 7, 2) := by decide +kernel
theorem dX9_group_177 : decode cX9_group 177 = .ok (.new 148, 3) := by decide +kernel
theorem dX9_group_180 : decode cX9_group 180 = .ok (.dup, 1) := by decide +kernel
theorem dX9_group_181 : decode cX9_group 181 = .ok (.iload 7, 2) := by decide +kernel
theorem dX9_group_183 : decode cX9_group 183 = .ok (.iload_n 2, 1) := by decide +kernel
theorem dX9_group_184 : decode cX9_group 184 = .ok (.iload_n 3, 1) := by decide +kernel
theorem dX9_group_185 : decode cX9_group 185 = .ok (.iload 4, 2) := by decide +kernel
theorem dX9_group_187 : decode cX9_group 187 = .ok (.iload 5, 2) := by decide +kernel
theorem dX9_group_189 : decode cX9_group 189 = .ok (.iload 6, 2) := by decide +kernel
theorem dX9_group_191 : decode cX9_group 191 = .ok (.invokespecial 150, 3) := by decide +kernel
theorem dX9_group_194 : decode cX9_group 194 = .ok (.aastore, 1) := by decide +kernel
theorem dX9_group_195 : decode cX9_group 195 = .ok (.aload_n 0, 1) := by decide +kernel
theorem dX9_group_196 : decode cX9_group 196 = .ok (.getfield 24, 3) := by decide +kernel
theorem dX9_group_199 : decode cX9_group 199 = .ok (.iload 7, 2) := by decide +kernel
theorem dX9_group_201 : decode cX9_group 201 = .ok (.iconst 1, 1) := by decide +kernel
theorem dX9_group_202 : decode cX9_group 202 = .ok (.iadd, 1) := by decide +kernel
theorem dX9_group_203 : decode cX9_group 203 = .ok (.putfield 102, 3) := by decide +kernel
theorem dX9_group_206 : decode cX9_group 206 = .ok (.aload_n 0, 1) := by decide +kernel
theorem dX9_group_207 : decode cX9_group 207 = .ok (.invokevirtual 105, 3) := by decide +kernel
theorem dX9_group_210 : decode cX9_group 210 = .ok (.iload 7, 2) := by decide +kernel
theorem dX9_group_212 : decode cX9_group 212 = .ok (.ireturn, 1) := by decide +kernel
theorem dX9_ofGroup_0 : decode cX9_ofGroup 0 = .ok (.aload_n 0, 1) := by decide +kernel
theorem dX9_ofGroup_1 : decode cX9_ofGroup 1 = .ok (.getfield 24, 3) := by decide +kernel
theorem dX9_ofGroup_4 : decode cX9_ofGroup 4 = .ok (.iload_n 1, 1) := by decide +kernel
theorem dX9_ofGroup_5 : decode cX9_ofGroup 5 = .ok (.invokevirtual 151, 3) := by decide +kernel
theorem dX9_ofGroup_8 : decode cX9_ofGroup 8 = .ok (.astore_n 3, 1) := by decide +kernel
theorem dX9_ofGroup_9 : decode cX9_ofGroup 9 = .ok (.aload_n 3, 1) := by decide +kernel
theorem dX9_ofGroup_10 : decode cX9_ofGroup 10 = .ok (.ifnonnull 5, 3) := by decide +kernel
theorem dX9_ofGroup_13 : decode cX9_ofGroup 13 = .ok (.iconst (-1), 1) := by decide +kernel
theorem dX9_ofGroup_14 : decode cX9_ofGroup 14 = .ok (.ireturn, 1) := by decide +kernel
theorem dX9_ofGroup_15 : decode cX9_ofGroup 15 = .ok (.iload_n 2, 1) := by decide +kernel
theorem dX9_ofGroup_16 : decode cX9_ofGroup 16 = .ok (.tableswitch 80 0 6 #[44, 49, 54, 59, 64, 69, 74], 44) := by decide +kernel
theorem dX9_ofGroup_60 : decode cX9_ofGroup 60 = .ok (.aload_n 3, 1) := by decide +kernel
theorem dX9_ofGroup_61 : decode cX9_ofGroup 61 = .ok (.invokevirtual 155, 3) := by decide +kernel
theorem dX9_ofGroup_64 : decode cX9_ofGroup 64 = .ok (.ireturn, 1) := by decide +kernel
theorem dX9_ofGroup_65 : decode cX9_ofGroup 65 = .ok (.aload_n 3, 1) := by decide +kernel
theorem dX9_ofGroup_66 : decode cX9_ofGroup 66 = .ok (.getfield 159, 3) := by decide +kernel
theorem dX9_ofGroup_69 : decode cX9_ofGroup 69 = .ok (.ireturn, 1) := by decide +kernel
theorem dX9_ofGroup_70 : decode cX9_ofGroup 70 = .ok (.aload_n 3, 1) := by decide +kernel
theorem dX9_ofGroup_71 : decode cX9_ofGroup 71 = .ok (.getfield 162, 3) := by decide +kernel
theorem dX9_ofGroup_74 : decode cX9_ofGroup 74 = .ok (.ireturn, 1) := by decide +kernel
theorem dX9_ofGroup_75 : decode cX9_ofGroup 75 = .ok (.aload_n 3, 1) := by decide +kernel
theorem dX9_ofGroup_76 : decode cX9_ofGroup 76 = .ok (.getfield 165, 3) := by decide +kernel
theorem dX9_ofGroup_79 : decode cX9_ofGroup 79 = .ok (.ireturn, 1) := by decide +kernel
theorem dX9_ofGroup_80 : decode cX9_ofGroup 80 = .ok (.aload_n 3, 1) := by decide +kernel
theorem dX9_ofGroup_81 : decode cX9_ofGroup 81 = .ok (.getfield 168, 3) := by decide +kernel
theorem dX9_ofGroup_84 : decode cX9_ofGroup 84 = .ok (.ireturn, 1) := by decide +kernel
theorem dX9_ofGroup_85 : decode cX9_ofGroup 85 = .ok (.aload_n 3, 1) := by decide +kernel
theorem dX9_ofGroup_86 : decode cX9_ofGroup 86 = .ok (.getfield 171, 3) := by decide +kernel
theorem dX9_ofGroup_89 : decode cX9_ofGroup 89 = .ok (.ireturn, 1) := by decide +kernel
theorem dX9_ofGroup_90 : decode cX9_ofGroup 90 = .ok (.aload_n 3, 1) := by decide +kernel
theorem dX9_ofGroup_91 : decode cX9_ofGroup 91 = .ok (.iconst 0, 1) := by decide +kernel
theorem dX9_ofGroup_92 : decode cX9_ofGroup 92 = .ok (.invokevirtual 174, 3) := by decide +kernel
theorem dX9_ofGroup_95 : decode cX9_ofGroup 95 = .ok (.ireturn, 1) := by decide +kernel
theorem dX9_ofGroup_96 : decode cX9_ofGroup 96 = .ok (.bipush (-2), 2) := by decide +kernel
theorem dX9_ofGroup_98 : decode cX9_ofGroup 98 = .ok (.ireturn, 1) := by decide +kernel
theorem dX9_day_0 : decode cX9_day 0 = .ok (.aload_n 0, 1) := by decide +kernel
theorem dX9_day_1 : decode cX9_day 1 = .ok (.getfield 24, 3) := by decide +kernel
theorem dX9_day_4 : decode cX9_day 4 = .ok (.iload_n 1, 1) := by decide +kernel
theorem dX9_day_5 : decode cX9_day 5 = .ok (.invokevirtual 151, 3) := by decide +kernel
theorem dX9_day_8 : decode cX9_day 8 = .ok (.astore_n 3, 1) := by decide +kernel
theorem dX9_day_9 : decode cX9_day 9 = .ok (.aload_n 3, 1) := by decide +kernel
theorem dX9_day_10 : decode cX9_day 10 = .ok (.ifnonnull 5, 3) := by decide +kernel
theorem dX9_day_13 : decode cX9_day 13 = .ok (.iconst (-1), 1) := by decide +kernel
theorem dX9_day_14 : decode cX9_day 14 = .ok (.ireturn, 1) := by decide +kernel
theorem dX9_day_15 : decode cX9_day 15 = .ok (.iload_n 2, 1) := by decide +kernel
theorem dX9_day_16 : decode cX9_day 16 = .ok (.ifCond .lt 8, 3) := by decide +kernel
theorem dX9_day_19 : decode cX9_day 19 = .ok (.iload_n 2, 1) := by decide +kernel
theorem dX9_day_20 : decode cX9_day 20 = .ok (.iconst 5, 1) := by decide +kernel
theorem dX9_day_21 : decode cX9_day 21 = .ok (.if_icmp .le 6, 3) := by decide +kernel
theorem dX9_day_24 : decode cX9_day 24 = .ok (.bipush (-2), 2) := by decide +kernel
theorem dX9_day_26 : decode cX9_day 26 = .ok (.ireturn, 1) := by decide +kernel
theorem dX9_day_27 : decode cX9_day 27 = .ok (.aload_n 0, 1) := by decide +kernel
theorem dX9_day_28 : decode cX9_day 28 = .ok (.invokevirtual 178, 3) := by decide +kernel
theorem dX9_day_31 : decode cX9_day 31 = .ok (.iload_n 2, 1) := by decide +kernel
theorem dX9_day_32 : decode cX9_day 32 = .ok (.tableswitch 85 0 4 #[36, 46, 56, 66, 76], 36) := by decide +kernel
theorem dX9_day_68 : decode cX9_day 68 = .ok (.aload_n 0, 1) := by decide +kernel
theorem dX9_day_69 : decode cX9_day 69 = .ok (.getfield 47, 3) := by decide +kernel
theorem dX9_day_72 : decode cX9_day 72 = .ok (.getfield 181, 3) := by decide +kernel
theorem dX9_day_75 : decode cX9_day 75 = .ok (.iload_n 1, 1) := by decide +kernel
theorem dX9_day_76 : decode cX9_day 76 = .ok (.iaload, 1) := by decide +kernel
theorem dX9_day_77 : decode cX9_day 77 = .ok (.ireturn, 1) := by decide +kernel
theorem dX9_day_78 : decode cX9_day 78 = .ok (.aload_n 0, 1) := by decide +kernel
theorem dX9_day_79 : decode cX9_day 79 = .ok (.getfield 47, 3) := by decide +kernel
theorem dX9_day_82 : decode cX9_day 82 = .ok (.getfield 184, 3) := by decide +kernel
theorem dX9_day_85 : decode cX9_day 85 = .ok (.iload_n 1, 1) := by decide +kernel
theorem dX9_day_86 : decode cX9_day 86 = .ok (.iaload, 1) := by decide +kernel
theorem dX9_day_87 : decode cX9_day 87 = .ok (.ireturn, 1) := by decide +kernel
theorem dX9_day_88 : decode cX9_day 88 = .ok (.aload_n 0, 1) := by decide +kernel
theorem dX9_day_89 : decode cX9_day 89 = .ok (.getfield 47, 3) := by decide +kernel
theorem dX9_day_92 : decode cX9_day 92 = .ok (.getfield 187, 3) := by decide +kernel
theorem dX9_day_95 : decode cX9_day 95 = .ok (.iload_n 1, 1) := by decide +kernel
theorem dX9_day_96 : decode cX9_day 96 = .ok (.iaload, 1) := by decide +kernel
theorem dX9_day_97 : decode cX9_day 97 = .ok (.ireturn, 1) := by decide +kernel
theorem dX9_day_98 : decode cX9_day 98 = .ok (.aload_n 0, 1) := by decide +kernel
theorem dX9_day_99 : decode cX9_day 99 = .ok (.getfield 47, 3) := by decide +kernel
theorem dX9_day_102 : decode cX9_day 102 = .ok (.getfield 190, 3) := by decide +kernel
theorem dX9_day_105 : decode cX9_day 105 = .ok (.iload_n 1, 1) := by decide +kernel
theorem dX9_day_106 : decode cX9_day 106 = .ok (.iaload, 1) := by decide +kernel
theorem dX9_day_107 : decode cX9_day 107 = .ok (.ireturn, 1) := by decide +kernel
theorem dX9_day_108 : decode cX9_day 108 = .ok (.aload_n 0, 1) := by decide +kernel
theorem dX9_day_109 : decode cX9_day 109 = .ok (.getfield 47, 3) := by decide +kernel
theorem dX9_day_112 : decode cX9_day 112 = .ok (.iload_n 1, 1) := by decide +kernel
theorem dX9_day_113 : decode cX9_day 113 = .ok (.invokevirtual 193, 3) := by decide +kernel
theorem dX9_day_116 : decode cX9_day 116 = .ok (.ireturn, 1) := by decide +kernel
theorem dX9_day_117 : decode cX9_day 117 = .ok (.aload_n 0, 1) := by decide +kernel
theorem dX9_day_118 : decode cX9_day 118 = .ok (.getfield 47, 3) := by decide +kernel
theorem dX9_day_121 : decode cX9_day 121 = .ok (.getfield 196, 3) := by decide +kernel
theorem dX9_day_124 : decode cX9_day 124 = .ok (.iload_n 1, 1) := by decide +kernel
theorem dX9_day_125 : decode cX9_day 125 = .ok (.iaload, 1) := by decide +kernel
theorem dX9_day_126 : decode cX9_day 126 = .ok (.ireturn, 1) := by decide +kernel
theorem dX9_taken_0 : decode cX9_taken 0 = .ok (.iload_n 1, 1) := by decide +kernel
theorem dX9_taken_1 : decode cX9_taken 1 = .ok (.ifCond .lt 19, 3) := by decide +kernel
theorem dX9_taken_4 : decode cX9_taken 4 = .ok (.iload_n 1, 1) := by decide +kernel
theorem dX9_taken_5 : decode cX9_taken 5 = .ok (.sipush 400, 3) := by decide +kernel
theorem dX9_taken_8 : decode cX9_taken 8 = .ok (.if_icmp .ge 12, 3) := by decide +kernel
theorem dX9_taken_11 : decode cX9_taken 11 = .ok (.iload_n 2, 1) := by decide +kernel
theorem dX9_taken_12 : decode cX9_taken 12 = .ok (.ifCond .lt 8, 3) := by decide +kernel
theorem dX9_taken_15 : decode cX9_taken 15 = .ok (.iload_n 2, 1) := by decide +kernel
theorem dX9_taken_16 : decode cX9_taken 16 = .ok (.iconst 1, 1) := by decide +kernel
theorem dX9_taken_17 : decode cX9_taken 17 = .ok (.if_icmp .le 6, 3) := by decide +kernel
theorem dX9_taken_20 : decode cX9_taken 20 = .ok (.bipush (-2), 2) := by decide +kernel
theorem dX9_taken_22 : decode cX9_taken 22 = .ok (.ireturn, 1) := by decide +kernel
theorem dX9_taken_23 : decode cX9_taken 23 = .ok (.aload_n 0, 1) := by decide +kernel
theorem dX9_taken_24 : decode cX9_taken 24 = .ok (.invokevirtual 117, 3) := by decide +kernel
theorem dX9_taken_27 : decode cX9_taken 27 = .ok (.ifCond .eq 6, 3) := by decide +kernel
theorem dX9_taken_30 : decode cX9_taken 30 = .ok (.bipush (-3), 2) := by decide +kernel
theorem dX9_taken_32 : decode cX9_taken 32 = .ok (.ireturn, 1) := by decide +kernel
theorem dX9_taken_33 : decode cX9_taken 33 = .ok (.aload_n 0, 1) := by decide +kernel
theorem dX9_taken_34 : decode cX9_taken 34 = .ok (.getfield 51, 3) := by decide +kernel
theorem dX9_taken_37 : decode cX9_taken 37 = .ok (.aload_n 0, 1) := by decide +kernel
theorem dX9_taken_38 : decode cX9_taken 38 = .ok (.getfield 12, 3) := by decide +kernel
theorem dX9_taken_41 : decode cX9_taken 41 = .ok (.iconst (-1), 1) := by decide +kernel
theorem dX9_taken_42 : decode cX9_taken 42 = .ok (.iload_n 1, 1) := by decide +kernel
theorem dX9_taken_43 : decode cX9_taken 43 = .ok (.invokevirtual 199, 3) := by decide +kernel
theorem dX9_taken_46 : decode cX9_taken 46 = .ok (.pop, 1) := by decide +kernel
theorem dX9_taken_47 : decode cX9_taken 47 = .ok (.iload_n 2, 1) := by decide +kernel
theorem dX9_taken_48 : decode cX9_taken 48 = .ok (.ifCond .ne 13, 3) := by decide +kernel
theorem dX9_taken_51 : decode cX9_taken 51 = .ok (.aload_n 0, 1) := by decide +kernel
theorem dX9_taken_52 : decode cX9_taken 52 = .ok (.getfield 51, 3) := by decide +kernel
theorem dX9_taken_55 : decode cX9_taken 55 = .ok (.invokevirtual 203, 3) := by decide +kernel
theorem dX9_taken_58 : decode cX9_taken 58 = .ok (.goto 11, 3) := by decide +kernel
theorem dX9_taken_61 : decode cX9_taken 61 = .ok (.aload_n 0, 1) := by decide +kernel
theorem dX9_taken_62 : decode cX9_taken 62 = .ok (.getfield 51, 3) := by decide +kernel
theorem dX9_taken_65 : decode cX9_taken 65 = .ok (.iconst (-1), 1) := by decide +kernel
theorem dX9_taken_66 : decode cX9_taken 66 = .ok (.invokevirtual 206, 3) := by decide +kernel
theorem dX9_taken_69 : decode cX9_taken 69 = .ok (.ireturn, 1) := by decide +kernel
theorem dX9_coin_0 : decode cX9_coin 0 = .ok (.aload_n 0, 1) := by decide +kernel
theorem dX9_coin_1 : decode cX9_coin 1 = .ok (.invokevirtual 117, 3) := by decide +kernel
theorem dX9_coin_4 : decode cX9_coin 4 = .ok (.ifCond .eq 6, 3) := by decide +kernel
theorem dX9_coin_7 : decode cX9_coin 7 = .ok (.bipush (-3), 2) := by decide +kernel
theorem dX9_coin_9 : decode cX9_coin 9 = .ok (.ireturn, 1) := by decide +kernel
theorem dX9_coin_10 : decode cX9_coin 10 = .ok (.aload_n 0, 1) := by decide +kernel
theorem dX9_coin_11 : decode cX9_coin 11 = .ok (.invokevirtual 178, 3) := by decide +kernel
theorem dX9_coin_14 : decode cX9_coin 14 = .ok (.aload_n 0, 1) := by decide +kernel
theorem dX9_coin_15 : decode cX9_coin 15 = .ok (.getfield 47, 3) := by decide +kernel
theorem dX9_coin_18 : decode cX9_coin 18 = .ok (.invokevirtual 209, 3) := by decide +kernel
theorem dX9_coin_21 : decode cX9_coin 21 = .ok (.ireturn, 1) := by decide +kernel
theorem dX9_worth_0 : decode cX9_worth 0 = .ok (.aload_n 0, 1) := by decide +kernel
theorem dX9_worth_1 : decode cX9_worth 1 = .ok (.getfield 24, 3) := by decide +kernel
theorem dX9_worth_4 : decode cX9_worth 4 = .ok (.iload_n 1, 1) := by decide +kernel
theorem dX9_worth_5 : decode cX9_worth 5 = .ok (.invokevirtual 151, 3) := by decide +kernel
theorem dX9_worth_8 : decode cX9_worth 8 = .ok (.ifnonnull 7, 3) := by decide +kernel
theorem dX9_worth_11 : decode cX9_worth 11 = .ok (.ldc2_w 212, 3) := by decide +kernel
theorem dX9_worth_14 : decode cX9_worth 14 = .ok (.lreturn, 1) := by decide +kernel
theorem dX9_worth_15 : decode cX9_worth 15 = .ok (.aload_n 0, 1) := by decide +kernel
theorem dX9_worth_16 : decode cX9_worth 16 = .ok (.invokevirtual 178, 3) := by decide +kernel
theorem dX9_worth_19 : decode cX9_worth 19 = .ok (.aload_n 0, 1) := by decide +kernel
theorem dX9_worth_20 : decode cX9_worth 20 = .ok (.getfield 51, 3) := by decide +kernel
theorem dX9_worth_23 : decode cX9_worth 23 = .ok (.aload_n 0, 1) := by decide +kernel
theorem dX9_worth_24 : decode cX9_worth 24 = .ok (.getfield 12, 3) := by decide +kernel
theorem dX9_worth_27 : decode cX9_worth 27 = .ok (.iload_n 1, 1) := by decide +kernel
theorem dX9_worth_28 : decode cX9_worth 28 = .ok (.sipush 399, 3) := by decide +kernel
theorem dX9_worth_31 : decode cX9_worth 31 = .ok (.invokevirtual 199, 3) := by decide +kernel
theorem dX9_worth_34 : decode cX9_worth 34 = .ok (.istore_n 2, 1) := by decide +kernel
theorem dX9_worth_35 : decode cX9_worth 35 = .ok (.aload_n 0, 1) := by decide +kernel
theorem dX9_worth_36 : decode cX9_worth 36 = .ok (.getfield 47, 3) := by decide +kernel
theorem dX9_worth_39 : decode cX9_worth 39 = .ok (.invokevirtual 209, 3) := by decide +kernel
theorem dX9_worth_42 : decode cX9_worth 42 = .ok (.i2l, 1) := by decide +kernel
theorem dX9_worth_43 : decode cX9_worth 43 = .ok (.iload_n 2, 1) := by decide +kernel
theorem dX9_worth_44 : decode cX9_worth 44 = .ok (.i2l, 1) := by decide +kernel
theorem dX9_worth_45 : decode cX9_worth 45 = .ok (.lsub, 1) := by decide +kernel
theorem dX9_worth_46 : decode cX9_worth 46 = .ok (.lreturn, 1) := by decide +kernel
theorem dX9_plan_0 : decode cX9_plan 0 = .ok (.iload_n 1, 1) := by decide +kernel
theorem dX9_plan_1 : decode cX9_plan 1 = .ok (.iconst (-1), 1) := by decide +kernel
theorem dX9_plan_2 : decode cX9_plan 2 = .ok (.if_icmp .lt 19, 3) := by decide +kernel
theorem dX9_plan_5 : decode cX9_plan 5 = .ok (.iload_n 1, 1) := by decide +kernel
theorem dX9_plan_6 : decode cX9_plan 6 = .ok (.aload_n 0, 1) := by decide +kernel
theorem dX9_plan_7 : decode cX9_plan 7 = .ok (.getfield 24, 3) := by decide +kernel
theorem dX9_plan_10 : decode cX9_plan 10 = .ok (.getfield 102, 3) := by decide +kernel
theorem dX9_plan_13 : decode cX9_plan 13 = .ok (.bipush 6, 2) := by decide +kernel
theorem dX9_plan_15 : decode cX9_plan 15 = .ok (.invokestatic 214, 3) := by decide +kernel
theorem dX9_plan_18 : decode cX9_plan 18 = .ok (.if_icmp .lt 5, 3) := by decide +kernel
theorem dX9_plan_21 : decode cX9_plan 21 = .ok (.iconst (-1), 1) := by decide +kernel
theorem dX9_plan_22 : decode cX9_plan 22 = .ok (.ireturn, 1) := by decide +kernel
theorem dX9_plan_23 : decode cX9_plan 23 = .ok (.aload_n 0, 1) := by decide +kernel
theorem dX9_plan_24 : decode cX9_plan 24 = .ok (.invokevirtual 117, 3) := by decide +kernel
theorem dX9_plan_27 : decode cX9_plan 27 = .ok (.ifCond .eq 6, 3) := by decide +kernel
theorem dX9_plan_30 : decode cX9_plan 30 = .ok (.bipush (-3), 2) := by decide +kernel
theorem dX9_plan_32 : decode cX9_plan 32 = .ok (.ireturn, 1) := by decide +kernel
theorem dX9_plan_33 : decode cX9_plan 33 = .ok (.aload_n 0, 1) := by decide +kernel
theorem dX9_plan_34 : decode cX9_plan 34 = .ok (.getfield 220, 3) := by decide +kernel
theorem dX9_plan_37 : decode cX9_plan 37 = .ok (.ifCond .ne 15, 3) := by decide +kernel
theorem dX9_plan_40 : decode cX9_plan 40 = .ok (.aload_n 0, 1) := by decide +kernel
theorem dX9_plan_41 : decode cX9_plan 41 = .ok (.getfield 57, 3) := by decide +kernel
theorem dX9_plan_44 : decode cX9_plan 44 = .ok (.invokevirtual 223, 3) := by decide +kernel
theorem dX9_plan_47 : decode cX9_plan 47 = .ok (.aload_n 0, 1) := by decide +kernel
theorem dX9_plan_48 : decode cX9_plan 48 = .ok (.iconst 1, 1) := by decide +kernel
theorem dX9_plan_49 : decode cX9_plan 49 = .ok (.putfield 220, 3) := by decide +kernel
theorem dX9_plan_52 : decode cX9_plan 52 = .ok (.iload_n 1, 1) := by decide +kernel
theorem dX9_plan_53 : decode cX9_plan 53 = .ok (.iconst (-1), 1) := by decide +kernel
theorem dX9_plan_54 : decode cX9_plan 54 = .ok (.if_icmp .ne 13, 3) := by decide +kernel
theorem dX9_plan_57 : decode cX9_plan 57 = .ok (.aload_n 0, 1) := by decide +kernel
theorem dX9_plan_58 : decode cX9_plan 58 = .ok (.getfield 57, 3) := by decide +kernel
theorem dX9_plan_61 : decode cX9_plan 61 = .ok (.getfield 226, 3) := by decide +kernel
theorem dX9_plan_64 : decode cX9_plan 64 = .ok (.goto 12, 3) := by decide +kernel
theorem dX9_plan_67 : decode cX9_plan 67 = .ok (.aload_n 0, 1) := by decide +kernel
theorem dX9_plan_68 : decode cX9_plan 68 = .ok (.getfield 57, 3) := by decide +kernel
theorem dX9_plan_71 : decode cX9_plan 71 = .ok (.getfield 229, 3) := by decide +kernel
theorem dX9_plan_74 : decode cX9_plan 74 = .ok (.iload_n 1, 1) := by decide +kernel
theorem dX9_plan_75 : decode cX9_plan 75 = .ok (.iaload, 1) := by decide +kernel
theorem dX9_plan_76 : decode cX9_plan 76 = .ok (.ireturn, 1) := by decide +kernel
theorem dX9_bestRule_0 : decode cX9_bestRule 0 = .ok (.iload_n 1, 1) := by decide +kernel
theorem dX9_bestRule_1 : decode cX9_bestRule 1 = .ok (.ifCond .lt 8, 3) := by decide +kernel
theorem dX9_bestRule_4 : decode cX9_bestRule 4 = .ok (.iload_n 1, 1) := by decide +kernel
theorem dX9_bestRule_5 : decode cX9_bestRule 5 = .ok (.iconst 1, 1) := by decide +kernel
theorem dX9_bestRule_6 : decode cX9_bestRule 6 = .ok (.if_icmp .le 6, 3) := by decide +kernel
theorem dX9_bestRule_9 : decode cX9_bestRule 9 = .ok (.bipush (-2), 2) := by decide +kernel
theorem dX9_bestRule_11 : decode cX9_bestRule 11 = .ok (.ireturn, 1) := by decide +kernel
theorem dX9_bestRule_12 : decode cX9_bestRule 12 = .ok (.aload_n 0, 1) := by decide +kernel
theorem dX9_bestRule_13 : decode cX9_bestRule 13 = .ok (.invokevirtual 117, 3) := by decide +kernel
theorem dX9_bestRule_16 : decode cX9_bestRule 16 = .ok (.ifCond .eq 6, 3) := by decide +kernel
theorem dX9_bestRule_19 : decode cX9_bestRule 19 = .ok (.bipush (-3), 2) := by decide +kernel
theorem dX9_bestRule_21 : decode cX9_bestRule 21 = .ok (.ireturn, 1) := by decide +kernel
theorem dX9_bestRule_22 : decode cX9_bestRule 22 = .ok (.aload_n 0, 1) := by decide +kernel
theorem dX9_bestRule_23 : decode cX9_bestRule 23 = .ok (.getfield 18, 3) := by decide +kernel
theorem dX9_bestRule_26 : decode cX9_bestRule 26 = .ok (.aload_n 0, 1) := by decide +kernel
theorem dX9_bestRule_27 : decode cX9_bestRule 27 = .ok (.getfield 12, 3) := by decide +kernel
theorem dX9_bestRule_30 : decode cX9_bestRule 30 = .ok (.invokevirtual 232, 3) := by decide +kernel
theorem dX9_bestRule_33 : decode cX9_bestRule 33 = .ok (.iconst 0, 1) := by decide +kernel
theorem dX9_bestRule_34 : decode cX9_bestRule 34 = .ok (.istore_n 2, 1) := by decide +kernel
theorem dX9_bestRule_35 : decode cX9_bestRule 35 = .ok (.iconst (-1), 1) := by decide +kernel
theorem dX9_bestRule_36 : decode cX9_bestRule 36 = .ok (.istore_n 3, 1) := by decide +kernel
theorem dX9_bestRule_37 : decode cX9_bestRule 37 = .ok (.iconst 0, 1) := by decide +kernel
theorem dX9_bestRule_38 : decode cX9_bestRule 38 = .ok (.istore 4, 2) := by decide +kernel
theorem dX9_bestRule_40 : decode cX9_bestRule 40 = .ok (.iload 4, 2) := by decide +kernel
theorem dX9_bestRule_42 : decode cX9_bestRule 42 = .ok (.iconst 2, 1) := by decide +kernel
theorem dX9_bestRule_43 : decode cX9_bestRule 43 = .ok (.if_icmp .gt 47, 3) := by decide +kernel
theorem dX9_bestRule_46 : decode cX9_bestRule 46 = .ok (.aload_n 0, 1) := by decide +kernel
theorem dX9_bestRule_47 : decode cX9_bestRule 47 = .ok (.getfield 18, 3) := by decide +kernel
theorem dX9_bestRule_50 : decode cX9_bestRule 50 = .ok (.iload 4, 2) := by decide +kernel
theorem dX9_bestRule_52 : decode cX9_bestRule 52 = .ok (.putfield 121, 3) := by decide +kernel
theorem dX9_bestRule_55 : decode cX9_bestRule 55 = .ok (.aload_n 0, 1) := by decide +kernel
theorem dX9_bestRule_56 : decode cX9_bestRule 56 = .ok (.getfield 51, 3) := by decide +kernel
theorem dX9_bestRule_59 : decode cX9_bestRule 59 = .ok (.aload_n 0, 1) := by decide +kernel
theorem dX9_bestRule_60 : decode cX9_bestRule 60 = .ok (.getfield 18, 3) := by decide +kernel
theorem dX9_bestRule_63 : decode cX9_bestRule 63 = .ok (.iconst (-1), 1) := by decide +kernel
theorem dX9_bestRule_64 : decode cX9_bestRule 64 = .ok (.sipush 399, 3) := by decide +kernel
theorem dX9_bestRule_67 : decode cX9_bestRule 67 = .ok (.invokevirtual 199, 3) := by decide +kernel
theorem dX9_bestRule_70 : decode cX9_bestRule 70 = .ok (.istore 5, 2) := by decide +kernel
theorem dX9_bestRule_72 : decode cX9_bestRule 72 = .ok (.iload 5, 2) := by decide +kernel
theorem dX9_bestRule_74 : decode cX9_bestRule 74 = .ok (.iload_n 3, 1) := by decide +kernel
theorem dX9_bestRule_75 : decode cX9_bestRule 75 = .ok (.if_icmp .le 9, 3) := by decide +kernel
theorem dX9_bestRule_78 : decode cX9_bestRule 78 = .ok (.iload 5, 2) := by decide +kernel
theorem dX9_bestRule_80 : decode cX9_bestRule 80 = .ok (.istore_n 3, 1) := by decide +kernel
theorem dX9_bestRule_81 : decode cX9_bestRule 81 = .ok (.iload 4, 2) := by decide +kernel
theorem dX9_bestRule_83 : decode cX9_bestRule 83 = .ok (.istore_n 2, 1) := by decide +kernel
theorem dX9_bestRule_84 : decode cX9_bestRule 84 = .ok (.iinc 4 1, 3) := by decide +kernel
theorem dX9_bestRule_87 : decode cX9_bestRule 87 = .ok (.goto (-47), 3) := by decide +kernel
theorem dX9_bestRule_90 : decode cX9_bestRule 90 = .ok (.iload_n 1, 1) := by decide +kernel
theorem dX9_bestRule_91 : decode cX9_bestRule 91 = .ok (.ifCond .ne 7, 3) := by decide +kernel
theorem dX9_bestRule_94 : decode cX9_bestRule 94 = .ok (.iload_n 2, 1) := by decide +kernel
theorem dX9_bestRule_95 : decode cX9_bestRule 95 = .ok (.goto 4, 3) := by decide +kernel
theorem dX9_bestRule_98 : decode cX9_bestRule 98 = .ok (.iload_n 3, 1) := by decide +kernel
theorem dX9_bestRule_99 : decode cX9_bestRule 99 = .ok (.ireturn, 1) := by decide +kernel
theorem dX9_waiting_0 : decode cX9_waiting 0 = .ok (.iload_n 1, 1) := by decide +kernel
theorem dX9_waiting_1 : decode cX9_waiting 1 = .ok (.ifCond .lt 8, 3) := by decide +kernel
theorem dX9_waiting_4 : decode cX9_waiting 4 = .ok (.iload_n 1, 1) := by decide +kernel
theorem dX9_waiting_5 : decode cX9_waiting 5 = .ok (.iconst 1, 1) := by decide +kernel
theorem dX9_waiting_6 : decode cX9_waiting 6 = .ok (.if_icmp .le 6, 3) := by decide +kernel
theorem dX9_waiting_9 : decode cX9_waiting 9 = .ok (.bipush (-2), 2) := by decide +kernel
theorem dX9_waiting_11 : decode cX9_waiting 11 = .ok (.ireturn, 1) := by decide +kernel
theorem dX9_waiting_12 : decode cX9_waiting 12 = .ok (.aload_n 0, 1) := by decide +kernel
theorem dX9_waiting_13 : decode cX9_waiting 13 = .ok (.invokevirtual 117, 3) := by decide +kernel
theorem dX9_waiting_16 : decode cX9_waiting 16 = .ok (.ifCond .eq 6, 3) := by decide +kernel
theorem dX9_waiting_19 : decode cX9_waiting 19 = .ok (.bipush (-3), 2) := by decide +kernel
theorem dX9_waiting_21 : decode cX9_waiting 21 = .ok (.ireturn, 1) := by decide +kernel
theorem dX9_waiting_22 : decode cX9_waiting 22 = .ok (.aload_n 0, 1) := by decide +kernel
theorem dX9_waiting_23 : decode cX9_waiting 23 = .ok (.invokevirtual 236, 3) := by decide +kernel
theorem dX9_waiting_26 : decode cX9_waiting 26 = .ok (.iconst 0, 1) := by decide +kernel
theorem dX9_waiting_27 : decode cX9_waiting 27 = .ok (.istore_n 2, 1) := by decide +kernel
theorem dX9_waiting_28 : decode cX9_waiting 28 = .ok (.iconst 1, 1) := by decide +kernel
theorem dX9_waiting_29 : decode cX9_waiting 29 = .ok (.istore_n 3, 1) := by decide +kernel
theorem dX9_waiting_30 : decode cX9_waiting 30 = .ok (.iload_n 3, 1) := by decide +kernel
theorem dX9_waiting_31 : decode cX9_waiting 31 = .ok (.bipush 30, 2) := by decide +kernel
theorem dX9_waiting_33 : decode cX9_waiting 33 = .ok (.if_icmp .gt 26, 3) := by decide +kernel
theorem dX9_waiting_36 : decode cX9_waiting 36 = .ok (.aload_n 0, 1) := by decide +kernel
theorem dX9_waiting_37 : decode cX9_waiting 37 = .ok (.getfield 61, 3) := by decide +kernel
theorem dX9_waiting_40 : decode cX9_waiting 40 = .ok (.iload_n 3, 1) := by decide +kernel
theorem dX9_waiting_41 : decode cX9_waiting 41 = .ok (.iaload, 1) := by decide +kernel
theorem dX9_waiting_42 : decode cX9_waiting 42 = .ok (.aload_n 0, 1) := by decide +kernel
theorem dX9_waiting_43 : decode cX9_waiting 43 = .ok (.getfield 61, 3) := by decide +kernel
theorem dX9_waiting_46 : decode cX9_waiting 46 = .ok (.iload_n 2, 1) := by decide +kernel
theorem dX9_waiting_47 : decode cX9_waiting 47 = .ok (.iaload, 1) := by decide +kernel
theorem dX9_waiting_48 : decode cX9_waiting 48 = .ok (.if_icmp .le 5, 3) := by decide +kernel
theorem dX9_waiting_51 : decode cX9_waiting 51 = .ok (.iload_n 3, 1) := by decide +kernel
theorem dX9_waiting_52 : decode cX9_waiting 52 = .ok (.istore_n 2, 1) := by decide +kernel
theorem dX9_waiting_53 : decode cX9_waiting 53 = .ok (.iinc 3 1, 3) := by decide +kernel
theorem dX9_waiting_56 : decode cX9_waiting 56 = .ok (.goto (-26), 3) := by decide +kernel
theorem dX9_waiting_59 : decode cX9_waiting 59 = .ok (.iload_n 1, 1) := by decide +kernel
theorem dX9_waiting_60 : decode cX9_waiting 60 = .ok (.ifCond .ne 7, 3) := by decide +kernel
theorem dX9_waiting_63 : decode cX9_waiting 63 = .ok (.iload_n 2, 1) := by decide +kernel
theorem dX9_waiting_64 : decode cX9_waiting 64 = .ok (.goto 9, 3) := by decide +kernel
theorem dX9_waiting_67 : decode cX9_waiting 67 = .ok (.aload_n 0, 1) := by decide +kernel
theorem dX9_waiting_68 : decode cX9_waiting 68 = .ok (.getfield 61, 3) := by decide +kernel
theorem dX9_waiting_71 : decode cX9_waiting 71 = .ok (.iload_n 2, 1) := by decide +kernel
theorem dX9_waiting_72 : decode cX9_waiting 72 = .ok (.iaload, 1) := by decide +kernel
theorem dX9_waiting_73 : decode cX9_waiting 73 = .ok (.ireturn, 1) := by decide +kernel
theorem dX9_mix_0 : decode cX9_mix 0 = .ok (.iload_n 1, 1) := by decide +kernel
theorem dX9_mix_1 : decode cX9_mix 1 = .ok (.iconst 2, 1) := by decide +kernel
theorem dX9_mix_2 : decode cX9_mix 2 = .ok (.if_icmp .lt 18, 3) := by decide +kernel
theorem dX9_mix_5 : decode cX9_mix 5 = .ok (.iload_n 1, 1) := by decide +kernel
theorem dX9_mix_6 : decode cX9_mix 6 = .ok (.bipush 24, 2) := by decide +kernel
theorem dX9_mix_8 : decode cX9_mix 8 = .ok (.if_icmp .gt 12, 3) := by decide +kernel
theorem dX9_mix_11 : decode cX9_mix 11 = .ok (.iload_n 2, 1) := by decide +kernel
theorem dX9_mix_12 : decode cX9_mix 12 = .ok (.ifCond .lt 8, 3) := by decide +kernel
theorem dX9_mix_15 : decode cX9_mix 15 = .ok (.iload_n 2, 1) := by decide +kernel
theorem dX9_mix_16 : decode cX9_mix 16 = .ok (.iconst 3, 1) := by decide +kernel
theorem dX9_mix_17 : decode cX9_mix 17 = .ok (.if_icmp .le 6, 3) := by decide +kernel
theorem dX9_mix_20 : decode cX9_mix 20 = .ok (.bipush (-2), 2) := by decide +kernel
theorem dX9_mix_22 : decode cX9_mix 22 = .ok (.ireturn, 1) := by decide +kernel
theorem dX9_mix_23 : decode cX9_mix 23 = .ok (.aload_n 0, 1) := by decide +kernel
theorem dX9_mix_24 : decode cX9_mix 24 = .ok (.invokevirtual 117, 3) := by decide +kernel
theorem dX9_mix_27 : decode cX9_mix 27 = .ok (.ifCond .eq 6, 3) := by decide +kernel
theorem dX9_mix_30 : decode cX9_mix 30 = .ok (.bipush (-3), 2) := by decide +kernel
theorem dX9_mix_32 : decode cX9_mix 32 = .ok (.ireturn, 1) := by decide +kernel
theorem dX9_mix_33 : decode cX9_mix 33 = .ok (.aload_n 0, 1) := by decide +kernel
theorem dX9_mix_34 : decode cX9_mix 34 = .ok (.getfield 239, 3) := by decide +kernel
theorem dX9_mix_37 : decode cX9_mix 37 = .ok (.iload_n 1, 1) := by decide +kernel
theorem dX9_mix_38 : decode cX9_mix 38 = .ok (.if_icmp .eq 13, 3) := by decide +kernel
theorem dX9_mix_41 : decode cX9_mix 41 = .ok (.aload_n 0, 1) := by decide +kernel
theorem dX9_mix_42 : decode cX9_mix 42 = .ok (.iload_n 1, 1) := by decide +kernel
theorem dX9_mix_43 : decode cX9_mix 43 = .ok (.invokevirtual 242, 3) := by decide +kernel
theorem dX9_mix_46 : decode cX9_mix 46 = .ok (.aload_n 0, 1) := by decide +kernel
theorem dX9_mix_47 : decode cX9_mix 47 = .ok (.iload_n 1, 1) := by decide +kernel
theorem dX9_mix_48 : decode cX9_mix 48 = .ok (.putfield 239, 3) := by decide +kernel
theorem dX9_mix_51 : decode cX9_mix 51 = .ok (.aload_n 0, 1) := by decide +kernel
theorem dX9_mix_52 : decode cX9_mix 52 = .ok (.getfield 65, 3) := by decide +kernel
theorem dX9_mix_55 : decode cX9_mix 55 = .ok (.iload_n 2, 1) := by decide +kernel
theorem dX9_mix_56 : decode cX9_mix 56 = .ok (.iaload, 1) := by decide +kernel
theorem dX9_mix_57 : decode cX9_mix 57 = .ok (.ireturn, 1) := by decide +kernel
theorem dX9_till_0 : decode cX9_till 0 = .ok (.iload_n 2, 1) := by decide +kernel
theorem dX9_till_1 : decode cX9_till 1 = .ok (.ifCond .lt 8, 3) := by decide +kernel
theorem dX9_till_4 : decode cX9_till 4 = .ok (.iload_n 2, 1) := by decide +kernel
theorem dX9_till_5 : decode cX9_till 5 = .ok (.iconst 2, 1) := by decide +kernel
theorem dX9_till_6 : decode cX9_till 6 = .ok (.if_icmp .le 6, 3) := by decide +kernel
theorem dX9_till_9 : decode cX9_till 9 = .ok (.bipush (-2), 2) := by decide +kernel
theorem dX9_till_11 : decode cX9_till 11 = .ok (.ireturn, 1) := by decide +kernel
theorem dX9_till_12 : decode cX9_till 12 = .ok (.aload_n 0, 1) := by decide +kernel
theorem dX9_till_13 : decode cX9_till 13 = .ok (.invokevirtual 117, 3) := by decide +kernel
theorem dX9_till_16 : decode cX9_till 16 = .ok (.ifCond .eq 6, 3) := by decide +kernel
theorem dX9_till_19 : decode cX9_till 19 = .ok (.bipush (-3), 2) := by decide +kernel
theorem dX9_till_21 : decode cX9_till 21 = .ok (.ireturn, 1) := by decide +kernel
theorem dX9_till_22 : decode cX9_till 22 = .ok (.aload_n 0, 1) := by decide +kernel
theorem dX9_till_23 : decode cX9_till 23 = .ok (.invokevirtual 236, 3) := by decide +kernel
theorem dX9_till_26 : decode cX9_till 26 = .ok (.iconst 0, 1) := by decide +kernel
theorem dX9_till_27 : decode cX9_till 27 = .ok (.istore_n 3, 1) := by decide +kernel
theorem dX9_till_28 : decode cX9_till 28 = .ok (.bipush (-9), 2) := by decide +kernel
theorem dX9_till_30 : decode cX9_till 30 = .ok (.istore 4, 2) := by decide +kernel
theorem dX9_till_32 : decode cX9_till 32 = .ok (.bipush (-9), 2) := by decide +kernel
theorem dX9_till_34 : decode cX9_till 34 = .ok (.istore 5, 2) := by decide +kernel
theorem dX9_till_36 : decode cX9_till 36 = .ok (.iconst 0, 1) := by decide +kernel
theorem dX9_till_37 : decode cX9_till 37 = .ok (.istore 6, 2) := by decide +kernel
theorem dX9_till_39 : decode cX9_till 39 = .ok (.iload 6, 2) := by decide +kernel
theorem dX9_till_41 : decode cX9_till 41 = .ok (.bipush 30, 2) := by decide +kernel
theorem dX9_till_43 : decode cX9_till 43 = .ok (.if_icmp .gt 43, 3) := by decide +kernel
theorem dX9_till_46 : decode cX9_till 46 = .ok (.aload_n 0, 1) := by decide +kernel
theorem dX9_till_47 : decode cX9_till 47 = .ok (.getfield 61, 3) := by decide +kernel
theorem dX9_till_50 : decode cX9_till 50 = .ok (.iload 6, 2) := by decide +kernel
theorem dX9_till_52 : decode cX9_till 52 = .ok (.iaload, 1) := by decide +kernel
theorem dX9_till_53 : decode cX9_till 53 = .ok (.iload_n 1, 1) := by decide +kernel
theorem dX9_till_54 : decode cX9_till 54 = .ok (.if_icmp .ne 26, 3) := by decide +kernel
theorem dX9_till_57 : decode cX9_till 57 = .ok (.iinc 3 1, 3) := by decide +kernel
theorem dX9_till_60 : decode cX9_till 60 = .ok (.iload 4, 2) := by decide +kernel
theorem dX9_till_62 : decode cX9_till 62 = .ok (.bipush (-9), 2) := by decide +kernel
theorem dX9_till_64 : decode cX9_till 64 = .ok (.if_icmp .ne 8, 3) := by decide +kernel
theorem dX9_till_67 : decode cX9_till 67 = .ok (.iload 6, 2) := by decide +kernel
theorem dX9_till_69 : decode cX9_till 69 = .ok (.goto 5, 3) := by decide +kernel
theorem dX9_till_72 : decode cX9_till 72 = .ok (.iload 4, 2) := by decide +kernel
theorem dX9_till_74 : decode cX9_till 74 = .ok (.istore 4, 2) := by decide +kernel
theorem dX9_till_76 : decode cX9_till 76 = .ok (.iload 6, 2) := by decide +kernel
theorem dX9_till_78 : decode cX9_till 78 = .ok (.istore 5, 2) := by decide +kernel
theorem dX9_till_80 : decode cX9_till 80 = .ok (.iinc 6 1, 3) := by decide +kernel
theorem dX9_till_83 : decode cX9_till 83 = .ok (.goto (-44), 3) := by decide +kernel
theorem dX9_till_86 : decode cX9_till 86 = .ok (.iload_n 2, 1) := by decide +kernel
theorem dX9_till_87 : decode cX9_till 87 = .ok (.ifCond .ne 5, 3) := by decide +kernel
theorem dX9_till_90 : decode cX9_till 90 = .ok (.iload_n 3, 1) := by decide +kernel
theorem dX9_till_91 : decode cX9_till 91 = .ok (.ireturn, 1) := by decide +kernel
theorem dX9_till_92 : decode cX9_till 92 = .ok (.iload_n 2, 1) := by decide +kernel
theorem dX9_till_93 : decode cX9_till 93 = .ok (.iconst 1, 1) := by decide +kernel
theorem dX9_till_94 : decode cX9_till 94 = .ok (.if_icmp .ne 8, 3) := by decide +kernel
theorem dX9_till_97 : decode cX9_till 97 = .ok (.iload 4, 2) := by decide +kernel
theorem dX9_till_99 : decode cX9_till 99 = .ok (.goto 5, 3) := by decide +kernel
theorem dX9_till_102 : decode cX9_till 102 = .ok (.iload 5, 2) := by decide +kernel
theorem dX9_till_104 : decode cX9_till 104 = .ok (.ireturn, 1) := by decide +kernel
theorem dX9_names_0 : decode cX9_names 0 = .ok (.iload_n 1, 1) := by decide +kernel
theorem dX9_names_1 : decode cX9_names 1 = .ok (.ifCond .lt 32, 3) := by decide +kernel
theorem dX9_names_4 : decode cX9_names 4 = .ok (.iload_n 1, 1) := by decide +kernel
theorem dX9_names_5 : decode cX9_names 5 = .ok (.bipush 8, 2) := by decide +kernel
theorem dX9_names_7 : decode cX9_names 7 = .ok (.if_icmp .gt 26, 3) := by decide +kernel
theorem dX9_names_10 : decode cX9_names 10 = .ok (.iload 6, 2) := by decide +kernel
theorem dX9_names_12 : decode cX9_names 12 = .ok (.ifCond .lt 21, 3) := by decide +kernel
theorem dX9_names_15 : decode cX9_names 15 = .ok (.iload 6, 2) := by decide +kernel
theorem dX9_names_17 : decode cX9_names 17 = .ok (.iconst 1, 1) := by decide +kernel
theorem dX9_names_18 : decode cX9_names 18 = .ok (.if_icmp .gt 15, 3) := by decide +kernel
theorem dX9_names_21 : decode cX9_names 21 = .ok (.iload_n 2, 1) := by decide +kernel
theorem dX9_names_22 : decode cX9_names 22 = .ok (.iload_n 3, 1) := by decide +kernel
theorem dX9_names_23 : decode cX9_names 23 = .ok (.iload 4, 2) := by decide +kernel
theorem dX9_names_25 : decode cX9_names 25 = .ok (.iload 5, 2) := by decide +kernel
theorem dX9_names_27 : decode cX9_names 27 = .ok (.invokestatic 246, 3) := by decide +kernel
theorem dX9_names_30 : decode cX9_names 30 = .ok (.ifCond .eq 7, 3) := by decide +kernel
theorem dX9_names_33 : decode cX9_names 33 = .ok (.ldc2_w 212, 3) := by decide +kernel
theorem dX9_names_36 : decode cX9_names 36 = .ok (.lreturn, 1) := by decide +kernel
theorem dX9_names_37 : decode cX9_names 37 = .ok (.iload_n 1, 1) := by decide +kernel
theorem dX9_names_38 : decode cX9_names 38 = .ok (.iload_n 2, 1) := by decide +kernel
theorem dX9_names_39 : decode cX9_names 39 = .ok (.iload_n 3, 1) := by decide +kernel
theorem dX9_names_40 : decode cX9_names 40 = .ok (.iload 4, 2) := by decide +kernel
theorem dX9_names_42 : decode cX9_names 42 = .ok (.iload 5, 2) := by decide +kernel
theorem dX9_names_44 : decode cX9_names 44 = .ok (.invokestatic 250, 3) := by decide +kernel
theorem dX9_names_47 : decode cX9_names 47 = .ok (.lstore 7, 2) := by decide +kernel
theorem dX9_names_49 : decode cX9_names 49 = .ok (.ldc2_w 254, 3) := by decide +kernel
theorem dX9_names_52 : decode cX9_names 52 = .ok (.iload_n 1, 1) := by decide +kernel
theorem dX9_names_53 : decode cX9_names 53 = .ok (.invokestatic 256, 3) := by decide +kernel
theorem dX9_names_56 : decode cX9_names 56 = .ok (.lstore 9, 2) := by decide +kernel
theorem dX9_names_58 : decode cX9_names 58 = .ok (.lload 7, 2) := by decide +kernel
theorem dX9_names_60 : decode cX9_names 60 = .ok (.invokestatic 260, 3) := by decide +kernel
theorem dX9_names_63 : decode cX9_names 63 = .ok (.lload 9, 2) := by decide +kernel
theorem dX9_names_65 : decode cX9_names 65 = .ok (.invokestatic 264, 3) := by decide +kernel
theorem dX9_names_68 : decode cX9_names 68 = .ok (.lstore 11, 2) := by decide +kernel
theorem dX9_names_70 : decode cX9_names 70 = .ok (.lload 11, 2) := by decide +kernel
theorem dX9_names_72 : decode cX9_names 72 = .ok (.lconst 1, 1) := by decide +kernel
theorem dX9_names_73 : decode cX9_names 73 = .ok (.lcmp, 1) := by decide +kernel
theorem dX9_names_74 : decode cX9_names 74 = .ok (.ifCond .ge 7, 3) := by decide +kernel
theorem dX9_names_77 : decode cX9_names 77 = .ok (.ldc2_w 212, 3) := by decide +kernel
theorem dX9_names_80 : decode cX9_names 80 = .ok (.lreturn, 1) := by decide +kernel
theorem dX9_names_81 : decode cX9_names 81 = .ok (.iload 6, 2) := by decide +kernel
theorem dX9_names_83 : decode cX9_names 83 = .ok (.ifCond .ne 11, 3) := by decide +kernel
theorem dX9_names_86 : decode cX9_names 86 = .ok (.lload 7, 2) := by decide +kernel
theorem dX9_names_88 : decode cX9_names 88 = .ok (.lload 11, 2) := by decide +kernel
theorem dX9_names_90 : decode cX9_names 90 = .ok (.ldiv, 1) := by decide +kernel
theorem dX9_names_91 : decode cX9_names 91 = .ok (.goto 8, 3) := by decide +kernel
theorem dX9_names_94 : decode cX9_names 94 = .ok (.lload 9, 2) := by decide +kernel
theorem dX9_names_96 : decode cX9_names 96 = .ok (.lload 11, 2) := by decide +kernel
theorem dX9_names_98 : decode cX9_names 98 = .ok (.ldiv, 1) := by decide +kernel
theorem dX9_names_99 : decode cX9_names 99 = .ok (.lreturn, 1) := by decide +kernel
theorem dX9_take_0 : decode cX9_take 0 = .ok (.iload_n 1, 1) := by decide +kernel
theorem dX9_take_1 : decode cX9_take 1 = .ok (.iload_n 2, 1) := by decide +kernel
theorem dX9_take_2 : decode cX9_take 2 = .ok (.iload_n 3, 1) := by decide +kernel
theorem dX9_take_3 : decode cX9_take 3 = .ok (.iload 4, 2) := by decide +kernel
theorem dX9_take_5 : decode cX9_take 5 = .ok (.invokestatic 246, 3) := by decide +kernel
theorem dX9_take_8 : decode cX9_take 8 = .ok (.ifCond .eq 6, 3) := by decide +kernel
theorem dX9_take_11 : decode cX9_take 11 = .ok (.bipush (-2), 2) := by decide +kernel
theorem dX9_take_13 : decode cX9_take 13 = .ok (.ireturn, 1) := by decide +kernel
theorem dX9_take_14 : decode cX9_take 14 = .ok (.iconst 0, 1) := by decide +kernel
theorem dX9_take_15 : decode cX9_take 15 = .ok (.istore 5, 2) := by decide +kernel
theorem dX9_take_17 : decode cX9_take 17 = .ok (.lconst 0, 1) := by decide +kernel
theorem dX9_take_18 : decode cX9_take 18 = .ok (.lstore 6, 2) := by decide +kernel
theorem dX9_take_20 : decode cX9_take 20 = .ok (.iconst 1, 1) := by decide +kernel
theorem dX9_take_21 : decode cX9_take 21 = .ok (.istore 8, 2) := by decide +kernel
theorem dX9_take_23 : decode cX9_take 23 = .ok (.iload 8, 2) := by decide +kernel
theorem dX9_take_25 : decode cX9_take 25 = .ok (.bipush 8, 2) := by decide +kernel
theorem dX9_take_27 : decode cX9_take 27 = .ok (.if_icmp .gt 49, 3) := by decide +kernel
theorem dX9_take_30 : decode cX9_take 30 = .ok (.iload 8, 2) := by decide +kernel
theorem dX9_take_32 : decode cX9_take 32 = .ok (.iload_n 1, 1) := by decide +kernel
theorem dX9_take_33 : decode cX9_take 33 = .ok (.iload_n 2, 1) := by decide +kernel
theorem dX9_take_34 : decode cX9_take 34 = .ok (.iload_n 3, 1) := by decide +kernel
theorem dX9_take_35 : decode cX9_take 35 = .ok (.iload 4, 2) := by decide +kernel
theorem dX9_take_37 : decode cX9_take 37 = .ok (.invokestatic 250, 3) := by decide +kernel
theorem dX9_take_40 : decode cX9_take 40 = .ok (.ldc2_w 254, 3) := by decide +kernel
theorem dX9_take_43 : decode cX9_take 43 = .ok (.bipush 8, 2) := by decide +kernel
theorem dX9_take_45 : decode cX9_take 45 = .ok (.iload 8, 2) := by decide +kernel
theorem dX9_take_47 : decode cX9_take 47 = .ok (.isub, 1) := by decide +kernel
theorem dX9_take_48 : decode cX9_take 48 = .ok (.invokestatic 256, 3) := by decide +kernel
theorem dX9_take_51 : decode cX9_take 51 = .ok (.lmul, 1) := by decide +kernel
theorem dX9_take_52 : decode cX9_take 52 = .ok (.lstore 9, 2) := by decide +kernel
theorem dX9_take_54 : decode cX9_take 54 = .ok (.lload 9, 2) := by decide +kernel
theorem dX9_take_56 : decode cX9_take 56 = .ok (.lload 6, 2) := by decide +kernel
theorem dX9_take_58 : decode cX9_take 58 = .ok (.lcmp, 1) := by decide +kernel
theorem dX9_take_59 : decode cX9_take 59 = .ok (.ifCond .le 11, 3) := by decide +kernel
theorem dX9_take_62 : decode cX9_take 62 = .ok (.lload 9, 2) := by decide +kernel
theorem dX9_take_64 : decode cX9_take 64 = .ok (.lstore 6, 2) := by decide +kernel
theorem dX9_take_66 : decode cX9_take 66 = .ok (.iload 8, 2) := by decide +kernel
theorem dX9_take_68 : decode cX9_take 68 = .ok (.istore 5, 2) := by decide +kernel
theorem dX9_take_70 : decode cX9_take 70 = .ok (.iinc 8 1, 3) := by decide +kernel
theorem dX9_take_73 : decode cX9_take 73 = .ok (.goto (-50), 3) := by decide +kernel
theorem dX9_take_76 : decode cX9_take 76 = .ok (.iload 5, 2) := by decide +kernel
theorem dX9_take_78 : decode cX9_take 78 = .ok (.ireturn, 1) := by decide +kernel
theorem dX9_sheet_0 : decode cX9_sheet 0 = .ok (.aload_n 0, 1) := by decide +kernel
theorem dX9_sheet_1 : decode cX9_sheet 1 = .ok (.iconst 0, 1) := by decide +kernel
theorem dX9_sheet_2 : decode cX9_sheet 2 = .ok (.putfield 68, 3) := by decide +kernel
theorem dX9_sheet_5 : decode cX9_sheet 5 = .ok (.iload_n 1, 1) := by decide +kernel
theorem dX9_sheet_6 : decode cX9_sheet 6 = .ok (.invokestatic 72, 3) := by decide +kernel
theorem dX9_sheet_9 : decode cX9_sheet 9 = .ok (.ifCond .eq 5, 3) := by decide +kernel
theorem dX9_sheet_12 : decode cX9_sheet 12 = .ok (.iconst (-1), 1) := by decide +kernel
theorem dX9_sheet_13 : decode cX9_sheet 13 = .ok (.ireturn, 1) := by decide +kernel
theorem dX9_sheet_14 : decode cX9_sheet 14 = .ok (.iload_n 2, 1) := by decide +kernel
theorem dX9_sheet_15 : decode cX9_sheet 15 = .ok (.invokestatic 76, 3) := by decide +kernel
theorem dX9_sheet_18 : decode cX9_sheet 18 = .ok (.ifCond .ne 9, 3) := by decide +kernel
theorem dX9_sheet_21 : decode cX9_sheet 21 = .ok (.iload_n 3, 1) := by decide +kernel
theorem dX9_sheet_22 : decode cX9_sheet 22 = .ok (.bipush 40, 2) := by decide +kernel
theorem dX9_sheet_24 : decode cX9_sheet 24 = .ok (.if_icmp .le 6, 3) := by decide +kernel
theorem dX9_sheet_27 : decode cX9_sheet 27 = .ok (.bipush (-2), 2) := by decide +kernel
theorem dX9_sheet_29 : decode cX9_sheet 29 = .ok (.ireturn, 1) := by decide +kernel
theorem dX9_sheet_30 : decode cX9_sheet 30 = .ok (.iload_n 3, 1) := by decide +kernel
theorem dX9_sheet_31 : decode cX9_sheet 31 = .ok (.ifCond .ge 9, 3) := by decide +kernel
theorem dX9_sheet_34 : decode cX9_sheet 34 = .ok (.aload_n 0, 1) := by decide +kernel
theorem dX9_sheet_35 : decode cX9_sheet 35 = .ok (.iconst 4, 1) := by decide +kernel
theorem dX9_sheet_36 : decode cX9_sheet 36 = .ok (.invokevirtual 86, 3) := by decide +kernel
theorem dX9_sheet_39 : decode cX9_sheet 39 = .ok (.ireturn, 1) := by decide +kernel
theorem dX9_sheet_40 : decode cX9_sheet 40 = .ok (.aload_n 0, 1) := by decide +kernel
theorem dX9_sheet_41 : decode cX9_sheet 41 = .ok (.getfield 30, 3) := by decide +kernel
theorem dX9_sheet_44 : decode cX9_sheet 44 = .ok (.iload_n 1, 1) := by decide +kernel
theorem dX9_sheet_45 : decode cX9_sheet 45 = .ok (.aaload, 1) := by decide +kernel
theorem dX9_sheet_46 : decode cX9_sheet 46 = .ok (.iload_n 2, 1) := by decide +kernel
theorem dX9_sheet_47 : decode cX9_sheet 47 = .ok (.iload_n 3, 1) := by decide +kernel
theorem dX9_sheet_48 : decode cX9_sheet 48 = .ok (.invokevirtual 268, 3) := by decide +kernel
theorem dX9_sheet_51 : decode cX9_sheet 51 = .ok (.iconst 1, 1) := by decide +kernel
theorem dX9_sheet_52 : decode cX9_sheet 52 = .ok (.ireturn, 1) := by decide +kernel
theorem dX9_lose_0 : decode cX9_lose 0 = .ok (.iload_n 1, 1) := by decide +kernel
theorem dX9_lose_1 : decode cX9_lose 1 = .ok (.invokestatic 72, 3) := by decide +kernel
theorem dX9_lose_4 : decode cX9_lose 4 = .ok (.ifCond .eq 5, 3) := by decide +kernel
theorem dX9_lose_7 : decode cX9_lose 7 = .ok (.iconst (-1), 1) := by decide +kernel
theorem dX9_lose_8 : decode cX9_lose 8 = .ok (.ireturn, 1) := by decide +kernel
theorem dX9_lose_9 : decode cX9_lose 9 = .ok (.aload_n 0, 1) := by decide +kernel
theorem dX9_lose_10 : decode cX9_lose 10 = .ok (.getfield 30, 3) := by decide +kernel
theorem dX9_lose_13 : decode cX9_lose 13 = .ok (.iload_n 1, 1) := by decide +kernel
theorem dX9_lose_14 : decode cX9_lose 14 = .ok (.aaload, 1) := by decide +kernel
theorem dX9_lose_15 : decode cX9_lose 15 = .ok (.getfield 79, 3) := by decide +kernel
theorem dX9_lose_18 : decode cX9_lose 18 = .ok (.ifCond .ne 5, 3) := by decide +kernel
theorem dX9_lose_21 : decode cX9_lose 21 = .ok (.iconst 0, 1) := by decide +kernel
theorem dX9_lose_22 : decode cX9_lose 22 = .ok (.ireturn, 1) := by decide +kernel
theorem dX9_lose_23 : decode cX9_lose 23 = .ok (.aload_n 0, 1) := by decide +kernel
theorem dX9_lose_24 : decode cX9_lose 24 = .ok (.getfield 30, 3) := by decide +kernel
theorem dX9_lose_27 : decode cX9_lose 27 = .ok (.iload_n 1, 1) := by decide +kernel
theorem dX9_lose_28 : decode cX9_lose 28 = .ok (.aaload, 1) := by decide +kernel
theorem dX9_lose_29 : decode cX9_lose 29 = .ok (.iconst 0, 1) := by decide +kernel
theorem dX9_lose_30 : decode cX9_lose 30 = .ok (.putfield 79, 3) := by decide +kernel
theorem dX9_lose_33 : decode cX9_lose 33 = .ok (.iconst 1, 1) := by decide +kernel
theorem dX9_lose_34 : decode cX9_lose 34 = .ok (.ireturn, 1) := by decide +kernel
theorem dX9_put_0 : decode cX9_put 0 = .ok (.aload_n 0, 1) := by decide +kernel
theorem dX9_put_1 : decode cX9_put 1 = .ok (.iconst 0, 1) := by decide +kernel
theorem dX9_put_2 : decode cX9_put 2 = .ok (.putfield 68, 3) := by decide +kernel
theorem dX9_put_5 : decode cX9_put 5 = .ok (.iload_n 1, 1) := by decide +kernel
theorem dX9_put_6 : decode cX9_put 6 = .ok (.invokestatic 72, 3) := by decide +kernel
theorem dX9_put_9 : decode cX9_put 9 = .ok (.ifCond .eq 5, 3) := by decide +kernel
theorem dX9_put_12 : decode cX9_put 12 = .ok (.iconst (-1), 1) := by decide +kernel
theorem dX9_put_13 : decode cX9_put 13 = .ok (.ireturn, 1) := by decide +kernel
theorem dX9_put_14 : decode cX9_put 14 = .ok (.aload_n 0, 1) := by decide +kernel
theorem dX9_put_15 : decode cX9_put 15 = .ok (.getfield 30, 3) := by decide +kernel
theorem dX9_put_18 : decode cX9_put 18 = .ok (.iload_n 1, 1) := by decide +kernel
theorem dX9_put_19 : decode cX9_put 19 = .ok (.aaload, 1) := by decide +kernel
theorem dX9_put_20 : decode cX9_put 20 = .ok (.astore 4, 2) := by decide +kernel
theorem dX9_put_22 : decode cX9_put 22 = .ok (.aload 4, 2) := by decide +kernel
theorem dX9_put_24 : decode cX9_put 24 = .ok (.getfield 79, 3) := by decide +kernel
theorem dX9_put_27 : decode cX9_put 27 = .ok (.ifCond .ne 9, 3) := by decide +kernel
theorem dX9_put_30 : decode cX9_put 30 = .ok (.aload_n 0, 1) := by decide +kernel
theorem dX9_put_31 : decode cX9_put 31 = .ok (.iconst 1, 1) := by decide +kernel
theorem dX9_put_32 : decode cX9_put 32 = .ok (.invokevirtual 86, 3) := by decide +kernel
theorem dX9_put_35 : decode cX9_put 35 = .ok (.ireturn, 1) := by decide +kernel
theorem dX9_put_36 : decode cX9_put 36 = .ok (.iload_n 2, 1) := by decide +kernel
theorem dX9_put_37 : decode cX9_put 37 = .ok (.ifCond .lt 12, 3) := by decide +kernel
theorem dX9_put_40 : decode cX9_put 40 = .ok (.iload_n 2, 1) := by decide +kernel
theorem dX9_put_41 : decode cX9_put 41 = .ok (.aload 4, 2) := by decide +kernel
theorem dX9_put_43 : decode cX9_put 43 = .ok (.getfield 272, 3) := by decide +kernel
theorem dX9_put_46 : decode cX9_put 46 = .ok (.if_icmp .lt 9, 3) := by decide +kernel
theorem dX9_put_49 : decode cX9_put 49 = .ok (.aload_n 0, 1) := by decide +kernel
theorem dX9_put_50 : decode cX9_put 50 = .ok (.iconst 3, 1) := by decide +kernel
theorem dX9_put_51 : decode cX9_put 51 = .ok (.invokevirtual 86, 3) := by decide +kernel
theorem dX9_put_54 : decode cX9_put 54 = .ok (.ireturn, 1) := by decide +kernel
theorem dX9_put_55 : decode cX9_put 55 = .ok (.aload 4, 2) := by decide +kernel
theorem dX9_put_57 : decode cX9_put 57 = .ok (.getfield 275, 3) := by decide +kernel
theorem dX9_put_60 : decode cX9_put 60 = .ok (.iload_n 2, 1) := by decide +kernel
theorem dX9_put_61 : decode cX9_put 61 = .ok (.aload 4, 2) := by decide +kernel
theorem dX9_put_63 : decode cX9_put 63 = .ok (.iload_n 3, 1) := by decide +kernel
theorem dX9_put_64 : decode cX9_put 64 = .ok (.invokevirtual 278, 3) := by decide +kernel
theorem dX9_put_67 : decode cX9_put 67 = .ok (.iastore, 1) := by decide +kernel
theorem dX9_put_68 : decode cX9_put 68 = .ok (.iconst 1, 1) := by decide +kernel
theorem dX9_put_69 : decode cX9_put 69 = .ok (.ireturn, 1) := by decide +kernel
theorem dX9_cell_0 : decode cX9_cell 0 = .ok (.aload_n 0, 1) := by decide +kernel
theorem dX9_cell_1 : decode cX9_cell 1 = .ok (.iconst 0, 1) := by decide +kernel
theorem dX9_cell_2 : decode cX9_cell 2 = .ok (.putfield 68, 3) := by decide +kernel
theorem dX9_cell_5 : decode cX9_cell 5 = .ok (.iload_n 1, 1) := by decide +kernel
theorem dX9_cell_6 : decode cX9_cell 6 = .ok (.invokestatic 72, 3) := by decide +kernel
theorem dX9_cell_9 : decode cX9_cell 9 = .ok (.ifCond .ne 10, 3) := by decide +kernel
theorem dX9_cell_12 : decode cX9_cell 12 = .ok (.iload_n 3, 1) := by decide +kernel
theorem dX9_cell_13 : decode cX9_cell 13 = .ok (.invokestatic 76, 3) := by decide +kernel
theorem dX9_cell_16 : decode cX9_cell 16 = .ok (.ifCond .eq 7, 3) := by decide +kernel
theorem dX9_cell_19 : decode cX9_cell 19 = .ok (.ldc2_w 212, 3) := by decide +kernel
theorem dX9_cell_22 : decode cX9_cell 22 = .ok (.lreturn, 1) := by decide +kernel
theorem dX9_cell_23 : decode cX9_cell 23 = .ok (.aload_n 0, 1) := by decide +kernel
theorem dX9_cell_24 : decode cX9_cell 24 = .ok (.getfield 30, 3) := by decide +kernel
theorem dX9_cell_27 : decode cX9_cell 27 = .ok (.iload_n 1, 1) := by decide +kernel
theorem dX9_cell_28 : decode cX9_cell 28 = .ok (.aaload, 1) := by decide +kernel
theorem dX9_cell_29 : decode cX9_cell 29 = .ok (.astore 4, 2) := by decide +kernel
theorem dX9_cell_31 : decode cX9_cell 31 = .ok (.aload 4, 2) := by decide +kernel
theorem dX9_cell_33 : decode cX9_cell 33 = .ok (.getfield 79, 3) := by decide +kernel
theorem dX9_cell_36 : decode cX9_cell 36 = .ok (.ifCond .eq 18, 3) := by decide +kernel
theorem dX9_cell_39 : decode cX9_cell 39 = .ok (.aload 4, 2) := by decide +kernel
theorem dX9_cell_41 : decode cX9_cell 41 = .ok (.getfield 83, 3) := by decide +kernel
theorem dX9_cell_44 : decode cX9_cell 44 = .ok (.iload_n 3, 1) := by decide +kernel
theorem dX9_cell_45 : decode cX9_cell 45 = .ok (.if_icmp .eq 9, 3) := by decide +kernel
theorem dX9_cell_48 : decode cX9_cell 48 = .ok (.aload_n 0, 1) := by decide +kernel
theorem dX9_cell_49 : decode cX9_cell 49 = .ok (.iconst 2, 1) := by decide +kernel
theorem dX9_cell_50 : decode cX9_cell 50 = .ok (.invokevirtual 281, 3) := by decide +kernel
theorem dX9_cell_53 : decode cX9_cell 53 = .ok (.lreturn, 1) := by decide +kernel
theorem dX9_cell_54 : decode cX9_cell 54 = .ok (.aload 4, 2) := by decide +kernel
theorem dX9_cell_56 : decode cX9_cell 56 = .ok (.getfield 79, 3) := by decide +kernel
theorem dX9_cell_59 : decode cX9_cell 59 = .ok (.ifCond .ne 9, 3) := by decide +kernel
theorem dX9_cell_62 : decode cX9_cell 62 = .ok (.aload_n 0, 1) := by decide +kernel
theorem dX9_cell_63 : decode cX9_cell 63 = .ok (.iconst 1, 1) := by decide +kernel
theorem dX9_cell_64 : decode cX9_cell 64 = .ok (.invokevirtual 281, 3) := by decide +kernel
theorem dX9_cell_67 : decode cX9_cell 67 = .ok (.lreturn, 1) := by decide +kernel
theorem dX9_cell_68 : decode cX9_cell 68 = .ok (.iload_n 2, 1) := by decide +kernel
theorem dX9_cell_69 : decode cX9_cell 69 = .ok (.ifCond .lt 12, 3) := by decide +kernel
theorem dX9_cell_72 : decode cX9_cell 72 = .ok (.iload_n 2, 1) := by decide +kernel
theorem dX9_cell_73 : decode cX9_cell 73 = .ok (.aload 4, 2) := by decide +kernel
theorem dX9_cell_75 : decode cX9_cell 75 = .ok (.getfield 272, 3) := by decide +kernel
theorem dX9_cell_78 : decode cX9_cell 78 = .ok (.if_icmp .lt 9, 3) := by decide +kernel
theorem dX9_cell_81 : decode cX9_cell 81 = .ok (.aload_n 0, 1) := by decide +kernel
theorem dX9_cell_82 : decode cX9_cell 82 = .ok (.iconst 3, 1) := by decide +kernel
theorem dX9_cell_83 : decode cX9_cell 83 = .ok (.invokevirtual 281, 3) := by decide +kernel
theorem dX9_cell_86 : decode cX9_cell 86 = .ok (.lreturn, 1) := by decide +kernel
theorem dX9_cell_87 : decode cX9_cell 87 = .ok (.aload 4, 2) := by decide +kernel
theorem dX9_cell_89 : decode cX9_cell 89 = .ok (.getfield 275, 3) := by decide +kernel
theorem dX9_cell_92 : decode cX9_cell 92 = .ok (.iload_n 2, 1) := by decide +kernel
theorem dX9_cell_93 : decode cX9_cell 93 = .ok (.iaload, 1) := by decide +kernel
theorem dX9_cell_94 : decode cX9_cell 94 = .ok (.i2l, 1) := by decide +kernel
theorem dX9_cell_95 : decode cX9_cell 95 = .ok (.lreturn, 1) := by decide +kernel
theorem dX9_copy_0 : decode cX9_copy 0 = .ok (.aload_n 0, 1) := by decide +kernel
theorem dX9_copy_1 : decode cX9_copy 1 = .ok (.iconst 0, 1) := by decide +kernel
theorem dX9_copy_2 : decode cX9_copy 2 = .ok (.putfield 68, 3) := by decide +kernel
theorem dX9_copy_5 : decode cX9_copy 5 = .ok (.iload_n 1, 1) := by decide +kernel
theorem dX9_copy_6 : decode cX9_copy 6 = .ok (.invokestatic 72, 3) := by decide +kernel
theorem dX9_copy_9 : decode cX9_copy 9 = .ok (.ifCond .ne 10, 3) := by decide +kernel
theorem dX9_copy_12 : decode cX9_copy 12 = .ok (.iload_n 3, 1) := by decide +kernel
theorem dX9_copy_13 : decode cX9_copy 13 = .ok (.invokestatic 72, 3) := by decide +kernel
theorem dX9_copy_16 : decode cX9_copy 16 = .ok (.ifCond .eq 5, 3) := by decide +kernel
theorem dX9_copy_19 : decode cX9_copy 19 = .ok (.iconst (-1), 1) := by decide +kernel
theorem dX9_copy_20 : decode cX9_copy 20 = .ok (.ireturn, 1) := by decide +kernel
theorem dX9_copy_21 : decode cX9_copy 21 = .ok (.aload_n 0, 1) := by decide +kernel
theorem dX9_copy_22 : decode cX9_copy 22 = .ok (.getfield 30, 3) := by decide +kernel
theorem dX9_copy_25 : decode cX9_copy 25 = .ok (.iload_n 1, 1) := by decide +kernel
theorem dX9_copy_26 : decode cX9_copy 26 = .ok (.aaload, 1) := by decide +kernel
theorem dX9_copy_27 : decode cX9_copy 27 = .ok (.astore 6, 2) := by decide +kernel
theorem dX9_copy_29 : decode cX9_copy 29 = .ok (.aload_n 0, 1) := by decide +kernel
theorem dX9_copy_30 : decode cX9_copy 30 = .ok (.getfield 30, 3) := by decide +kernel
theorem dX9_copy_33 : decode cX9_copy 33 = .ok (.iload_n 3, 1) := by decide +kernel
theorem dX9_copy_34 : decode cX9_copy 34 = .ok (.aaload, 1) := by decide +kernel
theorem dX9_copy_35 : decode cX9_copy 35 = .ok (.astore 7, 2) := by decide +kernel
theorem dX9_copy_37 : decode cX9_copy 37 = .ok (.aload 6, 2) := by decide +kernel
theorem dX9_copy_39 : decode cX9_copy 39 = .ok (.getfield 79, 3) := by decide +kernel
theorem dX9_copy_42 : decode cX9_copy 42 = .ok (.ifCond .eq 11, 3) := by decide +kernel
theorem dX9_copy_45 : decode cX9_copy 45 = .ok (.aload 7, 2) := by decide +kernel
theorem dX9_copy_47 : decode cX9_copy 47 = .ok (.getfield 79, 3) := by decide +kernel
theorem dX9_copy_50 : decode cX9_copy 50 = .ok (.ifCond .ne 9, 3) := by decide +kernel
theorem dX9_copy_53 : decode cX9_copy 53 = .ok (.aload_n 0, 1) := by decide +kernel
theorem dX9_copy_54 : decode cX9_copy 54 = .ok (.iconst 1, 1) := by decide +kernel
theorem dX9_copy_55 : decode cX9_copy 55 = .ok (.invokevirtual 86, 3) := by decide +kernel
theorem dX9_copy_58 : decode cX9_copy 58 = .ok (.ireturn, 1) := by decide +kernel
theorem dX9_copy_59 : decode cX9_copy 59 = .ok (.aload 6, 2) := by decide +kernel
theorem dX9_copy_61 : decode cX9_copy 61 = .ok (.getfield 83, 3) := by decide +kernel
theorem dX9_copy_64 : decode cX9_copy 64 = .ok (.aload 7, 2) := by decide +kernel
theorem dX9_copy_66 : decode cX9_copy 66 = .ok (.getfield 83, 3) := by decide +kernel
theorem dX9_copy_69 : decode cX9_copy 69 = .ok (.if_icmp .eq 9, 3) := by decide +kernel
theorem dX9_copy_72 : decode cX9_copy 72 = .ok (.aload_n 0, 1) := by decide +kernel
theorem dX9_copy_73 : decode cX9_copy 73 = .ok (.iconst 2, 1) := by decide +kernel
theorem dX9_copy_74 : decode cX9_copy 74 = .ok (.invokevirtual 86, 3) := by decide +kernel
theorem dX9_copy_77 : decode cX9_copy 77 = .ok (.ireturn, 1) := by decide +kernel
theorem dX9_copy_78 : decode cX9_copy 78 = .ok (.aload 6, 2) := by decide +kernel
theorem dX9_copy_80 : decode cX9_copy 80 = .ok (.iload_n 2, 1) := by decide +kernel
theorem dX9_copy_81 : decode cX9_copy 81 = .ok (.iload 5, 2) := by decide +kernel
theorem dX9_copy_83 : decode cX9_copy 83 = .ok (.invokevirtual 90, 3) := by decide +kernel
theorem dX9_copy_86 : decode cX9_copy 86 = .ok (.ifCond .eq 15, 3) := by decide +kernel
theorem dX9_copy_89 : decode cX9_copy 89 = .ok (.aload 7, 2) := by decide +kernel
theorem dX9_copy_91 : decode cX9_copy 91 = .ok (.iload 4, 2) := by decide +kernel
theorem dX9_copy_93 : decode cX9_copy 93 = .ok (.iload 5, 2) := by decide +kernel
theorem dX9_copy_95 : decode cX9_copy 95 = .ok (.invokevirtual 90, 3) := by decide +kernel
theorem dX9_copy_98 : decode cX9_copy 98 = .ok (.ifCond .ne 9, 3) := by decide +kernel
theorem dX9_copy_101 : decode cX9_copy 101 = .ok (.aload_n 0, 1) := by decide +kernel
theorem dX9_copy_102 : decode cX9_copy 102 = .ok (.iconst 3, 1) := by decide +kernel
theorem dX9_copy_103 : decode cX9_copy 103 = .ok (.invokevirtual 86, 3) := by decide +kernel
theorem dX9_copy_106 : decode cX9_copy 106 = .ok (.ireturn, 1) := by decide +kernel
theorem dX9_copy_107 : decode cX9_copy 107 = .ok (.aload 6, 2) := by decide +kernel
theorem dX9_copy_109 : decode cX9_copy 109 = .ok (.getfield 275, 3) := by decide +kernel
theorem dX9_copy_112 : decode cX9_copy 112 = .ok (.iload_n 2, 1) := by decide +kernel
theorem dX9_copy_113 : decode cX9_copy 113 = .ok (.aload 7, 2) := by decide +kernel
theorem dX9_copy_115 : decode cX9_copy 115 = .ok (.getfield 275, 3) := by decide +kernel
theorem dX9_copy_118 : decode cX9_copy 118 = .ok (.iload 4, 2) := by decide +kernel
theorem dX9_copy_120 : decode cX9_copy 120 = .ok (.iload 5, 2) := by decide +kernel
theorem dX9_copy_122 : decode cX9_copy 122 = .ok (.invokestatic 285, 3) := by decide +kernel
theorem dX9_copy_125 : decode cX9_copy 125 = .ok (.iload 5, 2) := by decide +kernel
theorem dX9_copy_127 : decode cX9_copy 127 = .ok (.ireturn, 1) := by decide +kernel
theorem dX9_tell_0 : decode cX9_tell 0 = .ok (.aload_n 0, 1) := by decide +kernel
theorem dX9_tell_1 : decode cX9_tell 1 = .ok (.getfield 24, 3) := by decide +kernel
theorem dX9_tell_4 : decode cX9_tell 4 = .ok (.iload_n 1, 1) := by decide +kernel
theorem dX9_tell_5 : decode cX9_tell 5 = .ok (.invokevirtual 151, 3) := by decide +kernel
theorem dX9_tell_8 : decode cX9_tell 8 = .ok (.astore_n 2, 1) := by decide +kernel
theorem dX9_tell_9 : decode cX9_tell 9 = .ok (.aload_n 2, 1) := by decide +kernel
theorem dX9_tell_10 : decode cX9_tell 10 = .ok (.ifnonnull 7, 3) := by decide +kernel
theorem dX9_tell_13 : decode cX9_tell 13 = .ok (.iconst (-1), 1) := by decide +kernel
theorem dX9_tell_14 : decode cX9_tell 14 = .ok (.goto 11, 3) := by decide +kernel
theorem dX9_tell_17 : decode cX9_tell 17 = .ok (.aload_n 2, 1) := by decide +kernel
theorem dX9_tell_18 : decode cX9_tell 18 = .ok (.aload_n 0, 1) := by decide +kernel
theorem dX9_tell_19 : decode cX9_tell 19 = .ok (.getfield 38, 3) := by decide +kernel
theorem dX9_tell_22 : decode cX9_tell 22 = .ok (.invokevirtual 291, 3) := by decide +kernel
theorem dX9_tell_25 : decode cX9_tell 25 = .ok (.ireturn, 1) := by decide +kernel
theorem dX9_serve_0 : decode cX9_serve 0 = .ok (.aload_n 0, 1) := by decide +kernel
theorem dX9_serve_1 : decode cX9_serve 1 = .ok (.getfield 24, 3) := by decide +kernel
theorem dX9_serve_4 : decode cX9_serve 4 = .ok (.iload_n 1, 1) := by decide +kernel
theorem dX9_serve_5 : decode cX9_serve 5 = .ok (.invokevirtual 151, 3) := by decide +kernel
theorem dX9_serve_8 : decode cX9_serve 8 = .ok (.astore_n 2, 1) := by decide +kernel
theorem dX9_serve_9 : decode cX9_serve 9 = .ok (.aload_n 2, 1) := by decide +kernel
theorem dX9_serve_10 : decode cX9_serve 10 = .ok (.ifnonnull 7, 3) := by decide +kernel
theorem dX9_serve_13 : decode cX9_serve 13 = .ok (.iconst (-1), 1) := by decide +kernel
theorem dX9_serve_14 : decode cX9_serve 14 = .ok (.goto 11, 3) := by decide +kernel
theorem dX9_serve_17 : decode cX9_serve 17 = .ok (.aload_n 2, 1) := by decide +kernel
theorem dX9_serve_18 : decode cX9_serve 18 = .ok (.aload_n 0, 1) := by decide +kernel
theorem dX9_serve_19 : decode cX9_serve 19 = .ok (.getfield 38, 3) := by decide +kernel
theorem dX9_serve_22 : decode cX9_serve 22 = .ok (.invokevirtual 295, 3) := by decide +kernel
theorem dX9_serve_25 : decode cX9_serve 25 = .ok (.ireturn, 1) := by decide +kernel
theorem dX9_as_0 : decode cX9_as 0 = .ok (.aload_n 0, 1) := by decide +kernel
theorem dX9_as_1 : decode cX9_as 1 = .ok (.iconst 0, 1) := by decide +kernel
theorem dX9_as_2 : decode cX9_as 2 = .ok (.putfield 68, 3) := by decide +kernel
theorem dX9_as_5 : decode cX9_as 5 = .ok (.aload_n 0, 1) := by decide +kernel
theorem dX9_as_6 : decode cX9_as 6 = .ok (.getfield 24, 3) := by decide +kernel
theorem dX9_as_9 : decode cX9_as 9 = .ok (.iload_n 1, 1) := by decide +kernel
theorem dX9_as_10 : decode cX9_as 10 = .ok (.invokevirtual 151, 3) := by decide +kernel
theorem dX9_as_13 : decode cX9_as 13 = .ok (.astore_n 3, 1) := by decide +kernel
theorem dX9_as_14 : decode cX9_as 14 = .ok (.aload_n 3, 1) := by decide +kernel
theorem dX9_as_15 : decode cX9_as 15 = .ok (.ifnonnull 5, 3) := by decide +kernel
theorem dX9_as_18 : decode cX9_as 18 = .ok (.iconst (-1), 1) := by decide +kernel
theorem dX9_as_19 : decode cX9_as 19 = .ok (.ireturn, 1) := by decide +kernel
theorem dX9_as_20 : decode cX9_as 20 = .ok (.iload_n 2, 1) := by decide +kernel
theorem dX9_as_21 : decode cX9_as 21 = .ok (.invokestatic 133, 3) := by decide +kernel
theorem dX9_as_24 : decode cX9_as 24 = .ok (.ifCond .eq 6, 3) := by decide +kernel
theorem dX9_as_27 : decode cX9_as 27 = .ok (.bipush (-2), 2) := by decide +kernel
theorem dX9_as_29 : decode cX9_as 29 = .ok (.ireturn, 1) := by decide +kernel
theorem dX9_as_30 : decode cX9_as 30 = .ok (.iload_n 2, 1) := by decide +kernel
theorem dX9_as_31 : decode cX9_as 31 = .ok (.ifCond .eq 25, 3) := by decide +kernel
theorem dX9_as_34 : decode cX9_as 34 = .ok (.iload_n 2, 1) := by decide +kernel
theorem dX9_as_35 : decode cX9_as 35 = .ok (.iconst 1, 1) := by decide +kernel
theorem dX9_as_36 : decode cX9_as 36 = .ok (.if_icmp .ne 13, 3) := by decide +kernel
theorem dX9_as_39 : decode cX9_as 39 = .ok (.aload_n 3, 1) := by decide +kernel
theorem dX9_as_40 : decode cX9_as 40 = .ok (.instanceof 145, 3) := by decide +kernel
theorem dX9_as_43 : decode cX9_as 43 = .ok (.ifCond .eq 17, 3) := by decide +kernel
theorem dX9_as_46 : decode cX9_as 46 = .ok (.goto 10, 3) := by decide +kernel
theorem dX9_as_49 : decode cX9_as 49 = .ok (.aload_n 3, 1) := by decide +kernel
theorem dX9_as_50 : decode cX9_as 50 = .ok (.instanceof 148, 3) := by decide +kernel
theorem dX9_as_53 : decode cX9_as 53 = .ok (.ifCond .eq 7, 3) := by decide +kernel
theorem dX9_as_56 : decode cX9_as 56 = .ok (.iconst 1, 1) := by decide +kernel
theorem dX9_as_57 : decode cX9_as 57 = .ok (.goto 4, 3) := by decide +kernel
theorem dX9_as_60 : decode cX9_as 60 = .ok (.iconst 0, 1) := by decide +kernel
theorem dX9_as_61 : decode cX9_as 61 = .ok (.istore 4, 2) := by decide +kernel
theorem dX9_as_63 : decode cX9_as 63 = .ok (.iload 4, 2) := by decide +kernel
theorem dX9_as_65 : decode cX9_as 65 = .ok (.ifCond .eq 7, 3) := by decide +kernel
theorem dX9_as_68 : decode cX9_as 68 = .ok (.iconst 1, 1) := by decide +kernel
theorem dX9_as_69 : decode cX9_as 69 = .ok (.goto 8, 3) := by decide +kernel
theorem dX9_as_72 : decode cX9_as 72 = .ok (.aload_n 0, 1) := by decide +kernel
theorem dX9_as_73 : decode cX9_as 73 = .ok (.iconst 2, 1) := by decide +kernel
theorem dX9_as_74 : decode cX9_as 74 = .ok (.invokevirtual 86, 3) := by decide +kernel
theorem dX9_as_77 : decode cX9_as 77 = .ok (.ireturn, 1) := by decide +kernel
theorem dX9_trace_0 : decode cX9_trace 0 = .ok (.aload_n 0, 1) := by decide +kernel
theorem dX9_trace_1 : decode cX9_trace 1 = .ok (.getfield 38, 3) := by decide +kernel
theorem dX9_trace_4 : decode cX9_trace 4 = .ok (.getfield 298, 3) := by decide +kernel
theorem dX9_trace_7 : decode cX9_trace 7 = .ok (.ireturn, 1) := by decide +kernel
theorem dX9_fault_0 : decode cX9_fault 0 = .ok (.aload_n 0, 1) := by decide +kernel
theorem dX9_fault_1 : decode cX9_fault 1 = .ok (.getfield 68, 3) := by decide +kernel
theorem dX9_fault_4 : decode cX9_fault 4 = .ok (.ireturn, 1) := by decide +kernel
theorem dX9_many_0 : decode cX9_many 0 = .ok (.iload_n 1, 1) := by decide +kernel
theorem dX9_many_1 : decode cX9_many 1 = .ok (.tableswitch 107 0 6 #[43, 51, 59, 67, 75, 91, 99], 43) := by decide +kernel
theorem dX9_many_44 : decode cX9_many 44 = .ok (.aload_n 0, 1) := by decide +kernel
theorem dX9_many_45 : decode cX9_many 45 = .ok (.getfield 12, 3) := by decide +kernel
theorem dX9_many_48 : decode cX9_many 48 = .ok (.getfield 108, 3) := by decide +kernel
theorem dX9_many_51 : decode cX9_many 51 = .ok (.ireturn, 1) := by decide +kernel
theorem dX9_many_52 : decode cX9_many 52 = .ok (.aload_n 0, 1) := by decide +kernel
theorem dX9_many_53 : decode cX9_many 53 = .ok (.getfield 24, 3) := by decide +kernel
theorem dX9_many_56 : decode cX9_many 56 = .ok (.getfield 102, 3) := by decide +kernel
theorem dX9_many_59 : decode cX9_many 59 = .ok (.ireturn, 1) := by decide +kernel
theorem dX9_many_60 : decode cX9_many 60 = .ok (.aload_n 0, 1) := by decide +kernel
theorem dX9_many_61 : decode cX9_many 61 = .ok (.getfield 12, 3) := by decide +kernel
theorem dX9_many_64 : decode cX9_many 64 = .ok (.getfield 121, 3) := by decide +kernel
theorem dX9_many_67 : decode cX9_many 67 = .ok (.ireturn, 1) := by decide +kernel
theorem dX9_many_68 : decode cX9_many 68 = .ok (.aload_n 0, 1) := by decide +kernel
theorem dX9_many_69 : decode cX9_many 69 = .ok (.getfield 12, 3) := by decide +kernel
theorem dX9_many_72 : decode cX9_many 72 = .ok (.getfield 124, 3) := by decide +kernel
theorem dX9_many_75 : decode cX9_many 75 = .ok (.ireturn, 1) := by decide +kernel
theorem dX9_many_76 : decode cX9_many 76 = .ok (.aload_n 0, 1) := by decide +kernel
theorem dX9_many_77 : decode cX9_many 77 = .ok (.getfield 12, 3) := by decide +kernel
theorem dX9_many_80 : decode cX9_many 80 = .ok (.getfield 127, 3) := by decide +kernel
theorem dX9_many_83 : decode cX9_many 83 = .ok (.ifCond .eq 7, 3) := by decide +kernel
theorem dX9_many_86 : decode cX9_many 86 = .ok (.iconst 1, 1) := by decide +kernel
theorem dX9_many_87 : decode cX9_many 87 = .ok (.goto 4, 3) := by decide +kernel
theorem dX9_many_90 : decode cX9_many 90 = .ok (.iconst 0, 1) := by decide +kernel
theorem dX9_many_91 : decode cX9_many 91 = .ok (.ireturn, 1) := by decide +kernel
theorem dX9_many_92 : decode cX9_many 92 = .ok (.aload_n 0, 1) := by decide +kernel
theorem dX9_many_93 : decode cX9_many 93 = .ok (.getfield 12, 3) := by decide +kernel
theorem dX9_many_96 : decode cX9_many 96 = .ok (.getfield 130, 3) := by decide +kernel
theorem dX9_many_99 : decode cX9_many 99 = .ok (.ireturn, 1) := by decide +kernel
theorem dX9_many_100 : decode cX9_many 100 = .ok (.aload_n 0, 1) := by decide +kernel
theorem dX9_many_101 : decode cX9_many 101 = .ok (.getfield 12, 3) := by decide +kernel
theorem dX9_many_104 : decode cX9_many 104 = .ok (.invokevirtual 301, 3) := by decide +kernel
theorem dX9_many_107 : decode cX9_many 107 = .ok (.ireturn, 1) := by decide +kernel
theorem dX9_many_108 : decode cX9_many 108 = .ok (.bipush (-2), 2) := by decide +kernel
theorem dX9_many_110 : decode cX9_many 110 = .ok (.ireturn, 1) := by decide +kernel
theorem dX9_isNoCafe_0 : decode cX9_isNoCafe 0 = .ok (.aload_n 0, 1) := by decide +kernel
theorem dX9_isNoCafe_1 : decode cX9_isNoCafe 1 = .ok (.getfield 12, 3) := by decide +kernel
theorem dX9_isNoCafe_4 : decode cX9_isNoCafe 4 = .ok (.getfield 108, 3) := by decide +kernel
theorem dX9_isNoCafe_7 : decode cX9_isNoCafe 7 = .ok (.ifCond .ne 7, 3) := by decide +kernel
theorem dX9_isNoCafe_10 : decode cX9_isNoCafe 10 = .ok (.iconst 1, 1) := by decide +kernel
theorem dX9_isNoCafe_11 : decode cX9_isNoCafe 11 = .ok (.goto 4, 3) := by decide +kernel
theorem dX9_isNoCafe_14 : decode cX9_isNoCafe 14 = .ok (.iconst 0, 1) := by decide +kernel
theorem dX9_isNoCafe_15 : decode cX9_isNoCafe 15 = .ok (.ireturn, 1) := by decide +kernel
theorem dX9_isNoSheet_0 : decode cX9_isNoSheet 0 = .ok (.iload_n 0, 1) := by decide +kernel
theorem dX9_isNoSheet_1 : decode cX9_isNoSheet 1 = .ok (.ifCond .lt 8, 3) := by decide +kernel
theorem dX9_isNoSheet_4 : decode cX9_isNoSheet 4 = .ok (.iload_n 0, 1) := by decide +kernel
theorem dX9_isNoSheet_5 : decode cX9_isNoSheet 5 = .ok (.iconst 4, 1) := by decide +kernel
theorem dX9_isNoSheet_6 : decode cX9_isNoSheet 6 = .ok (.if_icmp .lt 7, 3) := by decide +kernel
theorem dX9_isNoSheet_9 : decode cX9_isNoSheet 9 = .ok (.iconst 1, 1) := by decide +kernel
theorem dX9_isNoSheet_10 : decode cX9_isNoSheet 10 = .ok (.goto 4, 3) := by decide +kernel
theorem dX9_isNoSheet_13 : decode cX9_isNoSheet 13 = .ok (.iconst 0, 1) := by decide +kernel
theorem dX9_isNoSheet_14 : decode cX9_isNoSheet 14 = .ok (.ireturn, 1) := by decide +kernel
theorem dX9_isNoSort_0 : decode cX9_isNoSort 0 = .ok (.iload_n 0, 1) := by decide +kernel
theorem dX9_isNoSort_1 : decode cX9_isNoSort 1 = .ok (.ifCond .lt 8, 3) := by decide +kernel
theorem dX9_isNoSort_4 : decode cX9_isNoSort 4 = .ok (.iload_n 0, 1) := by decide +kernel
theorem dX9_isNoSort_5 : decode cX9_isNoSort 5 = .ok (.iconst 2, 1) := by decide +kernel
theorem dX9_isNoSort_6 : decode cX9_isNoSort 6 = .ok (.if_icmp .le 7, 3) := by decide +kernel
theorem dX9_isNoSort_9 : decode cX9_isNoSort 9 = .ok (.iconst 1, 1) := by decide +kernel
theorem dX9_isNoSort_10 : decode cX9_isNoSort 10 = .ok (.goto 4, 3) := by decide +kernel
theorem dX9_isNoSort_13 : decode cX9_isNoSort 13 = .ok (.iconst 0, 1) := by decide +kernel
theorem dX9_isNoSort_14 : decode cX9_isNoSort 14 = .ok (.ireturn, 1) := by decide +kernel
theorem dX9_isNoKind_0 : decode cX9_isNoKind 0 = .ok (.iload_n 0, 1) := by decide +kernel
theorem dX9_isNoKind_1 : decode cX9_isNoKind 1 = .ok (.ifCond .lt 8, 3) := by decide +kernel
theorem dX9_isNoKind_4 : decode cX9_isNoKind 4 = .ok (.iload_n 0, 1) := by decide +kernel
theorem dX9_isNoKind_5 : decode cX9_isNoKind 5 = .ok (.iconst 2, 1) := by decide +kernel
theorem dX9_isNoKind_6 : decode cX9_isNoKind 6 = .ok (.if_icmp .le 7, 3) := by decide +kernel
theorem dX9_isNoKind_9 : decode cX9_isNoKind 9 = .ok (.iconst 1, 1) := by decide +kernel
theorem dX9_isNoKind_10 : decode cX9_isNoKind 10 = .ok (.goto 4, 3) := by decide +kernel
theorem dX9_isNoKind_13 : decode cX9_isNoKind 13 = .ok (.iconst 0, 1) := by decide +kernel
theorem dX9_isNoKind_14 : decode cX9_isNoKind 14 = .ok (.ireturn, 1) := by decide +kernel
theorem dX9_isNoTaking_0 : decode cX9_isNoTaking 0 = .ok (.iload_n 0, 1) := by decide +kernel
theorem dX9_isNoTaking_1 : decode cX9_isNoTaking 1 = .ok (.ifCond .lt 39, 3) := by decide +kernel
theorem dX9_isNoTaking_4 : decode cX9_isNoTaking 4 = .ok (.iload_n 0, 1) := by decide +kernel
theorem dX9_isNoTaking_5 : decode cX9_isNoTaking 5 = .ok (.bipush 100, 2) := by decide +kernel
theorem dX9_isNoTaking_7 : decode cX9_isNoTaking 7 = .ok (.if_icmp .gt 33, 3) := by decide +kernel
theorem dX9_isNoTaking_10 : decode cX9_isNoTaking 10 = .ok (.iload_n 1, 1) := by decide +kernel
theorem dX9_isNoTaking_11 : decode cX9_isNoTaking 11 = .ok (.ifCond .lt 29, 3) := by decide +kernel
theorem dX9_isNoTaking_14 : decode cX9_isNoTaking 14 = .ok (.iload_n 1, 1) := by decide +kernel
theorem dX9_isNoTaking_15 : decode cX9_isNoTaking 15 = .ok (.bipush 8, 2) := by decide +kernel
theorem dX9_isNoTaking_17 : decode cX9_isNoTaking 17 = .ok (.if_icmp .gt 23, 3) := by decide +kernel
theorem dX9_isNoTaking_20 : decode cX9_isNoTaking 20 = .ok (.iload_n 2, 1) := by decide +kernel
theorem dX9_isNoTaking_21 : decode cX9_isNoTaking 21 = .ok (.ifCond .lt 19, 3) := by decide +kernel
theorem dX9_isNoTaking_24 : decode cX9_isNoTaking 24 = .ok (.iload_n 2, 1) := by decide +kernel
theorem dX9_isNoTaking_25 : decode cX9_isNoTaking 25 = .ok (.bipush 9, 2) := by decide +kernel
theorem dX9_isNoTaking_27 : decode cX9_isNoTaking 27 = .ok (.if_icmp .gt 13, 3) := by decide +kernel
theorem dX9_isNoTaking_30 : decode cX9_isNoTaking 30 = .ok (.iload_n 3, 1) := by decide +kernel
theorem dX9_isNoTaking_31 : decode cX9_isNoTaking 31 = .ok (.ifCond .lt 9, 3) := by decide +kernel
theorem dX9_isNoTaking_34 : decode cX9_isNoTaking 34 = .ok (.iload_n 3, 1) := by decide +kernel
theorem dX9_isNoTaking_35 : decode cX9_isNoTaking 35 = .ok (.bipush 9, 2) := by decide +kernel
theorem dX9_isNoTaking_37 : decode cX9_isNoTaking 37 = .ok (.if_icmp .le 7, 3) := by decide +kernel
theorem dX9_isNoTaking_40 : decode cX9_isNoTaking 40 = .ok (.iconst 1, 1) := by decide +kernel
theorem dX9_isNoTaking_41 : decode cX9_isNoTaking 41 = .ok (.goto 4, 3) := by decide +kernel
theorem dX9_isNoTaking_44 : decode cX9_isNoTaking 44 = .ok (.iconst 0, 1) := by decide +kernel
theorem dX9_isNoTaking_45 : decode cX9_isNoTaking 45 = .ok (.ireturn, 1) := by decide +kernel
theorem dX9_failed_0 : decode cX9_failed 0 = .ok (.aload_n 0, 1) := by decide +kernel
theorem dX9_failed_1 : decode cX9_failed 1 = .ok (.iload_n 1, 1) := by decide +kernel
theorem dX9_failed_2 : decode cX9_failed 2 = .ok (.putfield 68, 3) := by decide +kernel
theorem dX9_failed_5 : decode cX9_failed 5 = .ok (.bipush (-10), 2) := by decide +kernel
theorem dX9_failed_7 : decode cX9_failed 7 = .ok (.iload_n 1, 1) := by decide +kernel
theorem dX9_failed_8 : decode cX9_failed 8 = .ok (.isub, 1) := by decide +kernel
theorem dX9_failed_9 : decode cX9_failed 9 = .ok (.ireturn, 1) := by decide +kernel
theorem dX9_lostBy_0 : decode cX9_lostBy 0 = .ok (.aload_n 0, 1) := by decide +kernel
theorem dX9_lostBy_1 : decode cX9_lostBy 1 = .ok (.iload_n 1, 1) := by decide +kernel
theorem dX9_lostBy_2 : decode cX9_lostBy 2 = .ok (.putfield 68, 3) := by decide +kernel
theorem dX9_lostBy_5 : decode cX9_lostBy 5 = .ok (.ldc2_w 212, 3) := by decide +kernel
theorem dX9_lostBy_8 : decode cX9_lostBy 8 = .ok (.lreturn, 1) := by decide +kernel
theorem dX9_forget_0 : decode cX9_forget 0 = .ok (.aload_n 0, 1) := by decide +kernel
theorem dX9_forget_1 : decode cX9_forget 1 = .ok (.iconst 0, 1) := by decide +kernel
theorem dX9_forget_2 : decode cX9_forget 2 = .ok (.putfield 304, 3) := by decide +kernel
theorem dX9_forget_5 : decode cX9_forget 5 = .ok (.aload_n 0, 1) := by decide +kernel
theorem dX9_forget_6 : decode cX9_forget 6 = .ok (.iconst 0, 1) := by decide +kernel
theorem dX9_forget_7 : decode cX9_forget 7 = .ok (.putfield 220, 3) := by decide +kernel
theorem dX9_forget_10 : decode cX9_forget 10 = .ok (.aload_n 0, 1) := by decide +kernel
theorem dX9_forget_11 : decode cX9_forget 11 = .ok (.iconst 0, 1) := by decide +kernel
theorem dX9_forget_12 : decode cX9_forget 12 = .ok (.putfield 307, 3) := by decide +kernel
theorem dX9_forget_15 : decode cX9_forget 15 = .ok (.aload_n 0, 1) := by decide +kernel
theorem dX9_forget_16 : decode cX9_forget 16 = .ok (.iconst 0, 1) := by decide +kernel
theorem dX9_forget_17 : decode cX9_forget 17 = .ok (.putfield 239, 3) := by decide +kernel
theorem dX9_forget_20 : decode cX9_forget 20 = .ok (.return_, 1) := by decide +kernel
theorem dX9_reckonDay_0 : decode cX9_reckonDay 0 = .ok (.aload_n 0, 1) := by decide +kernel
theorem dX9_reckonDay_1 : decode cX9_reckonDay 1 = .ok (.getfield 304, 3) := by decide +kernel
theorem dX9_reckonDay_4 : decode cX9_reckonDay 4 = .ok (.ifCond .ne 24, 3) := by decide +kernel
theorem dX9_reckonDay_7 : decode cX9_reckonDay 7 = .ok (.aload_n 0, 1) := by decide +kernel
theorem dX9_reckonDay_8 : decode cX9_reckonDay 8 = .ok (.getfield 47, 3) := by decide +kernel
theorem dX9_reckonDay_11 : decode cX9_reckonDay 11 = .ok (.aload_n 0, 1) := by decide +kernel
theorem dX9_reckonDay_12 : decode cX9_reckonDay 12 = .ok (.getfield 12, 3) := by decide +kernel
theorem dX9_reckonDay_15 : decode cX9_reckonDay 15 = .ok (.iconst (-1), 1) := by decide +kernel
theorem dX9_reckonDay_16 : decode cX9_reckonDay 16 = .ok (.sipush 399, 3) := by decide +kernel
theorem dX9_reckonDay_19 : decode cX9_reckonDay 19 = .ok (.invokevirtual 199, 3) := by decide +kernel
theorem dX9_reckonDay_22 : decode cX9_reckonDay 22 = .ok (.pop, 1) := by decide +kernel
theorem dX9_reckonDay_23 : decode cX9_reckonDay 23 = .ok (.aload_n 0, 1) := by decide +kernel
theorem dX9_reckonDay_24 : decode cX9_reckonDay 24 = .ok (.iconst 1, 1) := by decide +kernel
theorem dX9_reckonDay_25 : decode cX9_reckonDay 25 = .ok (.putfield 304, 3) := by decide +kernel
theorem dX9_reckonDay_28 : decode cX9_reckonDay 28 = .ok (.return_, 1) := by decide +kernel
theorem dX9_reckonCoins_0 : decode cX9_reckonCoins 0 = .ok (.aload_n 0, 1) := by decide +kernel
theorem dX9_reckonCoins_1 : decode cX9_reckonCoins 1 = .ok (.getfield 307, 3) := by decide +kernel
theorem dX9_reckonCoins_4 : decode cX9_reckonCoins 4 = .ok (.ifCond .eq 4, 3) := by decide +kernel
theorem dX9_reckonCoins_7 : decode cX9_reckonCoins 7 = .ok (.return_, 1) := by decide +kernel
theorem dX9_reckonCoins_8 : decode cX9_reckonCoins 8 = .ok (.aload_n 0, 1) := by decide +kernel
theorem dX9_reckonCoins_9 : decode cX9_reckonCoins 9 = .ok (.getfield 18, 3) := by decide +kernel
theorem dX9_reckonCoins_12 : decode cX9_reckonCoins 12 = .ok (.aload_n 0, 1) := by decide +kernel
theorem dX9_reckonCoins_13 : decode cX9_reckonCoins 13 = .ok (.getfield 12, 3) := by decide +kernel
theorem dX9_reckonCoins_16 : decode cX9_reckonCoins 16 = .ok (.invokevirtual 232, 3) := by decide +kernel
theorem dX9_reckonCoins_19 : decode cX9_reckonCoins 19 = .ok (.iconst 0, 1) := by decide +kernel
theorem dX9_reckonCoins_20 : decode cX9_reckonCoins 20 = .ok (.istore_n 1, 1) := by decide +kernel
theorem dX9_reckonCoins_21 : decode cX9_reckonCoins 21 = .ok (.iload_n 1, 1) := by decide +kernel
theorem dX9_reckonCoins_22 : decode cX9_reckonCoins 22 = .ok (.bipush 30, 2) := by decide +kernel
theorem dX9_reckonCoins_24 : decode cX9_reckonCoins 24 = .ok (.if_icmp .gt 38, 3) := by decide +kernel
theorem dX9_reckonCoins_27 : decode cX9_reckonCoins 27 = .ok (.aload_n 0, 1) := by decide +kernel
theorem dX9_reckonCoins_28 : decode cX9_reckonCoins 28 = .ok (.getfield 18, 3) := by decide +kernel
theorem dX9_reckonCoins_31 : decode cX9_reckonCoins 31 = .ok (.iload_n 1, 1) := by decide +kernel
theorem dX9_reckonCoins_32 : decode cX9_reckonCoins 32 = .ok (.putfield 124, 3) := by decide +kernel
theorem dX9_reckonCoins_35 : decode cX9_reckonCoins 35 = .ok (.aload_n 0, 1) := by decide +kernel
theorem dX9_reckonCoins_36 : decode cX9_reckonCoins 36 = .ok (.getfield 61, 3) := by decide +kernel
theorem dX9_reckonCoins_39 : decode cX9_reckonCoins 39 = .ok (.iload_n 1, 1) := by decide +kernel
theorem dX9_reckonCoins_40 : decode cX9_reckonCoins 40 = .ok (.aload_n 0, 1) := by decide +kernel
theorem dX9_reckonCoins_41 : decode cX9_reckonCoins 41 = .ok (.getfield 51, 3) := by decide +kernel
theorem dX9_reckonCoins_44 : decode cX9_reckonCoins 44 = .ok (.aload_n 0, 1) := by decide +kernel
theorem dX9_reckonCoins_45 : decode cX9_reckonCoins 45 = .ok (.getfield 18, 3) := by decide +kernel
theorem dX9_reckonCoins_48 : decode cX9_reckonCoins 48 = .ok (.iconst (-1), 1) := by decide +kernel
theorem dX9_reckonCoins_49 : decode cX9_reckonCoins 49 = .ok (.sipush 399, 3) := by decide +kernel
theorem dX9_reckonCoins_52 : decode cX9_reckonCoins 52 = .ok (.invokevirtual 199, 3) := by decide +kernel
theorem dX9_reckonCoins_55 : decode cX9_reckonCoins 55 = .ok (.iastore, 1) := by decide +kernel
theorem dX9_reckonCoins_56 : decode cX9_reckonCoins 56 = .ok (.iinc 1 1, 3) := by decide +kernel
theorem dX9_reckonCoins_59 : decode cX9_reckonCoins 59 = .ok (.goto (-38), 3) := by decide +kernel
theorem dX9_reckonCoins_62 : decode cX9_reckonCoins 62 = .ok (.aload_n 0, 1) := by decide +kernel
theorem dX9_reckonCoins_63 : decode cX9_reckonCoins 63 = .ok (.iconst 1, 1) := by decide +kernel
theorem dX9_reckonCoins_64 : decode cX9_reckonCoins 64 = .ok (.putfield 307, 3) := by decide +kernel
theorem dX9_reckonCoins_67 : decode cX9_reckonCoins 67 = .ok (.return_, 1) := by decide +kernel
theorem dX9_findMix_0 : decode cX9_findMix 0 = .ok (.aload_n 0, 1) := by decide +kernel
theorem dX9_findMix_1 : decode cX9_findMix 1 = .ok (.getfield 18, 3) := by decide +kernel
theorem dX9_findMix_4 : decode cX9_findMix 4 = .ok (.aload_n 0, 1) := by decide +kernel
theorem dX9_findMix_5 : decode cX9_findMix 5 = .ok (.getfield 12, 3) := by decide +kernel
theorem dX9_findMix_8 : decode cX9_findMix 8 = .ok (.invokevirtual 232, 3) := by decide +kernel
theorem dX9_findMix_11 : decode cX9_findMix 11 = .ok (.aload_n 0, 1) := by decide +kernel
theorem dX9_findMix_12 : decode cX9_findMix 12 = .ok (.getfield 18, 3) := by decide +kernel
theorem dX9_findMix_15 : decode cX9_findMix 15 = .ok (.bipush (-9), 2) := by decide +kernel
theorem dX9_findMix_17 : decode cX9_findMix 17 = .ok (.putfield 130, 3) := by decide +kernel
theorem dX9_findMix_20 : decode cX9_findMix 20 = .ok (.aload_n 0, 1) := by decide +kernel
theorem dX9_findMix_21 : decode cX9_findMix 21 = .ok (.getfield 65, 3) := by decide +kernel
theorem dX9_findMix_24 : decode cX9_findMix 24 = .ok (.iconst 0, 1) := by decide +kernel
theorem dX9_findMix_25 : decode cX9_findMix 25 = .ok (.iconst (-1), 1) := by decide +kernel
theorem dX9_findMix_26 : decode cX9_findMix 26 = .ok (.iastore, 1) := by decide +kernel
theorem dX9_findMix_27 : decode cX9_findMix 27 = .ok (.iconst 0, 1) := by decide +kernel
theorem dX9_findMix_28 : decode cX9_findMix 28 = .ok (.istore_n 2, 1) := by decide +kernel
theorem dX9_findMix_29 : decode cX9_findMix 29 = .ok (.iload_n 2, 1) := by decide +kernel
theorem dX9_findMix_30 : decode cX9_findMix 30 = .ok (.bipush 6, 2) := by decide +kernel
theorem dX9_findMix_32 : decode cX9_findMix 32 = .ok (.if_icmp .gt 99, 3) := by decide +kernel
theorem dX9_findMix_35 : decode cX9_findMix 35 = .ok (.iconst 0, 1) := by decide +kernel
theorem dX9_findMix_36 : decode cX9_findMix 36 = .ok (.istore_n 3, 1) := by decide +kernel
theorem dX9_findMix_37 : decode cX9_findMix 37 = .ok (.iload_n 3, 1) := by decide +kernel
theorem dX9_findMix_38 : decode cX9_findMix 38 = .ok (.bipush 6, 2) := by decide +kernel
theorem dX9_findMix_40 : decode cX9_findMix 40 = .ok (.iload_n 2, 1) := by decide +kernel
theorem dX9_findMix_41 : decode cX9_findMix 41 = .ok (.isub, 1) := by decide +kernel
theorem dX9_findMix_42 : decode cX9_findMix 42 = .ok (.if_icmp .gt 83, 3) := by decide +kernel
theorem dX9_findMix_45 : decode cX9_findMix 45 = .ok (.iconst 0, 1) := by decide +kernel
theorem dX9_findMix_46 : decode cX9_findMix 46 = .ok (.istore 4, 2) := by decide +kernel
theorem dX9_findMix_48 : decode cX9_findMix 48 = .ok (.iload 4, 2) := by decide +kernel
theorem dX9_findMix_50 : decode cX9_findMix 50 = .ok (.bipush 6, 2) := by decide +kernel
theorem dX9_findMix_52 : decode cX9_findMix 52 = .ok (.iload_n 2, 1) := by decide +kernel
theorem dX9_findMix_53 : decode cX9_findMix 53 = .ok (.isub, 1) := by decide +kernel
theorem dX9_findMix_54 : decode cX9_findMix 54 = .ok (.iload_n 3, 1) := by decide +kernel
theorem dX9_findMix_55 : decode cX9_findMix 55 = .ok (.isub, 1) := by decide +kernel
theorem dX9_findMix_56 : decode cX9_findMix 56 = .ok (.if_icmp .gt 63, 3) := by decide +kernel
theorem dX9_findMix_59 : decode cX9_findMix 59 = .ok (.iconst 2, 1) := by decide +kernel
theorem dX9_findMix_60 : decode cX9_findMix 60 = .ok (.iload_n 2, 1) := by decide +kernel
theorem dX9_findMix_61 : decode cX9_findMix 61 = .ok (.imul, 1) := by decide +kernel
theorem dX9_findMix_62 : decode cX9_findMix 62 = .ok (.iconst 4, 1) := by decide +kernel
theorem dX9_findMix_63 : decode cX9_findMix 63 = .ok (.iload_n 3, 1) := by decide +kernel
theorem dX9_findMix_64 : decode cX9_findMix 64 = .ok (.imul, 1) := by decide +kernel
theorem dX9_findMix_65 : decode cX9_findMix 65 = .ok (.iadd, 1) := by decide +kernel
theorem dX9_findMix_66 : decode cX9_findMix 66 = .ok (.bipush 6, 2) := by decide +kernel
theorem dX9_findMix_68 : decode cX9_findMix 68 = .ok (.iload 4, 2) := by decide +kernel
theorem dX9_findMix_70 : decode cX9_findMix 70 = .ok (.imul, 1) := by decide +kernel
theorem dX9_findMix_71 : decode cX9_findMix 71 = .ok (.iadd, 1) := by decide +kernel
theorem dX9_findMix_72 : decode cX9_findMix 72 = .ok (.iload_n 1, 1) := by decide +kernel
theorem dX9_findMix_73 : decode cX9_findMix 73 = .ok (.if_icmp .le 6, 3) := by decide +kernel
theorem dX9_findMix_76 : decode cX9_findMix 76 = .ok (.goto 37, 3) := by decide +kernel
theorem dX9_findMix_79 : decode cX9_findMix 79 = .ok (.aload_n 0, 1) := by decide +kernel
theorem dX9_findMix_80 : decode cX9_findMix 80 = .ok (.getfield 18, 3) := by decide +kernel
theorem dX9_findMix_83 : decode cX9_findMix 83 = .ok (.iload_n 2, 1) := by decide +kernel
theorem dX9_findMix_84 : decode cX9_findMix 84 = .ok (.iload_n 3, 1) := by decide +kernel
theorem dX9_findMix_85 : decode cX9_findMix 85 = .ok (.iload 4, 2) := by decide +kernel
theorem dX9_findMix_87 : decode cX9_findMix 87 = .ok (.invokevirtual 310, 3) := by decide +kernel
theorem dX9_findMix_90 : decode cX9_findMix 90 = .ok (.aload_n 0, 1) := by decide +kernel
theorem dX9_findMix_91 : decode cX9_findMix 91 = .ok (.aload_n 0, 1) := by decide +kernel
theorem dX9_findMix_92 : decode cX9_findMix 92 = .ok (.getfield 51, 3) := by decide +kernel
theorem dX9_findMix_95 : decode cX9_findMix 95 = .ok (.aload_n 0, 1) := by decide +kernel
theorem dX9_findMix_96 : decode cX9_findMix 96 = .ok (.getfield 18, 3) := by decide +kernel
theorem dX9_findMix_99 : decode cX9_findMix 99 = .ok (.iconst (-1), 1) := by decide +kernel
theorem dX9_findMix_100 : decode cX9_findMix 100 = .ok (.sipush 399, 3) := by decide +kernel
theorem dX9_findMix_103 : decode cX9_findMix 103 = .ok (.invokevirtual 199, 3) := by decide +kernel
theorem dX9_findMix_106 : decode cX9_findMix 106 = .ok (.iload_n 2, 1) := by decide +kernel
theorem dX9_findMix_107 : decode cX9_findMix 107 = .ok (.iload_n 3, 1) := by decide +kernel
theorem dX9_findMix_108 : decode cX9_findMix 108 = .ok (.iload 4, 2) := by decide +kernel
theorem dX9_findMix_110 : decode cX9_findMix 110 = .ok (.invokevirtual 314, 3) := by decide +kernel
theorem dX9_findMix_113 : decode cX9_findMix 113 = .ok (.iinc 4 1, 3) := by decide +kernel
theorem dX9_findMix_116 : decode cX9_findMix 116 = .ok (.goto (-68), 3) := by decide +kernel
theorem dX9_findMix_119 : decode cX9_findMix 119 = .ok (.iinc 3 1, 3) := by decide +kernel
theorem dX9_findMix_122 : decode cX9_findMix 122 = .ok (.goto (-85), 3) := by decide +kernel
theorem dX9_findMix_125 : decode cX9_findMix 125 = .ok (.iinc 2 1, 3) := by decide +kernel
theorem dX9_findMix_128 : decode cX9_findMix 128 = .ok (.goto (-99), 3) := by decide +kernel
theorem dX9_findMix_131 : decode cX9_findMix 131 = .ok (.return_, 1) := by decide +kernel
theorem dX9_keepBetterMix_0 : decode cX9_keepBetterMix 0 = .ok (.iload_n 1, 1) := by decide +kernel
theorem dX9_keepBetterMix_1 : decode cX9_keepBetterMix 1 = .ok (.aload_n 0, 1) := by decide +kernel
theorem dX9_keepBetterMix_2 : decode cX9_keepBetterMix 2 = .ok (.getfield 65, 3) := by decide +kernel
theorem dX9_keepBetterMix_5 : decode cX9_keepBetterMix 5 = .ok (.iconst 0, 1) := by decide +kernel
theorem dX9_keepBetterMix_6 : decode cX9_keepBetterMix 6 = .ok (.iaload, 1) := by decide +kernel
theorem dX9_keepBetterMix_7 : decode cX9_keepBetterMix 7 = .ok (.if_icmp .le 32, 3) := by decide +kernel
theorem dX9_keepBetterMix_10 : decode cX9_keepBetterMix 10 = .ok (.aload_n 0, 1) := by decide +kernel
theorem dX9_keepBetterMix_11 : decode cX9_keepBetterMix 11 = .ok (.getfield 65, 3) := by decide +kernel
theorem dX9_keepBetterMix_14 : decode cX9_keepBetterMix 14 = .ok (.iconst 0, 1) := by decide +kernel
theorem dX9_keepBetterMix_15 : decode cX9_keepBetterMix 15 = .ok (.iload_n 1, 1) := by decide +kernel
theorem dX9_keepBetterMix_16 : decode cX9_keepBetterMix 16 = .ok (.iastore, 1) := by decide +kernel
theorem dX9_keepBetterMix_17 : decode cX9_keepBetterMix 17 = .ok (.aload_n 0, 1) := by decide +kernel
theorem dX9_keepBetterMix_18 : decode cX9_keepBetterMix 18 = .ok (.getfield 65, 3) := by decide +kernel
theorem dX9_keepBetterMix_21 : decode cX9_keepBetterMix 21 = .ok (.iconst 1, 1) := by decide +kernel
theorem dX9_keepBetterMix_22 : decode cX9_keepBetterMix 22 = .ok (.iload_n 2, 1) := by decide +kernel
theorem dX9_keepBetterMix_23 : decode cX9_keepBetterMix 23 = .ok (.iastore, 1) := by decide +kernel
theorem dX9_keepBetterMix_24 : decode cX9_keepBetterMix 24 = .ok (.aload_n 0, 1) := by decide +kernel
theorem dX9_keepBetterMix_25 : decode cX9_keepBetterMix 25 = .ok (.getfield 65, 3) := by decide +kernel
theorem dX9_keepBetterMix_28 : decode cX9_keepBetterMix 28 = .ok (.iconst 2, 1) := by decide +kernel
theorem dX9_keepBetterMix_29 : decode cX9_keepBetterMix 29 = .ok (.iload_n 3, 1) := by decide +kernel
theorem dX9_keepBetterMix_30 : decode cX9_keepBetterMix 30 = .ok (.iastore, 1) := by decide +kernel
theorem dX9_keepBetterMix_31 : decode cX9_keepBetterMix 31 = .ok (.aload_n 0, 1) := by decide +kernel
theorem dX9_keepBetterMix_32 : decode cX9_keepBetterMix 32 = .ok (.getfield 65, 3) := by decide +kernel
theorem dX9_keepBetterMix_35 : decode cX9_keepBetterMix 35 = .ok (.iconst 3, 1) := by decide +kernel
theorem dX9_keepBetterMix_36 : decode cX9_keepBetterMix 36 = .ok (.iload 4, 2) := by decide +kernel
theorem dX9_keepBetterMix_38 : decode cX9_keepBetterMix 38 = .ok (.iastore, 1) := by decide +kernel
theorem dX9_keepBetterMix_39 : decode cX9_keepBetterMix 39 = .ok (.return_, 1) := by decide +kernel
theorem dX9_firstFault_0 : decode cX9_firstFault 0 = .ok (.iconst 0, 1) := by decide +kernel
theorem dX9_firstFault_1 : decode cX9_firstFault 1 = .ok (.istore_n 3, 1) := by decide +kernel
theorem dX9_firstFault_2 : decode cX9_firstFault 2 = .ok (.iload_n 3, 1) := by decide +kernel
theorem dX9_firstFault_3 : decode cX9_firstFault 3 = .ok (.iload_n 2, 1) := by decide +kernel
theorem dX9_firstFault_4 : decode cX9_firstFault 4 = .ok (.if_icmp .ge 26, 3) := by decide +kernel
theorem dX9_firstFault_7 : decode cX9_firstFault 7 = .ok (.iload_n 3, 1) := by decide +kernel
theorem dX9_firstFault_8 : decode cX9_firstFault 8 = .ok (.aload_n 0, 1) := by decide +kernel
theorem dX9_firstFault_9 : decode cX9_firstFault 9 = .ok (.getfield 275, 3) := by decide +kernel
theorem dX9_firstFault_12 : decode cX9_firstFault 12 = .ok (.iload_n 1, 1) := by decide +kernel
theorem dX9_firstFault_13 : decode cX9_firstFault 13 = .ok (.iload_n 3, 1) := by decide +kernel
theorem dX9_firstFault_14 : decode cX9_firstFault 14 = .ok (.iadd, 1) := by decide +kernel
theorem dX9_firstFault_15 : decode cX9_firstFault 15 = .ok (.iaload, 1) := by decide +kernel
theorem dX9_firstFault_16 : decode cX9_firstFault 16 = .ok (.invokestatic 318, 3) := by decide +kernel
theorem dX9_firstFault_19 : decode cX9_firstFault 19 = .ok (.ifCond .ne 5, 3) := by decide +kernel
theorem dX9_firstFault_22 : decode cX9_firstFault 22 = .ok (.iload_n 3, 1) := by decide +kernel
theorem dX9_firstFault_23 : decode cX9_firstFault 23 = .ok (.ireturn, 1) := by decide +kernel
theorem dX9_firstFault_24 : decode cX9_firstFault 24 = .ok (.iinc 3 1, 3) := by decide +kernel
theorem dX9_firstFault_27 : decode cX9_firstFault 27 = .ok (.goto (-25), 3) := by decide +kernel
theorem dX9_firstFault_30 : decode cX9_firstFault 30 = .ok (.iload_n 2, 1) := by decide +kernel
theorem dX9_firstFault_31 : decode cX9_firstFault 31 = .ok (.iconst 3, 1) := by decide +kernel
theorem dX9_firstFault_32 : decode cX9_firstFault 32 = .ok (.irem, 1) := by decide +kernel
theorem dX9_firstFault_33 : decode cX9_firstFault 33 = .ok (.iconst 2, 1) := by decide +kernel
theorem dX9_firstFault_34 : decode cX9_firstFault 34 = .ok (.if_icmp .ne 8, 3) := by decide +kernel
theorem dX9_firstFault_37 : decode cX9_firstFault 37 = .ok (.bipush (-9), 2) := by decide +kernel
theorem dX9_firstFault_39 : decode cX9_firstFault 39 = .ok (.goto 4, 3) := by decide +kernel
theorem dX9_firstFault_42 : decode cX9_firstFault 42 = .ok (.iload_n 2, 1) := by decide +kernel
theorem dX9_firstFault_43 : decode cX9_firstFault 43 = .ok (.ireturn, 1) := by decide +kernel
theorem dX9_goesOn_0 : decode cX9_goesOn 0 = .ok (.iload_n 0, 1) := by decide +kernel
theorem dX9_goesOn_1 : decode cX9_goesOn 1 = .ok (.iconst 3, 1) := by decide +kernel
theorem dX9_goesOn_2 : decode cX9_goesOn 2 = .ok (.irem, 1) := by decide +kernel
theorem dX9_goesOn_3 : decode cX9_goesOn 3 = .ok (.istore_n 2, 1) := by decide +kernel
theorem dX9_goesOn_4 : decode cX9_goesOn 4 = .ok (.iload_n 2, 1) := by decide +kernel
theorem dX9_goesOn_5 : decode cX9_goesOn 5 = .ok (.ifCond .ne 18, 3) := by decide +kernel
theorem dX9_goesOn_8 : decode cX9_goesOn 8 = .ok (.iload_n 1, 1) := by decide +kernel
theorem dX9_goesOn_9 : decode cX9_goesOn 9 = .ok (.invokestatic 321, 3) := by decide +kernel
theorem dX9_goesOn_12 : decode cX9_goesOn 12 = .ok (.bipush (-9), 2) := by decide +kernel
theorem dX9_goesOn_14 : decode cX9_goesOn 14 = .ok (.if_icmp .eq 7, 3) := by decide +kernel
theorem dX9_goesOn_17 : decode cX9_goesOn 17 = .ok (.iconst 1, 1) := by decide +kernel
theorem dX9_goesOn_18 : decode cX9_goesOn 18 = .ok (.goto 4, 3) := by decide +kernel
theorem dX9_goesOn_21 : decode cX9_goesOn 21 = .ok (.iconst 0, 1) := by decide +kernel
theorem dX9_goesOn_22 : decode cX9_goesOn 22 = .ok (.ireturn, 1) := by decide +kernel
theorem dX9_goesOn_23 : decode cX9_goesOn 23 = .ok (.iload_n 2, 1) := by decide +kernel
theorem dX9_goesOn_24 : decode cX9_goesOn 24 = .ok (.iconst 1, 1) := by decide +kernel
theorem dX9_goesOn_25 : decode cX9_goesOn 25 = .ok (.if_icmp .ne 21, 3) := by decide +kernel
theorem dX9_goesOn_28 : decode cX9_goesOn 28 = .ok (.iload_n 1, 1) := by decide +kernel
theorem dX9_goesOn_29 : decode cX9_goesOn 29 = .ok (.bipush 49, 2) := by decide +kernel
theorem dX9_goesOn_31 : decode cX9_goesOn 31 = .ok (.if_icmp .lt 13, 3) := by decide +kernel
theorem dX9_goesOn_34 : decode cX9_goesOn 34 = .ok (.iload_n 1, 1) := by decide +kernel
theorem dX9_goesOn_35 : decode cX9_goesOn 35 = .ok (.bipush 54, 2) := by decide +kernel
theorem dX9_goesOn_37 : decode cX9_goesOn 37 = .ok (.if_icmp .gt 7, 3) := by decide +kernel
theorem dX9_goesOn_40 : decode cX9_goesOn 40 = .ok (.iconst 1, 1) := by decide +kernel
theorem dX9_goesOn_41 : decode cX9_goesOn 41 = .ok (.goto 4, 3) := by decide +kernel
theorem dX9_goesOn_44 : decode cX9_goesOn 44 = .ok (.iconst 0, 1) := by decide +kernel
theorem dX9_goesOn_45 : decode cX9_goesOn 45 = .ok (.ireturn, 1) := by decide +kernel
theorem dX9_goesOn_46 : decode cX9_goesOn 46 = .ok (.iload_n 1, 1) := by decide +kernel
theorem dX9_goesOn_47 : decode cX9_goesOn 47 = .ok (.bipush 59, 2) := by decide +kernel
theorem dX9_goesOn_49 : decode cX9_goesOn 49 = .ok (.if_icmp .ne 13, 3) := by decide +kernel
theorem dX9_goesOn_52 : decode cX9_goesOn 52 = .ok (.iload_n 0, 1) := by decide +kernel
theorem dX9_goesOn_53 : decode cX9_goesOn 53 = .ok (.bipush 17, 2) := by decide +kernel
theorem dX9_goesOn_55 : decode cX9_goesOn 55 = .ok (.if_icmp .ge 7, 3) := by decide +kernel
theorem dX9_goesOn_58 : decode cX9_goesOn 58 = .ok (.iconst 1, 1) := by decide +kernel
theorem dX9_goesOn_59 : decode cX9_goesOn 59 = .ok (.goto 4, 3) := by decide +kernel
theorem dX9_goesOn_62 : decode cX9_goesOn 62 = .ok (.iconst 0, 1) := by decide +kernel
theorem dX9_goesOn_63 : decode cX9_goesOn 63 = .ok (.ireturn, 1) := by decide +kernel
theorem dX9_placeOf_0 : decode cX9_placeOf 0 = .ok (.iload_n 0, 1) := by decide +kernel
theorem dX9_placeOf_1 : decode cX9_placeOf 1 = .ok (.lookupswitch 41 #[(105, 39), (115, 35), (119, 37)], 35) := by decide +kernel
theorem dX9_placeOf_36 : decode cX9_placeOf 36 = .ok (.iconst 0, 1) := by decide +kernel
theorem dX9_placeOf_37 : decode cX9_placeOf 37 = .ok (.ireturn, 1) := by decide +kernel
theorem dX9_placeOf_38 : decode cX9_placeOf 38 = .ok (.iconst 1, 1) := by decide +kernel
theorem dX9_placeOf_39 : decode cX9_placeOf 39 = .ok (.ireturn, 1) := by decide +kernel
theorem dX9_placeOf_40 : decode cX9_placeOf 40 = .ok (.iconst 2, 1) := by decide +kernel
theorem dX9_placeOf_41 : decode cX9_placeOf 41 = .ok (.ireturn, 1) := by decide +kernel
theorem dX9_placeOf_42 : decode cX9_placeOf 42 = .ok (.bipush (-9), 2) := by decide +kernel
theorem dX9_placeOf_44 : decode cX9_placeOf 44 = .ok (.ireturn, 1) := by decide +kernel
theorem dX9_awaited_0 : decode cX9_awaited 0 = .ok (.lconst 0, 1) := by decide +kernel
theorem dX9_awaited_1 : decode cX9_awaited 1 = .ok (.lstore 5, 2) := by decide +kernel
theorem dX9_awaited_3 : decode cX9_awaited 3 = .ok (.iconst 0, 1) := by decide +kernel
theorem dX9_awaited_4 : decode cX9_awaited 4 = .ok (.istore 7, 2) := by decide +kernel
theorem dX9_awaited_6 : decode cX9_awaited 6 = .ok (.iload 7, 2) := by decide +kernel
theorem dX9_awaited_8 : decode cX9_awaited 8 = .ok (.iload_n 0, 1) := by decide +kernel
theorem dX9_awaited_9 : decode cX9_awaited 9 = .ok (.if_icmp .gt 67, 3) := by decide +kernel
theorem dX9_awaited_12 : decode cX9_awaited 12 = .ok (.iload_n 0, 1) := by decide +kernel
theorem dX9_awaited_13 : decode cX9_awaited 13 = .ok (.iload 7, 2) := by decide +kernel
theorem dX9_awaited_15 : decode cX9_awaited 15 = .ok (.invokestatic 324, 3) := by decide +kernel
theorem dX9_awaited_18 : decode cX9_awaited 18 = .ok (.iload_n 1, 1) := by decide +kernel
theorem dX9_awaited_19 : decode cX9_awaited 19 = .ok (.i2l, 1) := by decide +kernel
theorem dX9_awaited_20 : decode cX9_awaited 20 = .ok (.iload 7, 2) := by decide +kernel
theorem dX9_awaited_22 : decode cX9_awaited 22 = .ok (.invokestatic 256, 3) := by decide +kernel
theorem dX9_awaited_25 : decode cX9_awaited 25 = .ok (.lmul, 1) := by decide +kernel
theorem dX9_awaited_26 : decode cX9_awaited 26 = .ok (.bipush 100, 2) := by decide +kernel
theorem dX9_awaited_28 : decode cX9_awaited 28 = .ok (.iload_n 1, 1) := by decide +kernel
theorem dX9_awaited_29 : decode cX9_awaited 29 = .ok (.isub, 1) := by decide +kernel
theorem dX9_awaited_30 : decode cX9_awaited 30 = .ok (.i2l, 1) := by decide +kernel
theorem dX9_awaited_31 : decode cX9_awaited 31 = .ok (.iload_n 0, 1) := by decide +kernel
theorem dX9_awaited_32 : decode cX9_awaited 32 = .ok (.iload 7, 2) := by decide +kernel
theorem dX9_awaited_34 : decode cX9_awaited 34 = .ok (.isub, 1) := by decide +kernel
theorem dX9_awaited_35 : decode cX9_awaited 35 = .ok (.invokestatic 256, 3) := by decide +kernel
theorem dX9_awaited_38 : decode cX9_awaited 38 = .ok (.lmul, 1) := by decide +kernel
theorem dX9_awaited_39 : decode cX9_awaited 39 = .ok (.lstore 8, 2) := by decide +kernel
theorem dX9_awaited_41 : decode cX9_awaited 41 = .ok (.lload 5, 2) := by decide +kernel
theorem dX9_awaited_43 : decode cX9_awaited 43 = .ok (.lload 8, 2) := by decide +kernel
theorem dX9_awaited_45 : decode cX9_awaited 45 = .ok (.iload_n 3, 1) := by decide +kernel
theorem dX9_awaited_46 : decode cX9_awaited 46 = .ok (.iload 7, 2) := by decide +kernel
theorem dX9_awaited_48 : decode cX9_awaited 48 = .ok (.iload_n 2, 1) := by decide +kernel
theorem dX9_awaited_49 : decode cX9_awaited 49 = .ok (.invokestatic 214, 3) := by decide +kernel
theorem dX9_awaited_52 : decode cX9_awaited 52 = .ok (.imul, 1) := by decide +kernel
theorem dX9_awaited_53 : decode cX9_awaited 53 = .ok (.iload 4, 2) := by decide +kernel
theorem dX9_awaited_55 : decode cX9_awaited 55 = .ok (.iconst 0, 1) := by decide +kernel
theorem dX9_awaited_56 : decode cX9_awaited 56 = .ok (.iload 7, 2) := by decide +kernel
theorem dX9_awaited_58 : decode cX9_awaited 58 = .ok (.iload_n 2, 1) := by decide +kernel
theorem dX9_awaited_59 : decode cX9_awaited 59 = .ok (.isub, 1) := by decide +kernel
theorem dX9_awaited_60 : decode cX9_awaited 60 = .ok (.invokestatic 328, 3) := by decide +kernel
theorem dX9_awaited_63 : decode cX9_awaited 63 = .ok (.imul, 1) := by decide +kernel
theorem dX9_awaited_64 : decode cX9_awaited 64 = .ok (.isub, 1) := by decide +kernel
theorem dX9_awaited_65 : decode cX9_awaited 65 = .ok (.i2l, 1) := by decide +kernel
theorem dX9_awaited_66 : decode cX9_awaited 66 = .ok (.lmul, 1) := by decide +kernel
theorem dX9_awaited_67 : decode cX9_awaited 67 = .ok (.ladd, 1) := by decide +kernel
theorem dX9_awaited_68 : decode cX9_awaited 68 = .ok (.lstore 5, 2) := by decide +kernel
theorem dX9_awaited_70 : decode cX9_awaited 70 = .ok (.iinc 7 1, 3) := by decide +kernel
theorem dX9_awaited_73 : decode cX9_awaited 73 = .ok (.goto (-67), 3) := by decide +kernel
theorem dX9_awaited_76 : decode cX9_awaited 76 = .ok (.lload 5, 2) := by decide +kernel
theorem dX9_awaited_78 : decode cX9_awaited 78 = .ok (.lreturn, 1) := by decide +kernel
theorem dX9_choices_0 : decode cX9_choices 0 = .ok (.lconst 1, 1) := by decide +kernel
theorem dX9_choices_1 : decode cX9_choices 1 = .ok (.lstore_n 2, 1) := by decide +kernel
theorem dX9_choices_2 : decode cX9_choices 2 = .ok (.iconst 1, 1) := by decide +kernel
theorem dX9_choices_3 : decode cX9_choices 3 = .ok (.istore 4, 2) := by decide +kernel
theorem dX9_choices_5 : decode cX9_choices 5 = .ok (.iload 4, 2) := by decide +kernel
theorem dX9_choices_7 : decode cX9_choices 7 = .ok (.iload_n 1, 1) := by decide +kernel
theorem dX9_choices_8 : decode cX9_choices 8 = .ok (.if_icmp .gt 23, 3) := by decide +kernel
theorem dX9_choices_11 : decode cX9_choices 11 = .ok (.lload_n 2, 1) := by decide +kernel
theorem dX9_choices_12 : decode cX9_choices 12 = .ok (.iload_n 0, 1) := by decide +kernel
theorem dX9_choices_13 : decode cX9_choices 13 = .ok (.iload 4, 2) := by decide +kernel
theorem dX9_choices_15 : decode cX9_choices 15 = .ok (.isub, 1) := by decide +kernel
theorem dX9_choices_16 : decode cX9_choices 16 = .ok (.iconst 1, 1) := by decide +kernel
theorem dX9_choices_17 : decode cX9_choices 17 = .ok (.iadd, 1) := by decide +kernel
theorem dX9_choices_18 : decode cX9_choices 18 = .ok (.i2l, 1) := by decide +kernel
theorem dX9_choices_19 : decode cX9_choices 19 = .ok (.lmul, 1) := by decide +kernel
theorem dX9_choices_20 : decode cX9_choices 20 = .ok (.iload 4, 2) := by decide +kernel
theorem dX9_choices_22 : decode cX9_choices 22 = .ok (.i2l, 1) := by decide +kernel
theorem dX9_choices_23 : decode cX9_choices 23 = .ok (.ldiv, 1) := by decide +kernel
theorem dX9_choices_24 : decode cX9_choices 24 = .ok (.lstore_n 2, 1) := by decide +kernel
theorem dX9_choices_25 : decode cX9_choices 25 = .ok (.iinc 4 1, 3) := by decide +kernel
theorem dX9_choices_28 : decode cX9_choices 28 = .ok (.goto (-23), 3) := by decide +kernel
theorem dX9_choices_31 : decode cX9_choices 31 = .ok (.lload_n 2, 1) := by decide +kernel
theorem dX9_choices_32 : decode cX9_choices 32 = .ok (.lreturn, 1) := by decide +kernel
theorem dX9_power_0 : decode cX9_power 0 = .ok (.lconst 1, 1) := by decide +kernel
theorem dX9_power_1 : decode cX9_power 1 = .ok (.lstore_n 3, 1) := by decide +kernel
theorem dX9_power_2 : decode cX9_power 2 = .ok (.iconst 0, 1) := by decide +kernel
theorem dX9_power_3 : decode cX9_power 3 = .ok (.istore 5, 2) := by decide +kernel
theorem dX9_power_5 : decode cX9_power 5 = .ok (.iload 5, 2) := by decide +kernel
theorem dX9_power_7 : decode cX9_power 7 = .ok (.iload_n 2, 1) := by decide +kernel
theorem dX9_power_8 : decode cX9_power 8 = .ok (.if_icmp .ge 13, 3) := by decide +kernel
theorem dX9_power_11 : decode cX9_power 11 = .ok (.lload_n 3, 1) := by decide +kernel
theorem dX9_power_12 : decode cX9_power 12 = .ok (.lload_n 0, 1) := by decide +kernel
theorem dX9_power_13 : decode cX9_power 13 = .ok (.lmul, 1) := by decide +kernel
theorem dX9_power_14 : decode cX9_power 14 = .ok (.lstore_n 3, 1) := by decide +kernel
theorem dX9_power_15 : decode cX9_power 15 = .ok (.iinc 5 1, 3) := by decide +kernel
theorem dX9_power_18 : decode cX9_power 18 = .ok (.goto (-13), 3) := by decide +kernel
theorem dX9_power_21 : decode cX9_power 21 = .ok (.lload_n 3, 1) := by decide +kernel
theorem dX9_power_22 : decode cX9_power 22 = .ok (.lreturn, 1) := by decide +kernel
theorem dX9_commonDivisor_0 : decode cX9_commonDivisor 0 = .ok (.lload_n 0, 1) := by decide +kernel
theorem dX9_commonDivisor_1 : decode cX9_commonDivisor 1 = .ok (.lstore 4, 2) := by decide +kernel
theorem dX9_commonDivisor_3 : decode cX9_commonDivisor 3 = .ok (.lload_n 2, 1) := by decide +kernel
theorem dX9_commonDivisor_4 : decode cX9_commonDivisor 4 = .ok (.lstore 6, 2) := by decide +kernel
theorem dX9_commonDivisor_6 : decode cX9_commonDivisor 6 = .ok (.iconst 0, 1) := by decide +kernel
theorem dX9_commonDivisor_7 : decode cX9_commonDivisor 7 = .ok (.istore 8, 2) := by decide +kernel
theorem dX9_commonDivisor_9 : decode cX9_commonDivisor 9 = .ok (.iload 8, 2) := by decide +kernel
theorem dX9_commonDivisor_11 : decode cX9_commonDivisor 11 = .ok (.sipush 200, 3) := by decide +kernel
theorem dX9_commonDivisor_14 : decode cX9_commonDivisor 14 = .ok (.if_icmp .ge 31, 3) := by decide +kernel
theorem dX9_commonDivisor_17 : decode cX9_commonDivisor 17 = .ok (.lload 6, 2) := by decide +kernel
theorem dX9_commonDivisor_19 : decode cX9_commonDivisor 19 = .ok (.lconst 0, 1) := by decide +kernel
theorem dX9_commonDivisor_20 : decode cX9_commonDivisor 20 = .ok (.lcmp, 1) := by decide +kernel
theorem dX9_commonDivisor_21 : decode cX9_commonDivisor 21 = .ok (.ifCond .eq 24, 3) := by decide +kernel
theorem dX9_commonDivisor_24 : decode cX9_commonDivisor 24 = .ok (.lload 4, 2) := by decide +kernel
theorem dX9_commonDivisor_26 : decode cX9_commonDivisor 26 = .ok (.lload 6, 2) := by decide +kernel
theorem dX9_commonDivisor_28 : decode cX9_commonDivisor 28 = .ok (.lrem, 1) := by decide +kernel
theorem dX9_commonDivisor_29 : decode cX9_commonDivisor 29 = .ok (.lstore 9, 2) := by decide +kernel
theorem dX9_commonDivisor_31 : decode cX9_commonDivisor 31 = .ok (.lload 6, 2) := by decide +kernel
theorem dX9_commonDivisor_33 : decode cX9_commonDivisor 33 = .ok (.lstore 4, 2) := by decide +kernel
theorem dX9_commonDivisor_35 : decode cX9_commonDivisor 35 = .ok (.lload 9, 2) := by decide +kernel
theorem dX9_commonDivisor_37 : decode cX9_commonDivisor 37 = .ok (.lstore 6, 2) := by decide +kernel
theorem dX9_commonDivisor_39 : decode cX9_commonDivisor 39 = .ok (.iinc 8 1, 3) := by decide +kernel
theorem dX9_commonDivisor_42 : decode cX9_commonDivisor 42 = .ok (.goto (-33), 3) := by decide +kernel
theorem dX9_commonDivisor_45 : decode cX9_commonDivisor 45 = .ok (.lload 4, 2) := by decide +kernel
theorem dX9_commonDivisor_47 : decode cX9_commonDivisor 47 = .ok (.lreturn, 1) := by decide +kernel
theorem dJ9_abs_067f4_0 : decode cJ9_abs_067f4 0 = .ok (.lload_n 0, 1) := by decide +kernel
theorem dJ9_abs_067f4_1 : decode cJ9_abs_067f4 1 = .ok (.lconst 0, 1) := by decide +kernel
theorem dJ9_abs_067f4_2 : decode cJ9_abs_067f4 2 = .ok (.lcmp, 1) := by decide +kernel
theorem dJ9_abs_067f4_3 : decode cJ9_abs_067f4 3 = .ok (.ifCond .ge 8, 3) := by decide +kernel
theorem dJ9_abs_067f4_6 : decode cJ9_abs_067f4 6 = .ok (.lload_n 0, 1) := by decide +kernel
theorem dJ9_abs_067f4_7 : decode cJ9_abs_067f4 7 = .ok (.lneg, 1) := by decide +kernel
theorem dJ9_abs_067f4_8 : decode cJ9_abs_067f4 8 = .ok (.goto 4, 3) := by decide +kernel
theorem dJ9_abs_067f4_11 : decode cJ9_abs_067f4 11 = .ok (.lload_n 0, 1) := by decide +kernel
theorem dJ9_abs_067f4_12 : decode cJ9_abs_067f4 12 = .ok (.lreturn, 1) := by decide +kernel
theorem dJ9_max_7cf53_0 : decode cJ9_max_7cf53 0 = .ok (.iload_n 0, 1) := by decide +kernel
theorem dJ9_max_7cf53_1 : decode cJ9_max_7cf53 1 = .ok (.iload_n 1, 1) := by decide +kernel
theorem dJ9_max_7cf53_2 : decode cJ9_max_7cf53 2 = .ok (.if_icmp .lt 7, 3) := by decide +kernel
theorem dJ9_max_7cf53_5 : decode cJ9_max_7cf53 5 = .ok (.iload_n 0, 1) := by decide +kernel
theorem dJ9_max_7cf53_6 : decode cJ9_max_7cf53 6 = .ok (.goto 4, 3) := by decide +kernel
theorem dJ9_max_7cf53_9 : decode cJ9_max_7cf53 9 = .ok (.iload_n 1, 1) := by decide +kernel
theorem dJ9_max_7cf53_10 : decode cJ9_max_7cf53 10 = .ok (.ireturn, 1) := by decide +kernel
theorem dJ9_min_7cf53_0 : decode cJ9_min_7cf53 0 = .ok (.iload_n 0, 1) := by decide +kernel
theorem dJ9_min_7cf53_1 : decode cJ9_min_7cf53 1 = .ok (.iload_n 1, 1) := by decide +kernel
theorem dJ9_min_7cf53_2 : decode cJ9_min_7cf53 2 = .ok (.if_icmp .gt 7, 3) := by decide +kernel
theorem dJ9_min_7cf53_5 : decode cJ9_min_7cf53 5 = .ok (.iload_n 0, 1) := by decide +kernel
theorem dJ9_min_7cf53_6 : decode cJ9_min_7cf53 6 = .ok (.goto 4, 3) := by decide +kernel
theorem dJ9_min_7cf53_9 : decode cJ9_min_7cf53 9 = .ok (.iload_n 1, 1) := by decide +kernel
theorem dJ9_min_7cf53_10 : decode cJ9_min_7cf53 10 = .ok (.ireturn, 1) := by decide +kernel
theorem dJ7_fill_53178_0 : decode cJ7_fill_53178 0 = .ok (.iconst 0, 1) := by decide +kernel
theorem dJ7_fill_53178_1 : decode cJ7_fill_53178 1 = .ok (.istore_n 2, 1) := by decide +kernel
theorem dJ7_fill_53178_2 : decode cJ7_fill_53178 2 = .ok (.aload_n 0, 1) := by decide +kernel
theorem dJ7_fill_53178_3 : decode cJ7_fill_53178 3 = .ok (.arraylength, 1) := by decide +kernel
theorem dJ7_fill_53178_4 : decode cJ7_fill_53178 4 = .ok (.istore_n 3, 1) := by decide +kernel
theorem dJ7_fill_53178_5 : decode cJ7_fill_53178 5 = .ok (.iload_n 2, 1) := by decide +kernel
theorem dJ7_fill_53178_6 : decode cJ7_fill_53178 6 = .ok (.iload_n 3, 1) := by decide +kernel
theorem dJ7_fill_53178_7 : decode cJ7_fill_53178 7 = .ok (.if_icmp .ge 13, 3) := by decide +kernel
theorem dJ7_fill_53178_10 : decode cJ7_fill_53178 10 = .ok (.aload_n 0, 1) := by decide +kernel
theorem dJ7_fill_53178_11 : decode cJ7_fill_53178 11 = .ok (.iload_n 2, 1) := by decide +kernel
theorem dJ7_fill_53178_12 : decode cJ7_fill_53178 12 = .ok (.iload_n 1, 1) := by decide +kernel
theorem dJ7_fill_53178_13 : decode cJ7_fill_53178 13 = .ok (.iastore, 1) := by decide +kernel
theorem dJ7_fill_53178_14 : decode cJ7_fill_53178 14 = .ok (.iinc 2 1, 3) := by decide +kernel
theorem dJ7_fill_53178_17 : decode cJ7_fill_53178 17 = .ok (.goto (-12), 3) := by decide +kernel
theorem dJ7_fill_53178_20 : decode cJ7_fill_53178 20 = .ok (.return_, 1) := by decide +kernel
end
section
theorem dL_law_0 : decode cL_law 0 = .ok (.new 7, 3) := by decide +kernel
theorem dL_law_3 : decode cL_law 3 = .ok (.dup, 1) := by decide +kernel
theorem dL_law_4 : decode cL_law 4 = .ok (.invokespecial 9, 3) := by decide +kernel
theorem dL_law_7 : decode cL_law 7 = .ok (.astore_n 1, 1) := by decide +kernel
theorem dL_law_8 : decode cL_law 8 = .ok (.new 10, 3) := by decide +kernel
theorem dL_law_11 : decode cL_law 11 = .ok (.dup, 1) := by decide +kernel
theorem dL_law_12 : decode cL_law 12 = .ok (.invokespecial 12, 3) := by decide +kernel
theorem dL_law_15 : decode cL_law 15 = .ok (.astore_n 2, 1) := by decide +kernel
theorem dL_law_16 : decode cL_law 16 = .ok (.iconst 0, 1) := by decide +kernel
theorem dL_law_17 : decode cL_law 17 = .ok (.istore_n 3, 1) := by decide +kernel
theorem dL_law_18 : decode cL_law 18 = .ok (.iload_n 3, 1) := by decide +kernel
theorem dL_law_19 : decode cL_law 19 = .ok (.aload_n 0, 1) := by decide +kernel
theorem dL_law_20 : decode cL_law 20 = .ok (.arraylength, 1) := by decide +kernel
theorem dL_law_21 : decode cL_law 21 = .ok (.bipush 7, 2) := by decide +kernel
theorem dL_law_23 : decode cL_law 23 = .ok (.isub, 1) := by decide +kernel
theorem dL_law_24 : decode cL_law 24 = .ok (.if_icmp .gt 1163, 3) := by decide +kernel
theorem dL_law_27 : decode cL_law 27 = .ok (.aload_n 0, 1) := by decide +kernel
theorem dL_law_28 : decode cL_law 28 = .ok (.iload_n 3, 1) := by decide +kernel
theorem dL_law_29 : decode cL_law 29 = .ok (.iaload, 1) := by decide +kernel
theorem dL_law_30 : decode cL_law 30 = .ok (.bipush 31, 2) := by decide +kernel
theorem dL_law_32 : decode cL_law 32 = .ok (.iand, 1) := by decide +kernel
theorem dL_law_33 : decode cL_law 33 = .ok (.tableswitch 1148 0 29 #[135, 188, 221, 244, 267, 306, 329, 404, 437, 470, 503, 516, 540, 563, 586, 609, 642, 675, 751, 804, 847, 870, 913, 957, 1020, 1043, 1066, 1099, 1112, 1125], 135) := by decide +kernel
theorem dL_law_168 : decode cL_law 168 = .ok (.aload_n 1, 1) := by decide +kernel
theorem dL_law_169 : decode cL_law 169 = .ok (.aload_n 0, 1) := by decide +kernel
theorem dL_law_170 : decode cL_law 170 = .ok (.iload_n 3, 1) := by decide +kernel
theorem dL_law_171 : decode cL_law 171 = .ok (.iconst 1, 1) := by decide +kernel
theorem dL_law_172 : decode cL_law 172 = .ok (.iadd, 1) := by decide +kernel
theorem dL_law_173 : decode cL_law 173 = .ok (.iaload, 1) := by decide +kernel
theorem dL_law_174 : decode cL_law 174 = .ok (.aload_n 0, 1) := by decide +kernel
theorem dL_law_175 : decode cL_law 175 = .ok (.iload_n 3, 1) := by decide +kernel
theorem dL_law_176 : decode cL_law 176 = .ok (.iconst 2, 1) := by decide +kernel
theorem dL_law_177 : decode cL_law 177 = .ok (.iadd, 1) := by decide +kernel
theorem dL_law_178 : decode cL_law 178 = .ok (.iaload, 1) := by decide +kernel
theorem dL_law_179 : decode cL_law 179 = .ok (.aload_n 0, 1) := by decide +kernel
theorem dL_law_180 : decode cL_law 180 = .ok (.iload_n 3, 1) := by decide +kernel
theorem dL_law_181 : decode cL_law 181 = .ok (.iconst 3, 1) := by decide +kernel
theorem dL_law_182 : decode cL_law 182 = .ok (.iadd, 1) := by decide +kernel
theorem dL_law_183 : decode cL_law 183 = .ok (.iaload, 1) := by decide +kernel
theorem dL_law_184 : decode cL_law 184 = .ok (.aload_n 0, 1) := by decide +kernel
theorem dL_law_185 : decode cL_law 185 = .ok (.iload_n 3, 1) := by decide +kernel
theorem dL_law_186 : decode cL_law 186 = .ok (.iconst 4, 1) := by decide +kernel
theorem dL_law_187 : decode cL_law 187 = .ok (.iadd, 1) := by decide +kernel
theorem dL_law_188 : decode cL_law 188 = .ok (.iaload, 1) := by decide +kernel
theorem dL_law_189 : decode cL_law 189 = .ok (.invokevirtual 13, 3) := by decide +kernel
theorem dL_law_192 : decode cL_law 192 = .ok (.aload_n 2, 1) := by decide +kernel
theorem dL_law_193 : decode cL_law 193 = .ok (.aload_n 0, 1) := by decide +kernel
theorem dL_law_194 : decode cL_law 194 = .ok (.iload_n 3, 1) := by decide +kernel
theorem dL_law_195 : decode cL_law 195 = .ok (.iconst 1, 1) := by decide +kernel
theorem dL_law_196 : decode cL_law 196 = .ok (.iadd, 1) := by decide +kernel
theorem dL_law_197 : decode cL_law 197 = .ok (.iaload, 1) := by decide +kernel
theorem dL_law_198 : decode cL_law 198 = .ok (.aload_n 0, 1) := by decide +kernel
theorem dL_law_199 : decode cL_law 199 = .ok (.iload_n 3, 1) := by decide +kernel
theorem dL_law_200 : decode cL_law 200 = .ok (.iconst 2, 1) := by decide +kernel
theorem dL_law_201 : decode cL_law 201 = .ok (.iadd, 1) := by decide +kernel
theorem dL_law_202 : decode cL_law 202 = .ok (.iaload, 1) := by decide +kernel
theorem dL_law_203 : decode cL_law 203 = .ok (.aload_n 0, 1) := by decide +kernel
theorem dL_law_204 : decode cL_law 204 = .ok (.iload_n 3, 1) := by decide +kernel
theorem dL_law_205 : decode cL_law 205 = .ok (.iconst 3, 1) := by decide +kernel
theorem dL_law_206 : decode cL_law 206 = .ok (.iadd, 1) := by decide +kernel
theorem dL_law_207 : decode cL_law 207 = .ok (.iaload, 1) := by decide +kernel
theorem dL_law_208 : decode cL_law 208 = .ok (.aload_n 0, 1) := by decide +kernel
theorem dL_law_209 : decode cL_law 209 = .ok (.iload_n 3, 1) := by decide +kernel
theorem dL_law_210 : decode cL_law 210 = .ok (.iconst 4, 1) := by decide +kernel
theorem dL_law_211 : decode cL_law 211 = .ok (.iadd, 1) := by decide +kernel
theorem dL_law_212 : decode cL_law 212 = .ok (.iaload, 1) := by decide +kernel
theorem dL_law_213 : decode cL_law 213 = .ok (.invokevirtual 17, 3) := by decide +kernel
theorem dL_law_216 : decode cL_law 216 = .ok (.if_icmp .eq 965, 3) := by decide +kernel
theorem dL_law_219 : decode cL_law 219 = .ok (.iconst 0, 1) := by decide +kernel
theorem dL_law_220 : decode cL_law 220 = .ok (.ireturn, 1) := by decide +kernel
theorem dL_law_221 : decode cL_law 221 = .ok (.aload_n 1, 1) := by decide +kernel
theorem dL_law_222 : decode cL_law 222 = .ok (.aload_n 0, 1) := by decide +kernel
theorem dL_law_223 : decode cL_law 223 = .ok (.iload_n 3, 1) := by decide +kernel
theorem dL_law_224 : decode cL_law 224 = .ok (.iconst 1, 1) := by decide +kernel
theorem dL_law_225 : decode cL_law 225 = .ok (.iadd, 1) := by decide +kernel
theorem dL_law_226 : decode cL_law 226 = .ok (.iaload, 1) := by decide +kernel
theorem dL_law_227 : decode cL_law 227 = .ok (.aload_n 0, 1) := by decide +kernel
theorem dL_law_228 : decode cL_law 228 = .ok (.iload_n 3, 1) := by decide +kernel
theorem dL_law_229 : decode cL_law 229 = .ok (.iconst 2, 1) := by decide +kernel
theorem dL_law_230 : decode cL_law 230 = .ok (.iadd, 1) := by decide +kernel
theorem dL_law_231 : decode cL_law 231 = .ok (.iaload, 1) := by decide +kernel
theorem dL_law_232 : decode cL_law 232 = .ok (.invokevirtual 18, 3) := by decide +kernel
theorem dL_law_235 : decode cL_law 235 = .ok (.aload_n 2, 1) := by decide +kernel
theorem dL_law_236 : decode cL_law 236 = .ok (.aload_n 0, 1) := by decide +kernel
theorem dL_law_237 : decode cL_law 237 = .ok (.iload_n 3, 1) := by decide +kernel
theorem dL_law_238 : decode cL_law 238 = .ok (.iconst 1, 1) := by decide +kernel
theorem dL_law_239 : decode cL_law 239 = .ok (.iadd, 1) := by decide +kernel
theorem dL_law_240 : decode cL_law 240 = .ok (.iaload, 1) := by decide +kernel
theorem dL_law_241 : decode cL_law 241 = .ok (.aload_n 0, 1) := by decide +kernel
theorem dL_law_242 : decode cL_law 242 = .ok (.iload_n 3, 1) := by decide +kernel
theorem dL_law_243 : decode cL_law 243 = .ok (.iconst 2, 1) := by decide +kernel
theorem dL_law_244 : decode cL_law 244 = .ok (.iadd, 1) := by decide +kernel
theorem dL_law_245 : decode cL_law 245 = .ok (.iaload, 1) := by decide +kernel
theorem dL_law_246 : decode cL_law 246 = .ok (.invokevirtual 22, 3) := by decide +kernel
theorem dL_law_249 : decode cL_law 249 = .ok (.if_icmp .eq 932, 3) := by decide +kernel
theorem dL_law_252 : decode cL_law 252 = .ok (.iconst 0, 1) := by decide +kernel
theorem dL_law_253 : decode cL_law 253 = .ok (.ireturn, 1) := by decide +kernel
theorem dL_law_254 : decode cL_law 254 = .ok (.aload_n 1, 1) := by decide +kernel
theorem dL_law_255 : decode cL_law 255 = .ok (.aload_n 0, 1) := by decide +kernel
theorem dL_law_256 : decode cL_law 256 = .ok (.iload_n 3, 1) := by decide +kernel
theorem dL_law_257 : decode cL_law 257 = .ok (.iconst 1, 1) := by decide +kernel
theorem dL_law_258 : decode cL_law 258 = .ok (.iadd, 1) := by decide +kernel
theorem dL_law_259 : decode cL_law 259 = .ok (.iaload, 1) := by decide +kernel
theorem dL_law_260 : decode cL_law 260 = .ok (.invokevirtual 23, 3) := by decide +kernel
theorem dL_law_263 : decode cL_law 263 = .ok (.aload_n 2, 1) := by decide +kernel
theorem dL_law_264 : decode cL_law 264 = .ok (.aload_n 0, 1) := by decide +kernel
theorem dL_law_265 : decode cL_law 265 = .ok (.iload_n 3, 1) := by decide +kernel
theorem dL_law_266 : decode cL_law 266 = .ok (.iconst 1, 1) := by decide +kernel
theorem dL_law_267 : decode cL_law 267 = .ok (.iadd, 1) := by decide +kernel
theorem dL_law_268 : decode cL_law 268 = .ok (.iaload, 1) := by decide +kernel
theorem dL_law_269 : decode cL_law 269 = .ok (.invokevirtual 27, 3) := by decide +kernel
theorem dL_law_272 : decode cL_law 272 = .ok (.if_icmp .eq 909, 3) := by decide +kernel
theorem dL_law_275 : decode cL_law 275 = .ok (.iconst 0, 1) := by decide +kernel
theorem dL_law_276 : decode cL_law 276 = .ok (.ireturn, 1) := by decide +kernel
theorem dL_law_277 : decode cL_law 277 = .ok (.aload_n 1, 1) := by decide +kernel
theorem dL_law_278 : decode cL_law 278 = .ok (.aload_n 0, 1) := by decide +kernel
theorem dL_law_279 : decode cL_law 279 = .ok (.iload_n 3, 1) := by decide +kernel
theorem dL_law_280 : decode cL_law 280 = .ok (.iconst 1, 1) := by decide +kernel
theorem dL_law_281 : decode cL_law 281 = .ok (.iadd, 1) := by decide +kernel
theorem dL_law_282 : decode cL_law 282 = .ok (.iaload, 1) := by decide +kernel
theorem dL_law_283 : decode cL_law 283 = .ok (.invokevirtual 28, 3) := by decide +kernel
theorem dL_law_286 : decode cL_law 286 = .ok (.aload_n 2, 1) := by decide +kernel
theorem dL_law_287 : decode cL_law 287 = .ok (.aload_n 0, 1) := by decide +kernel
theorem dL_law_288 : decode cL_law 288 = .ok (.iload_n 3, 1) := by decide +kernel
theorem dL_law_289 : decode cL_law 289 = .ok (.iconst 1, 1) := by decide +kernel
theorem dL_law_290 : decode cL_law 290 = .ok (.iadd, 1) := by decide +kernel
theorem dL_law_291 : decode cL_law 291 = .ok (.iaload, 1) := by decide +kernel
theorem dL_law_292 : decode cL_law 292 = .ok (.invokevirtual 31, 3) := by decide +kernel
theorem dL_law_295 : decode cL_law 295 = .ok (.if_icmp .eq 886, 3) := by decide +kernel
theorem dL_law_298 : decode cL_law 298 = .ok (.iconst 0, 1) := by decide +kernel
theorem dL_law_299 : decode cL_law 299 = .ok (.ireturn, 1) := by decide +kernel
theorem dL_law_300 : decode cL_law 300 = .ok (.aload_n 1, 1) := by decide +kernel
theorem dL_law_301 : decode cL_law 301 = .ok (.aload_n 0, 1) := by decide +kernel
theorem dL_law_302 : decode cL_law 302 = .ok (.iload_n 3, 1) := by decide +kernel
theorem dL_law_303 : decode cL_law 303 = .ok (.iconst 1, 1) := by decide +kernel
theorem dL_law_304 : decode cL_law 304 = .ok (.iadd, 1) := by decide +kernel
theorem dL_law_305 : decode cL_law 305 = .ok (.iaload, 1) := by decide +kernel
theorem dL_law_306 : decode cL_law 306 = .ok (.ifCond .eq 7, 3) := by decide +kernel
theorem dL_law_309 : decode cL_law 309 = .ok (.iconst 1, 1) := by decide +kernel
theorem dL_law_310 : decode cL_law 310 = .ok (.goto 4, 3) := by decide +kernel
theorem dL_law_313 : decode cL_law 313 = .ok (.iconst 0, 1) := by decide +kernel
theorem dL_law_314 : decode cL_law 314 = .ok (.invokevirtual 32, 3) := by decide +kernel
theorem dL_law_317 : decode cL_law 317 = .ok (.aload_n 2, 1) := by decide +kernel
theorem dL_law_318 : decode cL_law 318 = .ok (.aload_n 0, 1) := by decide +kernel
theorem dL_law_319 : decode cL_law 319 = .ok (.iload_n 3, 1) := by decide +kernel
theorem dL_law_320 : decode cL_law 320 = .ok (.iconst 1, 1) := by decide +kernel
theorem dL_law_321 : decode cL_law 321 = .ok (.iadd, 1) := by decide +kernel
theorem dL_law_322 : decode cL_law 322 = .ok (.iaload, 1) := by decide +kernel
theorem dL_law_323 : decode cL_law 323 = .ok (.ifCond .eq 7, 3) := by decide +kernel
theorem dL_law_326 : decode cL_law 326 = .ok (.iconst 1, 1) := by decide +kernel
theorem dL_law_327 : decode cL_law 327 = .ok (.goto 4, 3) := by decide +kernel
theorem dL_law_330 : decode cL_law 330 = .ok (.iconst 0, 1) := by decide +kernel
theorem dL_law_331 : decode cL_law 331 = .ok (.invokevirtual 36, 3) := by decide +kernel
theorem dL_law_334 : decode cL_law 334 = .ok (.if_icmp .eq 847, 3) := by decide +kernel
theorem dL_law_337 : decode cL_law 337 = .ok (.iconst 0, 1) := by decide +kernel
theorem dL_law_338 : decode cL_law 338 = .ok (.ireturn, 1) := by decide +kernel
theorem dL_law_339 : decode cL_law 339 = .ok (.aload_n 1, 1) := by decide +kernel
theorem dL_law_340 : decode cL_law 340 = .ok (.aload_n 0, 1) := by decide +kernel
theorem dL_law_341 : decode cL_law 341 = .ok (.iload_n 3, 1) := by decide +kernel
theorem dL_law_342 : decode cL_law 342 = .ok (.iconst 1, 1) := by decide +kernel
theorem dL_law_343 : decode cL_law 343 = .ok (.iadd, 1) := by decide +kernel
theorem dL_law_344 : decode cL_law 344 = .ok (.iaload, 1) := by decide +kernel
theorem dL_law_345 : decode cL_law 345 = .ok (.invokevirtual 37, 3) := by decide +kernel
theorem dL_law_348 : decode cL_law 348 = .ok (.aload_n 2, 1) := by decide +kernel
theorem dL_law_349 : decode cL_law 349 = .ok (.aload_n 0, 1) := by decide +kernel
theorem dL_law_350 : decode cL_law 350 = .ok (.iload_n 3, 1) := by decide +kernel
theorem dL_law_351 : decode cL_law 351 = .ok (.iconst 1, 1) := by decide +kernel
theorem dL_law_352 : decode cL_law 352 = .ok (.iadd, 1) := by decide +kernel
theorem dL_law_353 : decode cL_law 353 = .ok (.iaload, 1) := by decide +kernel
theorem dL_law_354 : decode cL_law 354 = .ok (.invokevirtual 40, 3) := by decide +kernel
theorem dL_law_357 : decode cL_law 357 = .ok (.if_icmp .eq 824, 3) := by decide +kernel
theorem dL_law_360 : decode cL_law 360 = .ok (.iconst 0, 1) := by decide +kernel
theorem dL_law_361 : decode cL_law 361 = .ok (.ireturn, 1) := by decide +kernel
theorem dL_law_362 : decode cL_law 362 = .ok (.aload_n 1, 1) := by decide +kernel
theorem dL_law_363 : decode cL_law 363 = .ok (.aload_n 0, 1) := by decide +kernel
theorem dL_law_364 : decode cL_law 364 = .ok (.iload_n 3, 1) := by decide +kernel
theorem dL_law_365 : decode cL_law 365 = .ok (.iconst 1, 1) := by decide +kernel
theorem dL_law_366 : decode cL_law 366 = .ok (.iadd, 1) := by decide +kernel
theorem dL_law_367 : decode cL_law 367 = .ok (.iaload, 1) := by decide +kernel
theorem dL_law_368 : decode cL_law 368 = .ok (.aload_n 0, 1) := by decide +kernel
theorem dL_law_369 : decode cL_law 369 = .ok (.iload_n 3, 1) := by decide +kernel
theorem dL_law_370 : decode cL_law 370 = .ok (.iconst 2, 1) := by decide +kernel
theorem dL_law_371 : decode cL_law 371 = .ok (.iadd, 1) := by decide +kernel
theorem dL_law_372 : decode cL_law 372 = .ok (.iaload, 1) := by decide +kernel
theorem dL_law_373 : decode cL_law 373 = .ok (.aload_n 0, 1) := by decide +kernel
theorem dL_law_374 : decode cL_law 374 = .ok (.iload_n 3, 1) := by decide +kernel
theorem dL_law_375 : decode cL_law 375 = .ok (.iconst 3, 1) := by decide +kernel
theorem dL_law_376 : decode cL_law 376 = .ok (.iadd, 1) := by decide +kernel
theorem dL_law_377 : decode cL_law 377 = .ok (.iaload, 1) := by decide +kernel
theorem dL_law_378 : decode cL_law 378 = .ok (.aload_n 0, 1) := by decide +kernel
theorem dL_law_379 : decode cL_law 379 = .ok (.iload_n 3, 1) := by decide +kernel
theorem dL_law_380 : decode cL_law 380 = .ok (.iconst 4, 1) := by decide +kernel
theorem dL_law_381 : decode cL_law 381 = .ok (.iadd, 1) := by decide +kernel
theorem dL_law_382 : decode cL_law 382 = .ok (.iaload, 1) := by decide +kernel
theorem dL_law_383 : decode cL_law 383 = .ok (.aload_n 0, 1) := by decide +kernel
theorem dL_law_384 : decode cL_law 384 = .ok (.iload_n 3, 1) := by decide +kernel
theorem dL_law_385 : decode cL_law 385 = .ok (.iconst 5, 1) := by decide +kernel
theorem dL_law_386 : decode cL_law 386 = .ok (.iadd, 1) := by decide +kernel
theorem dL_law_387 : decode cL_law 387 = .ok (.iaload, 1) := by decide +kernel
theorem dL_law_388 : decode cL_law 388 = .ok (.aload_n 0, 1) := by decide +kernel
theorem dL_law_389 : decode cL_law 389 = .ok (.iload_n 3, 1) := by decide +kernel
theorem dL_law_390 : decode cL_law 390 = .ok (.bipush 6, 2) := by decide +kernel
theorem dL_law_392 : decode cL_law 392 = .ok (.iadd, 1) := by decide +kernel
theorem dL_law_393 : decode cL_law 393 = .ok (.iaload, 1) := by decide +kernel
theorem dL_law_394 : decode cL_law 394 = .ok (.invokevirtual 41, 3) := by decide +kernel
theorem dL_law_397 : decode cL_law 397 = .ok (.aload_n 2, 1) := by decide +kernel
theorem dL_law_398 : decode cL_law 398 = .ok (.aload_n 0, 1) := by decide +kernel
theorem dL_law_399 : decode cL_law 399 = .ok (.iload_n 3, 1) := by decide +kernel
theorem dL_law_400 : decode cL_law 400 = .ok (.iconst 1, 1) := by decide +kernel
theorem dL_law_401 : decode cL_law 401 = .ok (.iadd, 1) := by decide +kernel
theorem dL_law_402 : decode cL_law 402 = .ok (.iaload, 1) := by decide +kernel
theorem dL_law_403 : decode cL_law 403 = .ok (.aload_n 0, 1) := by decide +kernel
theorem dL_law_404 : decode cL_law 404 = .ok (.iload_n 3, 1) := by decide +kernel
theorem dL_law_405 : decode cL_law 405 = .ok (.iconst 2, 1) := by decide +kernel
theorem dL_law_406 : decode cL_law 406 = .ok (.iadd, 1) := by decide +kernel
theorem dL_law_407 : decode cL_law 407 = .ok (.iaload, 1) := by decide +kernel
theorem dL_law_408 : decode cL_law 408 = .ok (.aload_n 0, 1) := by decide +kernel
theorem dL_law_409 : decode cL_law 409 = .ok (.iload_n 3, 1) := by decide +kernel
theorem dL_law_410 : decode cL_law 410 = .ok (.iconst 3, 1) := by decide +kernel
theorem dL_law_411 : decode cL_law 411 = .ok (.iadd, 1) := by decide +kernel
theorem dL_law_412 : decode cL_law 412 = .ok (.iaload, 1) := by decide +kernel
theorem dL_law_413 : decode cL_law 413 = .ok (.aload_n 0, 1) := by decide +kernel
theorem dL_law_414 : decode cL_law 414 = .ok (.iload_n 3, 1) := by decide +kernel
theorem dL_law_415 : decode cL_law 415 = .ok (.iconst 4, 1) := by decide +kernel
theorem dL_law_416 : decode cL_law 416 = .ok (.iadd, 1) := by decide +kernel
theorem dL_law_417 : decode cL_law 417 = .ok (.iaload, 1) := by decide +kernel
theorem dL_law_418 : decode cL_law 418 = .ok (.aload_n 0, 1) := by decide +kernel
theorem dL_law_419 : decode cL_law 419 = .ok (.iload_n 3, 1) := by decide +kernel
theorem dL_law_420 : decode cL_law 420 = .ok (.iconst 5, 1) := by decide +kernel
theorem dL_law_421 : decode cL_law 421 = .ok (.iadd, 1) := by decide +kernel
theorem dL_law_422 : decode cL_law 422 = .ok (.iaload, 1) := by decide +kernel
theorem dL_law_423 : decode cL_law 423 = .ok (.aload_n 0, 1) := by decide +kernel
theorem dL_law_424 : decode cL_law 424 = .ok (.iload_n 3, 1) := by decide +kernel
theorem dL_law_425 : decode cL_law 425 = .ok (.bipush 6, 2) := by decide +kernel
theorem dL_law_427 : decode cL_law 427 = .ok (.iadd, 1) := by decide +kernel
theorem dL_law_428 : decode cL_law 428 = .ok (.iaload, 1) := by decide +kernel
theorem dL_law_429 : decode cL_law 429 = .ok (.invokevirtual 45, 3) := by decide +kernel
theorem dL_law_432 : decode cL_law 432 = .ok (.if_icmp .eq 749, 3) := by decide +kernel
theorem dL_law_435 : decode cL_law 435 = .ok (.iconst 0, 1) := by decide +kernel
theorem dL_law_436 : decode cL_law 436 = .ok (.ireturn, 1) := by decide +kernel
theorem dL_law_437 : decode cL_law 437 = .ok (.aload_n 1, 1) := by decide +kernel
theorem dL_law_438 : decode cL_law 438 = .ok (.aload_n 0, 1) := by decide +kernel
theorem dL_law_439 : decode cL_law 439 = .ok (.iload_n 3, 1) := by decide +kernel
theorem dL_law_440 : decode cL_law 440 = .ok (.iconst 1, 1) := by decide +kernel
theorem dL_law_441 : decode cL_law 441 = .ok (.iadd, 1) := by decide +kernel
theorem dL_law_442 : decode cL_law 442 = .ok (.iaload, 1) := by decide +kernel
theorem dL_law_443 : decode cL_law 443 = .ok (.aload_n 0, 1) := by decide +kernel
theorem dL_law_444 : decode cL_law 444 = .ok (.iload_n 3, 1) := by decide +kernel
theorem dL_law_445 : decode cL_law 445 = .ok (.iconst 2, 1) := by decide +kernel
theorem dL_law_446 : decode cL_law 446 = .ok (.iadd, 1) := by decide +kernel
theorem dL_law_447 : decode cL_law 447 = .ok (.iaload, 1) := by decide +kernel
theorem dL_law_448 : decode cL_law 448 = .ok (.invokevirtual 46, 3) := by decide +kernel
theorem dL_law_451 : decode cL_law 451 = .ok (.aload_n 2, 1) := by decide +kernel
theorem dL_law_452 : decode cL_law 452 = .ok (.aload_n 0, 1) := by decide +kernel
theorem dL_law_453 : decode cL_law 453 = .ok (.iload_n 3, 1) := by decide +kernel
theorem dL_law_454 : decode cL_law 454 = .ok (.iconst 1, 1) := by decide +kernel
theorem dL_law_455 : decode cL_law 455 = .ok (.iadd, 1) := by decide +kernel
theorem dL_law_456 : decode cL_law 456 = .ok (.iaload, 1) := by decide +kernel
theorem dL_law_457 : decode cL_law 457 = .ok (.aload_n 0, 1) := by decide +kernel
theorem dL_law_458 : decode cL_law 458 = .ok (.iload_n 3, 1) := by decide +kernel
theorem dL_law_459 : decode cL_law 459 = .ok (.iconst 2, 1) := by decide +kernel
theorem dL_law_460 : decode cL_law 460 = .ok (.iadd, 1) := by decide +kernel
theorem dL_law_461 : decode cL_law 461 = .ok (.iaload, 1) := by decide +kernel
theorem dL_law_462 : decode cL_law 462 = .ok (.invokevirtual 49, 3) := by decide +kernel
theorem dL_law_465 : decode cL_law 465 = .ok (.if_icmp .eq 716, 3) := by decide +kernel
theorem dL_law_468 : decode cL_law 468 = .ok (.iconst 0, 1) := by decide +kernel
theorem dL_law_469 : decode cL_law 469 = .ok (.ireturn, 1) := by decide +kernel
theorem dL_law_470 : decode cL_law 470 = .ok (.aload_n 1, 1) := by decide +kernel
theorem dL_law_471 : decode cL_law 471 = .ok (.aload_n 0, 1) := by decide +kernel
theorem dL_law_472 : decode cL_law 472 = .ok (.iload_n 3, 1) := by decide +kernel
theorem dL_law_473 : decode cL_law 473 = .ok (.iconst 1, 1) := by decide +kernel
theorem dL_law_474 : decode cL_law 474 = .ok (.iadd, 1) := by decide +kernel
theorem dL_law_475 : decode cL_law 475 = .ok (.iaload, 1) := by decide +kernel
theorem dL_law_476 : decode cL_law 476 = .ok (.aload_n 0, 1) := by decide +kernel
theorem dL_law_477 : decode cL_law 477 = .ok (.iload_n 3, 1) := by decide +kernel
theorem dL_law_478 : decode cL_law 478 = .ok (.iconst 2, 1) := by decide +kernel
theorem dL_law_479 : decode cL_law 479 = .ok (.iadd, 1) := by decide +kernel
theorem dL_law_480 : decode cL_law 480 = .ok (.iaload, 1) := by decide +kernel
theorem dL_law_481 : decode cL_law 481 = .ok (.invokevirtual 50, 3) := by decide +kernel
theorem dL_law_484 : decode cL_law 484 = .ok (.aload_n 2, 1) := by decide +kernel
theorem dL_law_485 : decode cL_law 485 = .ok (.aload_n 0, 1) := by decide +kernel
theorem dL_law_486 : decode cL_law 486 = .ok (.iload_n 3, 1) := by decide +kernel
theorem dL_law_487 : decode cL_law 487 = .ok (.iconst 1, 1) := by decide +kernel
theorem dL_law_488 : decode cL_law 488 = .ok (.iadd, 1) := by decide +kernel
theorem dL_law_489 : decode cL_law 489 = .ok (.iaload, 1) := by decide +kernel
theorem dL_law_490 : decode cL_law 490 = .ok (.aload_n 0, 1) := by decide +kernel
theorem dL_law_491 : decode cL_law 491 = .ok (.iload_n 3, 1) := by decide +kernel
theorem dL_law_492 : decode cL_law 492 = .ok (.iconst 2, 1) := by decide +kernel
theorem dL_law_493 : decode cL_law 493 = .ok (.iadd, 1) := by decide +kernel
theorem dL_law_494 : decode cL_law 494 = .ok (.iaload, 1) := by decide +kernel
theorem dL_law_495 : decode cL_law 495 = .ok (.invokevirtual 53, 3) := by decide +kernel
theorem dL_law_498 : decode cL_law 498 = .ok (.if_icmp .eq 683, 3) := by decide +kernel
theorem dL_law_501 : decode cL_law 501 = .ok (.iconst 0, 1) := by decide +kernel
theorem dL_law_502 : decode cL_law 502 = .ok (.ireturn, 1) := by decide +kernel
theorem dL_law_503 : decode cL_law 503 = .ok (.aload_n 1, 1) := by decide +kernel
theorem dL_law_504 : decode cL_law 504 = .ok (.aload_n 0, 1) := by decide +kernel
theorem dL_law_505 : decode cL_law 505 = .ok (.iload_n 3, 1) := by decide +kernel
theorem dL_law_506 : decode cL_law 506 = .ok (.iconst 1, 1) := by decide +kernel
theorem dL_law_507 : decode cL_law 507 = .ok (.iadd, 1) := by decide +kernel
theorem dL_law_508 : decode cL_law 508 = .ok (.iaload, 1) := by decide +kernel
theorem dL_law_509 : decode cL_law 509 = .ok (.aload_n 0, 1) := by decide +kernel
theorem dL_law_510 : decode cL_law 510 = .ok (.iload_n 3, 1) := by decide +kernel
theorem dL_law_511 : decode cL_law 511 = .ok (.iconst 2, 1) := by decide +kernel
theorem dL_law_512 : decode cL_law 512 = .ok (.iadd, 1) := by decide +kernel
theorem dL_law_513 : decode cL_law 513 = .ok (.iaload, 1) := by decide +kernel
theorem dL_law_514 : decode cL_law 514 = .ok (.invokevirtual 54, 3) := by decide +kernel
theorem dL_law_517 : decode cL_law 517 = .ok (.aload_n 2, 1) := by decide +kernel
theorem dL_law_518 : decode cL_law 518 = .ok (.aload_n 0, 1) := by decide +kernel
theorem dL_law_519 : decode cL_law 519 = .ok (.iload_n 3, 1) := by decide +kernel
theorem dL_law_520 : decode cL_law 520 = .ok (.iconst 1, 1) := by decide +kernel
theorem dL_law_521 : decode cL_law 521 = .ok (.iadd, 1) := by decide +kernel
theorem dL_law_522 : decode cL_law 522 = .ok (.iaload, 1) := by decide +kernel
theorem dL_law_523 : decode cL_law 523 = .ok (.aload_n 0, 1) := by decide +kernel
theorem dL_law_524 : decode cL_law 524 = .ok (.iload_n 3, 1) := by decide +kernel
theorem dL_law_525 : decode cL_law 525 = .ok (.iconst 2, 1) := by decide +kernel
theorem dL_law_526 : decode cL_law 526 = .ok (.iadd, 1) := by decide +kernel
theorem dL_law_527 : decode cL_law 527 = .ok (.iaload, 1) := by decide +kernel
theorem dL_law_528 : decode cL_law 528 = .ok (.invokevirtual 57, 3) := by decide +kernel
theorem dL_law_531 : decode cL_law 531 = .ok (.if_icmp .eq 650, 3) := by decide +kernel
theorem dL_law_534 : decode cL_law 534 = .ok (.iconst 0, 1) := by decide +kernel
theorem dL_law_535 : decode cL_law 535 = .ok (.ireturn, 1) := by decide +kernel
theorem dL_law_536 : decode cL_law 536 = .ok (.aload_n 1, 1) := by decide +kernel
theorem dL_law_537 : decode cL_law 537 = .ok (.invokevirtual 58, 3) := by decide +kernel
theorem dL_law_540 : decode cL_law 540 = .ok (.aload_n 2, 1) := by decide +kernel
theorem dL_law_541 : decode cL_law 541 = .ok (.invokevirtual 62, 3) := by decide +kernel
theorem dL_law_544 : decode cL_law 544 = .ok (.if_icmp .eq 637, 3) := by decide +kernel
theorem dL_law_547 : decode cL_law 547 = .ok (.iconst 0, 1) := by decide +kernel
theorem dL_law_548 : decode cL_law 548 = .ok (.ireturn, 1) := by decide +kernel
theorem dL_law_549 : decode cL_law 549 = .ok (.aload_n 1, 1) := by decide +kernel
theorem dL_law_550 : decode cL_law 550 = .ok (.aload_n 0, 1) := by decide +kernel
theorem dL_law_551 : decode cL_law 551 = .ok (.iload_n 3, 1) := by decide +kernel
theorem dL_law_552 : decode cL_law 552 = .ok (.iconst 1, 1) := by decide +kernel
theorem dL_law_553 : decode cL_law 553 = .ok (.iadd, 1) := by decide +kernel
theorem dL_law_554 : decode cL_law 554 = .ok (.iaload, 1) := by decide +kernel
theorem dL_law_555 : decode cL_law 555 = .ok (.invokevirtual 63, 3) := by decide +kernel
theorem dL_law_558 : decode cL_law 558 = .ok (.aload_n 2, 1) := by decide +kernel
theorem dL_law_559 : decode cL_law 559 = .ok (.aload_n 0, 1) := by decide +kernel
theorem dL_law_560 : decode cL_law 560 = .ok (.iload_n 3, 1) := by decide +kernel
theorem dL_law_561 : decode cL_law 561 = .ok (.iconst 1, 1) := by decide +kernel
theorem dL_law_562 : decode cL_law 562 = .ok (.iadd, 1) := by decide +kernel
theorem dL_law_563 : decode cL_law 563 = .ok (.iaload, 1) := by decide +kernel
theorem dL_law_564 : decode cL_law 564 = .ok (.invokevirtual 67, 3) := by decide +kernel
theorem dL_law_567 : decode cL_law 567 = .ok (.lcmp, 1) := by decide +kernel
theorem dL_law_568 : decode cL_law 568 = .ok (.ifCond .eq 613, 3) := by decide +kernel
theorem dL_law_571 : decode cL_law 571 = .ok (.iconst 0, 1) := by decide +kernel
theorem dL_law_572 : decode cL_law 572 = .ok (.ireturn, 1) := by decide +kernel
theorem dL_law_573 : decode cL_law 573 = .ok (.aload_n 1, 1) := by decide +kernel
theorem dL_law_574 : decode cL_law 574 = .ok (.aload_n 0, 1) := by decide +kernel
theorem dL_law_575 : decode cL_law 575 = .ok (.iload_n 3, 1) := by decide +kernel
theorem dL_law_576 : decode cL_law 576 = .ok (.iconst 1, 1) := by decide +kernel
theorem dL_law_577 : decode cL_law 577 = .ok (.iadd, 1) := by decide +kernel
theorem dL_law_578 : decode cL_law 578 = .ok (.iaload, 1) := by decide +kernel
theorem dL_law_579 : decode cL_law 579 = .ok (.invokevirtual 68, 3) := by decide +kernel
theorem dL_law_582 : decode cL_law 582 = .ok (.aload_n 2, 1) := by decide +kernel
theorem dL_law_583 : decode cL_law 583 = .ok (.aload_n 0, 1) := by decide +kernel
theorem dL_law_584 : decode cL_law 584 = .ok (.iload_n 3, 1) := by decide +kernel
theorem dL_law_585 : decode cL_law 585 = .ok (.iconst 1, 1) := by decide +kernel
theorem dL_law_586 : decode cL_law 586 = .ok (.iadd, 1) := by decide +kernel
theorem dL_law_587 : decode cL_law 587 = .ok (.iaload, 1) := by decide +kernel
theorem dL_law_588 : decode cL_law 588 = .ok (.invokevirtual 71, 3) := by decide +kernel
theorem dL_law_591 : decode cL_law 591 = .ok (.if_icmp .eq 590, 3) := by decide +kernel
theorem dL_law_594 : decode cL_law 594 = .ok (.iconst 0, 1) := by decide +kernel
theorem dL_law_595 : decode cL_law 595 = .ok (.ireturn, 1) := by decide +kernel
theorem dL_law_596 : decode cL_law 596 = .ok (.aload_n 1, 1) := by decide +kernel
theorem dL_law_597 : decode cL_law 597 = .ok (.aload_n 0, 1) := by decide +kernel
theorem dL_law_598 : decode cL_law 598 = .ok (.iload_n 3, 1) := by decide +kernel
theorem dL_law_599 : decode cL_law 599 = .ok (.iconst 1, 1) := by decide +kernel
theorem dL_law_600 : decode cL_law 600 = .ok (.iadd, 1) := by decide +kernel
theorem dL_law_601 : decode cL_law 601 = .ok (.iaload, 1) := by decide +kernel
theorem dL_law_602 : decode cL_law 602 = .ok (.invokevirtual 72, 3) := by decide +kernel
theorem dL_law_605 : decode cL_law 605 = .ok (.aload_n 2, 1) := by decide +kernel
theorem dL_law_606 : decode cL_law 606 = .ok (.aload_n 0, 1) := by decide +kernel
theorem dL_law_607 : decode cL_law 607 = .ok (.iload_n 3, 1) := by decide +kernel
theorem dL_law_608 : decode cL_law 608 = .ok (.iconst 1, 1) := by decide +kernel
theorem dL_law_609 : decode cL_law 609 = .ok (.iadd, 1) := by decide +kernel
theorem dL_law_610 : decode cL_law 610 = .ok (.iaload, 1) := by decide +kernel
theorem dL_law_611 : decode cL_law 611 = .ok (.invokevirtual 75, 3) := by decide +kernel
theorem dL_law_614 : decode cL_law 614 = .ok (.if_icmp .eq 567, 3) := by decide +kernel
theorem dL_law_617 : decode cL_law 617 = .ok (.iconst 0, 1) := by decide +kernel
theorem dL_law_618 : decode cL_law 618 = .ok (.ireturn, 1) := by decide +kernel
theorem dL_law_619 : decode cL_law 619 = .ok (.aload_n 1, 1) := by decide +kernel
theorem dL_law_620 : decode cL_law 620 = .ok (.aload_n 0, 1) := by decide +kernel
theorem dL_law_621 : decode cL_law 621 = .ok (.iload_n 3, 1) := by decide +kernel
theorem dL_law_622 : decode cL_law 622 = .ok (.iconst 1, 1) := by decide +kernel
theorem dL_law_623 : decode cL_law 623 = .ok (.iadd, 1) := by decide +kernel
theorem dL_law_624 : decode cL_law 624 = .ok (.iaload, 1) := by decide +kernel
theorem dL_law_625 : decode cL_law 625 = .ok (.invokevirtual 76, 3) := by decide +kernel
theorem dL_law_628 : decode cL_law 628 = .ok (.aload_n 2, 1) := by decide +kernel
theorem dL_law_629 : decode cL_law 629 = .ok (.aload_n 0, 1) := by decide +kernel
theorem dL_law_630 : decode cL_law 630 = .ok (.iload_n 3, 1) := by decide +kernel
theorem dL_law_631 : decode cL_law 631 = .ok (.iconst 1, 1) := by decide +kernel
theorem dL_law_632 : decode cL_law 632 = .ok (.iadd, 1) := by decide +kernel
theorem dL_law_633 : decode cL_law 633 = .ok (.iaload, 1) := by decide +kernel
theorem dL_law_634 : decode cL_law 634 = .ok (.invokevirtual 79, 3) := by decide +kernel
theorem dL_law_637 : decode cL_law 637 = .ok (.if_icmp .eq 544, 3) := by decide +kernel
theorem dL_law_640 : decode cL_law 640 = .ok (.iconst 0, 1) := by decide +kernel
theorem dL_law_641 : decode cL_law 641 = .ok (.ireturn, 1) := by decide +kernel
theorem dL_law_642 : decode cL_law 642 = .ok (.aload_n 1, 1) := by decide +kernel
theorem dL_law_643 : decode cL_law 643 = .ok (.aload_n 0, 1) := by decide +kernel
theorem dL_law_644 : decode cL_law 644 = .ok (.iload_n 3, 1) := by decide +kernel
theorem dL_law_645 : decode cL_law 645 = .ok (.iconst 1, 1) := by decide +kernel
theorem dL_law_646 : decode cL_law 646 = .ok (.iadd, 1) := by decide +kernel
theorem dL_law_647 : decode cL_law 647 = .ok (.iaload, 1) := by decide +kernel
theorem dL_law_648 : decode cL_law 648 = .ok (.aload_n 0, 1) := by decide +kernel
theorem dL_law_649 : decode cL_law 649 = .ok (.iload_n 3, 1) := by decide +kernel
theorem dL_law_650 : decode cL_law 650 = .ok (.iconst 2, 1) := by decide +kernel
theorem dL_law_651 : decode cL_law 651 = .ok (.iadd, 1) := by decide +kernel
theorem dL_law_652 : decode cL_law 652 = .ok (.iaload, 1) := by decide +kernel
theorem dL_law_653 : decode cL_law 653 = .ok (.invokevirtual 80, 3) := by decide +kernel
theorem dL_law_656 : decode cL_law 656 = .ok (.aload_n 2, 1) := by decide +kernel
theorem dL_law_657 : decode cL_law 657 = .ok (.aload_n 0, 1) := by decide +kernel
theorem dL_law_658 : decode cL_law 658 = .ok (.iload_n 3, 1) := by decide +kernel
theorem dL_law_659 : decode cL_law 659 = .ok (.iconst 1, 1) := by decide +kernel
theorem dL_law_660 : decode cL_law 660 = .ok (.iadd, 1) := by decide +kernel
theorem dL_law_661 : decode cL_law 661 = .ok (.iaload, 1) := by decide +kernel
theorem dL_law_662 : decode cL_law 662 = .ok (.aload_n 0, 1) := by decide +kernel
theorem dL_law_663 : decode cL_law 663 = .ok (.iload_n 3, 1) := by decide +kernel
theorem dL_law_664 : decode cL_law 664 = .ok (.iconst 2, 1) := by decide +kernel
theorem dL_law_665 : decode cL_law 665 = .ok (.iadd, 1) := by decide +kernel
theorem dL_law_666 : decode cL_law 666 = .ok (.iaload, 1) := by decide +kernel
theorem dL_law_667 : decode cL_law 667 = .ok (.invokevirtual 83, 3) := by decide +kernel
theorem dL_law_670 : decode cL_law 670 = .ok (.if_icmp .eq 511, 3) := by decide +kernel
theorem dL_law_673 : decode cL_law 673 = .ok (.iconst 0, 1) := by decide +kernel
theorem dL_law_674 : decode cL_law 674 = .ok (.ireturn, 1) := by decide +kernel
theorem dL_law_675 : decode cL_law 675 = .ok (.aload_n 1, 1) := by decide +kernel
theorem dL_law_676 : decode cL_law 676 = .ok (.aload_n 0, 1) := by decide +kernel
theorem dL_law_677 : decode cL_law 677 = .ok (.iload_n 3, 1) := by decide +kernel
theorem dL_law_678 : decode cL_law 678 = .ok (.iconst 1, 1) := by decide +kernel
theorem dL_law_679 : decode cL_law 679 = .ok (.iadd, 1) := by decide +kernel
theorem dL_law_680 : decode cL_law 680 = .ok (.iaload, 1) := by decide +kernel
theorem dL_law_681 : decode cL_law 681 = .ok (.aload_n 0, 1) := by decide +kernel
theorem dL_law_682 : decode cL_law 682 = .ok (.iload_n 3, 1) := by decide +kernel
theorem dL_law_683 : decode cL_law 683 = .ok (.iconst 2, 1) := by decide +kernel
theorem dL_law_684 : decode cL_law 684 = .ok (.iadd, 1) := by decide +kernel
theorem dL_law_685 : decode cL_law 685 = .ok (.iaload, 1) := by decide +kernel
theorem dL_law_686 : decode cL_law 686 = .ok (.invokevirtual 84, 3) := by decide +kernel
theorem dL_law_689 : decode cL_law 689 = .ok (.aload_n 2, 1) := by decide +kernel
theorem dL_law_690 : decode cL_law 690 = .ok (.aload_n 0, 1) := by decide +kernel
theorem dL_law_691 : decode cL_law 691 = .ok (.iload_n 3, 1) := by decide +kernel
theorem dL_law_692 : decode cL_law 692 = .ok (.iconst 1, 1) := by decide +kernel
theorem dL_law_693 : decode cL_law 693 = .ok (.iadd, 1) := by decide +kernel
theorem dL_law_694 : decode cL_law 694 = .ok (.iaload, 1) := by decide +kernel
theorem dL_law_695 : decode cL_law 695 = .ok (.aload_n 0, 1) := by decide +kernel
theorem dL_law_696 : decode cL_law 696 = .ok (.iload_n 3, 1) := by decide +kernel
theorem dL_law_697 : decode cL_law 697 = .ok (.iconst 2, 1) := by decide +kernel
theorem dL_law_698 : decode cL_law 698 = .ok (.iadd, 1) := by decide +kernel
theorem dL_law_699 : decode cL_law 699 = .ok (.iaload, 1) := by decide +kernel
theorem dL_law_700 : decode cL_law 700 = .ok (.invokevirtual 87, 3) := by decide +kernel
theorem dL_law_703 : decode cL_law 703 = .ok (.if_icmp .eq 478, 3) := by decide +kernel
theorem dL_law_706 : decode cL_law 706 = .ok (.iconst 0, 1) := by decide +kernel
theorem dL_law_707 : decode cL_law 707 = .ok (.ireturn, 1) := by decide +kernel
theorem dL_law_708 : decode cL_law 708 = .ok (.aload_n 1, 1) := by decide +kernel
theorem dL_law_709 : decode cL_law 709 = .ok (.aload_n 0, 1) := by decide +kernel
theorem dL_law_710 : decode cL_law 710 = .ok (.iload_n 3, 1) := by decide +kernel
theorem dL_law_711 : decode cL_law 711 = .ok (.iconst 1, 1) := by decide +kernel
theorem dL_law_712 : decode cL_law 712 = .ok (.iadd, 1) := by decide +kernel
theorem dL_law_713 : decode cL_law 713 = .ok (.iaload, 1) := by decide +kernel
theorem dL_law_714 : decode cL_law 714 = .ok (.aload_n 0, 1) := by decide +kernel
theorem dL_law_715 : decode cL_law 715 = .ok (.iload_n 3, 1) := by decide +kernel
theorem dL_law_716 : decode cL_law 716 = .ok (.iconst 2, 1) := by decide +kernel
theorem dL_law_717 : decode cL_law 717 = .ok (.iadd, 1) := by decide +kernel
theorem dL_law_718 : decode cL_law 718 = .ok (.iaload, 1) := by decide +kernel
theorem dL_law_719 : decode cL_law 719 = .ok (.aload_n 0, 1) := by decide +kernel
theorem dL_law_720 : decode cL_law 720 = .ok (.iload_n 3, 1) := by decide +kernel
theorem dL_law_721 : decode cL_law 721 = .ok (.iconst 3, 1) := by decide +kernel
theorem dL_law_722 : decode cL_law 722 = .ok (.iadd, 1) := by decide +kernel
theorem dL_law_723 : decode cL_law 723 = .ok (.iaload, 1) := by decide +kernel
theorem dL_law_724 : decode cL_law 724 = .ok (.aload_n 0, 1) := by decide +kernel
theorem dL_law_725 : decode cL_law 725 = .ok (.iload_n 3, 1) := by decide +kernel
theorem dL_law_726 : decode cL_law 726 = .ok (.iconst 4, 1) := by decide +kernel
theorem dL_law_727 : decode cL_law 727 = .ok (.iadd, 1) := by decide +kernel
theorem dL_law_728 : decode cL_law 728 = .ok (.iaload, 1) := by decide +kernel
theorem dL_law_729 : decode cL_law 729 = .ok (.aload_n 0, 1) := by decide +kernel
theorem dL_law_730 : decode cL_law 730 = .ok (.iload_n 3, 1) := by decide +kernel
theorem dL_law_731 : decode cL_law 731 = .ok (.iconst 5, 1) := by decide +kernel
theorem dL_law_732 : decode cL_law 732 = .ok (.iadd, 1) := by decide +kernel
theorem dL_law_733 : decode cL_law 733 = .ok (.iaload, 1) := by decide +kernel
theorem dL_law_734 : decode cL_law 734 = .ok (.aload_n 0, 1) := by decide +kernel
theorem dL_law_735 : decode cL_law 735 = .ok (.iload_n 3, 1) := by decide +kernel
theorem dL_law_736 : decode cL_law 736 = .ok (.bipush 6, 2) := by decide +kernel
theorem dL_law_738 : decode cL_law 738 = .ok (.iadd, 1) := by decide +kernel
theorem dL_law_739 : decode cL_law 739 = .ok (.iaload, 1) := by decide +kernel
theorem dL_law_740 : decode cL_law 740 = .ok (.invokevirtual 88, 3) := by decide +kernel
theorem dL_law_743 : decode cL_law 743 = .ok (.aload_n 2, 1) := by decide +kernel
theorem dL_law_744 : decode cL_law 744 = .ok (.aload_n 0, 1) := by decide +kernel
theorem dL_law_745 : decode cL_law 745 = .ok (.iload_n 3, 1) := by decide +kernel
theorem dL_law_746 : decode cL_law 746 = .ok (.iconst 1, 1) := by decide +kernel
theorem dL_law_747 : decode cL_law 747 = .ok (.iadd, 1) := by decide +kernel
theorem dL_law_748 : decode cL_law 748 = .ok (.iaload, 1) := by decide +kernel
theorem dL_law_749 : decode cL_law 749 = .ok (.aload_n 0, 1) := by decide +kernel
theorem dL_law_750 : decode cL_law 750 = .ok (.iload_n 3, 1) := by decide +kernel
theorem dL_law_751 : decode cL_law 751 = .ok (.iconst 2, 1) := by decide +kernel
theorem dL_law_752 : decode cL_law 752 = .ok (.iadd, 1) := by decide +kernel
theorem dL_law_753 : decode cL_law 753 = .ok (.iaload, 1) := by decide +kernel
theorem dL_law_754 : decode cL_law 754 = .ok (.aload_n 0, 1) := by decide +kernel
theorem dL_law_755 : decode cL_law 755 = .ok (.iload_n 3, 1) := by decide +kernel
theorem dL_law_756 : decode cL_law 756 = .ok (.iconst 3, 1) := by decide +kernel
theorem dL_law_757 : decode cL_law 757 = .ok (.iadd, 1) := by decide +kernel
theorem dL_law_758 : decode cL_law 758 = .ok (.iaload, 1) := by decide +kernel
theorem dL_law_759 : decode cL_law 759 = .ok (.aload_n 0, 1) := by decide +kernel
theorem dL_law_760 : decode cL_law 760 = .ok (.iload_n 3, 1) := by decide +kernel
theorem dL_law_761 : decode cL_law 761 = .ok (.iconst 4, 1) := by decide +kernel
theorem dL_law_762 : decode cL_law 762 = .ok (.iadd, 1) := by decide +kernel
theorem dL_law_763 : decode cL_law 763 = .ok (.iaload, 1) := by decide +kernel
theorem dL_law_764 : decode cL_law 764 = .ok (.aload_n 0, 1) := by decide +kernel
theorem dL_law_765 : decode cL_law 765 = .ok (.iload_n 3, 1) := by decide +kernel
theorem dL_law_766 : decode cL_law 766 = .ok (.iconst 5, 1) := by decide +kernel
theorem dL_law_767 : decode cL_law 767 = .ok (.iadd, 1) := by decide +kernel
theorem dL_law_768 : decode cL_law 768 = .ok (.iaload, 1) := by decide +kernel
theorem dL_law_769 : decode cL_law 769 = .ok (.aload_n 0, 1) := by decide +kernel
theorem dL_law_770 : decode cL_law 770 = .ok (.iload_n 3, 1) := by decide +kernel
theorem dL_law_771 : decode cL_law 771 = .ok (.bipush 6, 2) := by decide +kernel
theorem dL_law_773 : decode cL_law 773 = .ok (.iadd, 1) := by decide +kernel
theorem dL_law_774 : decode cL_law 774 = .ok (.iaload, 1) := by decide +kernel
theorem dL_law_775 : decode cL_law 775 = .ok (.invokevirtual 92, 3) := by decide +kernel
theorem dL_law_778 : decode cL_law 778 = .ok (.lcmp, 1) := by decide +kernel
theorem dL_law_779 : decode cL_law 779 = .ok (.ifCond .eq 402, 3) := by decide +kernel
theorem dL_law_782 : decode cL_law 782 = .ok (.iconst 0, 1) := by decide +kernel
theorem dL_law_783 : decode cL_law 783 = .ok (.ireturn, 1) := by decide +kernel
theorem dL_law_784 : decode cL_law 784 = .ok (.aload_n 1, 1) := by decide +kernel
theorem dL_law_785 : decode cL_law 785 = .ok (.aload_n 0, 1) := by decide +kernel
theorem dL_law_786 : decode cL_law 786 = .ok (.iload_n 3, 1) := by decide +kernel
theorem dL_law_787 : decode cL_law 787 = .ok (.iconst 1, 1) := by decide +kernel
theorem dL_law_788 : decode cL_law 788 = .ok (.iadd, 1) := by decide +kernel
theorem dL_law_789 : decode cL_law 789 = .ok (.iaload, 1) := by decide +kernel
theorem dL_law_790 : decode cL_law 790 = .ok (.aload_n 0, 1) := by decide +kernel
theorem dL_law_791 : decode cL_law 791 = .ok (.iload_n 3, 1) := by decide +kernel
theorem dL_law_792 : decode cL_law 792 = .ok (.iconst 2, 1) := by decide +kernel
theorem dL_law_793 : decode cL_law 793 = .ok (.iadd, 1) := by decide +kernel
theorem dL_law_794 : decode cL_law 794 = .ok (.iaload, 1) := by decide +kernel
theorem dL_law_795 : decode cL_law 795 = .ok (.aload_n 0, 1) := by decide +kernel
theorem dL_law_796 : decode cL_law 796 = .ok (.iload_n 3, 1) := by decide +kernel
theorem dL_law_797 : decode cL_law 797 = .ok (.iconst 3, 1) := by decide +kernel
theorem dL_law_798 : decode cL_law 798 = .ok (.iadd, 1) := by decide +kernel
theorem dL_law_799 : decode cL_law 799 = .ok (.iaload, 1) := by decide +kernel
theorem dL_law_800 : decode cL_law 800 = .ok (.aload_n 0, 1) := by decide +kernel
theorem dL_law_801 : decode cL_law 801 = .ok (.iload_n 3, 1) := by decide +kernel
theorem dL_law_802 : decode cL_law 802 = .ok (.iconst 4, 1) := by decide +kernel
theorem dL_law_803 : decode cL_law 803 = .ok (.iadd, 1) := by decide +kernel
theorem dL_law_804 : decode cL_law 804 = .ok (.iaload, 1) := by decide +kernel
theorem dL_law_805 : decode cL_law 805 = .ok (.invokevirtual 93, 3) := by decide +kernel
theorem dL_law_808 : decode cL_law 808 = .ok (.aload_n 2, 1) := by decide +kernel
theorem dL_law_809 : decode cL_law 809 = .ok (.aload_n 0, 1) := by decide +kernel
theorem dL_law_810 : decode cL_law 810 = .ok (.iload_n 3, 1) := by decide +kernel
theorem dL_law_811 : decode cL_law 811 = .ok (.iconst 1, 1) := by decide +kernel
theorem dL_law_812 : decode cL_law 812 = .ok (.iadd, 1) := by decide +kernel
theorem dL_law_813 : decode cL_law 813 = .ok (.iaload, 1) := by decide +kernel
theorem dL_law_814 : decode cL_law 814 = .ok (.aload_n 0, 1) := by decide +kernel
theorem dL_law_815 : decode cL_law 815 = .ok (.iload_n 3, 1) := by decide +kernel
theorem dL_law_816 : decode cL_law 816 = .ok (.iconst 2, 1) := by decide +kernel
theorem dL_law_817 : decode cL_law 817 = .ok (.iadd, 1) := by decide +kernel
theorem dL_law_818 : decode cL_law 818 = .ok (.iaload, 1) := by decide +kernel
theorem dL_law_819 : decode cL_law 819 = .ok (.aload_n 0, 1) := by decide +kernel
theorem dL_law_820 : decode cL_law 820 = .ok (.iload_n 3, 1) := by decide +kernel
theorem dL_law_821 : decode cL_law 821 = .ok (.iconst 3, 1) := by decide +kernel
theorem dL_law_822 : decode cL_law 822 = .ok (.iadd, 1) := by decide +kernel
theorem dL_law_823 : decode cL_law 823 = .ok (.iaload, 1) := by decide +kernel
theorem dL_law_824 : decode cL_law 824 = .ok (.aload_n 0, 1) := by decide +kernel
theorem dL_law_825 : decode cL_law 825 = .ok (.iload_n 3, 1) := by decide +kernel
theorem dL_law_826 : decode cL_law 826 = .ok (.iconst 4, 1) := by decide +kernel
theorem dL_law_827 : decode cL_law 827 = .ok (.iadd, 1) := by decide +kernel
theorem dL_law_828 : decode cL_law 828 = .ok (.iaload, 1) := by decide +kernel
theorem dL_law_829 : decode cL_law 829 = .ok (.invokevirtual 96, 3) := by decide +kernel
theorem dL_law_832 : decode cL_law 832 = .ok (.if_icmp .eq 349, 3) := by decide +kernel
theorem dL_law_835 : decode cL_law 835 = .ok (.iconst 0, 1) := by decide +kernel
theorem dL_law_836 : decode cL_law 836 = .ok (.ireturn, 1) := by decide +kernel
theorem dL_law_837 : decode cL_law 837 = .ok (.aload_n 1, 1) := by decide +kernel
theorem dL_law_838 : decode cL_law 838 = .ok (.aload_n 0, 1) := by decide +kernel
theorem dL_law_839 : decode cL_law 839 = .ok (.iload_n 3, 1) := by decide +kernel
theorem dL_law_840 : decode cL_law 840 = .ok (.iconst 1, 1) := by decide +kernel
theorem dL_law_841 : decode cL_law 841 = .ok (.iadd, 1) := by decide +kernel
theorem dL_law_842 : decode cL_law 842 = .ok (.iaload, 1) := by decide +kernel
theorem dL_law_843 : decode cL_law 843 = .ok (.aload_n 0, 1) := by decide +kernel
theorem dL_law_844 : decode cL_law 844 = .ok (.iload_n 3, 1) := by decide +kernel
theorem dL_law_845 : decode cL_law 845 = .ok (.iconst 2, 1) := by decide +kernel
theorem dL_law_846 : decode cL_law 846 = .ok (.iadd, 1) := by decide +kernel
theorem dL_law_847 : decode cL_law 847 = .ok (.iaload, 1) := by decide +kernel
theorem dL_law_848 : decode cL_law 848 = .ok (.aload_n 0, 1) := by decide +kernel
theorem dL_law_849 : decode cL_law 849 = .ok (.iload_n 3, 1) := by decide +kernel
theorem dL_law_850 : decode cL_law 850 = .ok (.iconst 3, 1) := by decide +kernel
theorem dL_law_851 : decode cL_law 851 = .ok (.iadd, 1) := by decide +kernel
theorem dL_law_852 : decode cL_law 852 = .ok (.iaload, 1) := by decide +kernel
theorem dL_law_853 : decode cL_law 853 = .ok (.invokevirtual 97, 3) := by decide +kernel
theorem dL_law_856 : decode cL_law 856 = .ok (.aload_n 2, 1) := by decide +kernel
theorem dL_law_857 : decode cL_law 857 = .ok (.aload_n 0, 1) := by decide +kernel
theorem dL_law_858 : decode cL_law 858 = .ok (.iload_n 3, 1) := by decide +kernel
theorem dL_law_859 : decode cL_law 859 = .ok (.iconst 1, 1) := by decide +kernel
theorem dL_law_860 : decode cL_law 860 = .ok (.iadd, 1) := by decide +kernel
theorem dL_law_861 : decode cL_law 861 = .ok (.iaload, 1) := by decide +kernel
theorem dL_law_862 : decode cL_law 862 = .ok (.aload_n 0, 1) := by decide +kernel
theorem dL_law_863 : decode cL_law 863 = .ok (.iload_n 3, 1) := by decide +kernel
theorem dL_law_864 : decode cL_law 864 = .ok (.iconst 2, 1) := by decide +kernel
theorem dL_law_865 : decode cL_law 865 = .ok (.iadd, 1) := by decide +kernel
theorem dL_law_866 : decode cL_law 866 = .ok (.iaload, 1) := by decide +kernel
theorem dL_law_867 : decode cL_law 867 = .ok (.aload_n 0, 1) := by decide +kernel
theorem dL_law_868 : decode cL_law 868 = .ok (.iload_n 3, 1) := by decide +kernel
theorem dL_law_869 : decode cL_law 869 = .ok (.iconst 3, 1) := by decide +kernel
theorem dL_law_870 : decode cL_law 870 = .ok (.iadd, 1) := by decide +kernel
theorem dL_law_871 : decode cL_law 871 = .ok (.iaload, 1) := by decide +kernel
theorem dL_law_872 : decode cL_law 872 = .ok (.invokevirtual 101, 3) := by decide +kernel
theorem dL_law_875 : decode cL_law 875 = .ok (.if_icmp .eq 306, 3) := by decide +kernel
theorem dL_law_878 : decode cL_law 878 = .ok (.iconst 0, 1) := by decide +kernel
theorem dL_law_879 : decode cL_law 879 = .ok (.ireturn, 1) := by decide +kernel
theorem dL_law_880 : decode cL_law 880 = .ok (.aload_n 1, 1) := by decide +kernel
theorem dL_law_881 : decode cL_law 881 = .ok (.aload_n 0, 1) := by decide +kernel
theorem dL_law_882 : decode cL_law 882 = .ok (.iload_n 3, 1) := by decide +kernel
theorem dL_law_883 : decode cL_law 883 = .ok (.iconst 1, 1) := by decide +kernel
theorem dL_law_884 : decode cL_law 884 = .ok (.iadd, 1) := by decide +kernel
theorem dL_law_885 : decode cL_law 885 = .ok (.iaload, 1) := by decide +kernel
theorem dL_law_886 : decode cL_law 886 = .ok (.invokevirtual 102, 3) := by decide +kernel
theorem dL_law_889 : decode cL_law 889 = .ok (.aload_n 2, 1) := by decide +kernel
theorem dL_law_890 : decode cL_law 890 = .ok (.aload_n 0, 1) := by decide +kernel
theorem dL_law_891 : decode cL_law 891 = .ok (.iload_n 3, 1) := by decide +kernel
theorem dL_law_892 : decode cL_law 892 = .ok (.iconst 1, 1) := by decide +kernel
theorem dL_law_893 : decode cL_law 893 = .ok (.iadd, 1) := by decide +kernel
theorem dL_law_894 : decode cL_law 894 = .ok (.iaload, 1) := by decide +kernel
theorem dL_law_895 : decode cL_law 895 = .ok (.invokevirtual 105, 3) := by decide +kernel
theorem dL_law_898 : decode cL_law 898 = .ok (.if_icmp .eq 283, 3) := by decide +kernel
theorem dL_law_901 : decode cL_law 901 = .ok (.iconst 0, 1) := by decide +kernel
theorem dL_law_902 : decode cL_law 902 = .ok (.ireturn, 1) := by decide +kernel
theorem dL_law_903 : decode cL_law 903 = .ok (.aload_n 1, 1) := by decide +kernel
theorem dL_law_904 : decode cL_law 904 = .ok (.aload_n 0, 1) := by decide +kernel
theorem dL_law_905 : decode cL_law 905 = .ok (.iload_n 3, 1) := by decide +kernel
theorem dL_law_906 : decode cL_law 906 = .ok (.iconst 1, 1) := by decide +kernel
theorem dL_law_907 : decode cL_law 907 = .ok (.iadd, 1) := by decide +kernel
theorem dL_law_908 : decode cL_law 908 = .ok (.iaload, 1) := by decide +kernel
theorem dL_law_909 : decode cL_law 909 = .ok (.aload_n 0, 1) := by decide +kernel
theorem dL_law_910 : decode cL_law 910 = .ok (.iload_n 3, 1) := by decide +kernel
theorem dL_law_911 : decode cL_law 911 = .ok (.iconst 2, 1) := by decide +kernel
theorem dL_law_912 : decode cL_law 912 = .ok (.iadd, 1) := by decide +kernel
theorem dL_law_913 : decode cL_law 913 = .ok (.iaload, 1) := by decide +kernel
theorem dL_law_914 : decode cL_law 914 = .ok (.aload_n 0, 1) := by decide +kernel
theorem dL_law_915 : decode cL_law 915 = .ok (.iload_n 3, 1) := by decide +kernel
theorem dL_law_916 : decode cL_law 916 = .ok (.iconst 3, 1) := by decide +kernel
theorem dL_law_917 : decode cL_law 917 = .ok (.iadd, 1) := by decide +kernel
theorem dL_law_918 : decode cL_law 918 = .ok (.iaload, 1) := by decide +kernel
theorem dL_law_919 : decode cL_law 919 = .ok (.invokevirtual 106, 3) := by decide +kernel
theorem dL_law_922 : decode cL_law 922 = .ok (.aload_n 2, 1) := by decide +kernel
theorem dL_law_923 : decode cL_law 923 = .ok (.aload_n 0, 1) := by decide +kernel
theorem dL_law_924 : decode cL_law 924 = .ok (.iload_n 3, 1) := by decide +kernel
theorem dL_law_925 : decode cL_law 925 = .ok (.iconst 1, 1) := by decide +kernel
theorem dL_law_926 : decode cL_law 926 = .ok (.iadd, 1) := by decide +kernel
theorem dL_law_927 : decode cL_law 927 = .ok (.iaload, 1) := by decide +kernel
theorem dL_law_928 : decode cL_law 928 = .ok (.aload_n 0, 1) := by decide +kernel
theorem dL_law_929 : decode cL_law 929 = .ok (.iload_n 3, 1) := by decide +kernel
theorem dL_law_930 : decode cL_law 930 = .ok (.iconst 2, 1) := by decide +kernel
theorem dL_law_931 : decode cL_law 931 = .ok (.iadd, 1) := by decide +kernel
theorem dL_law_932 : decode cL_law 932 = .ok (.iaload, 1) := by decide +kernel
theorem dL_law_933 : decode cL_law 933 = .ok (.aload_n 0, 1) := by decide +kernel
theorem dL_law_934 : decode cL_law 934 = .ok (.iload_n 3, 1) := by decide +kernel
theorem dL_law_935 : decode cL_law 935 = .ok (.iconst 3, 1) := by decide +kernel
theorem dL_law_936 : decode cL_law 936 = .ok (.iadd, 1) := by decide +kernel
theorem dL_law_937 : decode cL_law 937 = .ok (.iaload, 1) := by decide +kernel
theorem dL_law_938 : decode cL_law 938 = .ok (.invokevirtual 109, 3) := by decide +kernel
theorem dL_law_941 : decode cL_law 941 = .ok (.if_icmp .eq 240, 3) := by decide +kernel
theorem dL_law_944 : decode cL_law 944 = .ok (.iconst 0, 1) := by decide +kernel
theorem dL_law_945 : decode cL_law 945 = .ok (.ireturn, 1) := by decide +kernel
theorem dL_law_946 : decode cL_law 946 = .ok (.aload_n 1, 1) := by decide +kernel
theorem dL_law_947 : decode cL_law 947 = .ok (.aload_n 0, 1) := by decide +kernel
theorem dL_law_948 : decode cL_law 948 = .ok (.iload_n 3, 1) := by decide +kernel
theorem dL_law_949 : decode cL_law 949 = .ok (.iconst 1, 1) := by decide +kernel
theorem dL_law_950 : decode cL_law 950 = .ok (.iadd, 1) := by decide +kernel
theorem dL_law_951 : decode cL_law 951 = .ok (.iaload, 1) := by decide +kernel
theorem dL_law_952 : decode cL_law 952 = .ok (.aload_n 0, 1) := by decide +kernel
theorem dL_law_953 : decode cL_law 953 = .ok (.iload_n 3, 1) := by decide +kernel
theorem dL_law_954 : decode cL_law 954 = .ok (.iconst 2, 1) := by decide +kernel
theorem dL_law_955 : decode cL_law 955 = .ok (.iadd, 1) := by decide +kernel
theorem dL_law_956 : decode cL_law 956 = .ok (.iaload, 1) := by decide +kernel
theorem dL_law_957 : decode cL_law 957 = .ok (.aload_n 0, 1) := by decide +kernel
theorem dL_law_958 : decode cL_law 958 = .ok (.iload_n 3, 1) := by decide +kernel
theorem dL_law_959 : decode cL_law 959 = .ok (.iconst 3, 1) := by decide +kernel
theorem dL_law_960 : decode cL_law 960 = .ok (.iadd, 1) := by decide +kernel
theorem dL_law_961 : decode cL_law 961 = .ok (.iaload, 1) := by decide +kernel
theorem dL_law_962 : decode cL_law 962 = .ok (.invokevirtual 110, 3) := by decide +kernel
theorem dL_law_965 : decode cL_law 965 = .ok (.aload_n 2, 1) := by decide +kernel
theorem dL_law_966 : decode cL_law 966 = .ok (.aload_n 0, 1) := by decide +kernel
theorem dL_law_967 : decode cL_law 967 = .ok (.iload_n 3, 1) := by decide +kernel
theorem dL_law_968 : decode cL_law 968 = .ok (.iconst 1, 1) := by decide +kernel
theorem dL_law_969 : decode cL_law 969 = .ok (.iadd, 1) := by decide +kernel
theorem dL_law_970 : decode cL_law 970 = .ok (.iaload, 1) := by decide +kernel
theorem dL_law_971 : decode cL_law 971 = .ok (.aload_n 0, 1) := by decide +kernel
theorem dL_law_972 : decode cL_law 972 = .ok (.iload_n 3, 1) := by decide +kernel
theorem dL_law_973 : decode cL_law 973 = .ok (.iconst 2, 1) := by decide +kernel
theorem dL_law_974 : decode cL_law 974 = .ok (.iadd, 1) := by decide +kernel
theorem dL_law_975 : decode cL_law 975 = .ok (.iaload, 1) := by decide +kernel
theorem dL_law_976 : decode cL_law 976 = .ok (.aload_n 0, 1) := by decide +kernel
theorem dL_law_977 : decode cL_law 977 = .ok (.iload_n 3, 1) := by decide +kernel
theorem dL_law_978 : decode cL_law 978 = .ok (.iconst 3, 1) := by decide +kernel
theorem dL_law_979 : decode cL_law 979 = .ok (.iadd, 1) := by decide +kernel
theorem dL_law_980 : decode cL_law 980 = .ok (.iaload, 1) := by decide +kernel
theorem dL_law_981 : decode cL_law 981 = .ok (.invokevirtual 114, 3) := by decide +kernel
theorem dL_law_984 : decode cL_law 984 = .ok (.lcmp, 1) := by decide +kernel
theorem dL_law_985 : decode cL_law 985 = .ok (.ifCond .eq 196, 3) := by decide +kernel
theorem dL_law_988 : decode cL_law 988 = .ok (.iconst 0, 1) := by decide +kernel
theorem dL_law_989 : decode cL_law 989 = .ok (.ireturn, 1) := by decide +kernel
theorem dL_law_990 : decode cL_law 990 = .ok (.aload_n 1, 1) := by decide +kernel
theorem dL_law_991 : decode cL_law 991 = .ok (.aload_n 0, 1) := by decide +kernel
theorem dL_law_992 : decode cL_law 992 = .ok (.iload_n 3, 1) := by decide +kernel
theorem dL_law_993 : decode cL_law 993 = .ok (.iconst 1, 1) := by decide +kernel
theorem dL_law_994 : decode cL_law 994 = .ok (.iadd, 1) := by decide +kernel
theorem dL_law_995 : decode cL_law 995 = .ok (.iaload, 1) := by decide +kernel
theorem dL_law_996 : decode cL_law 996 = .ok (.aload_n 0, 1) := by decide +kernel
theorem dL_law_997 : decode cL_law 997 = .ok (.iload_n 3, 1) := by decide +kernel
theorem dL_law_998 : decode cL_law 998 = .ok (.iconst 2, 1) := by decide +kernel
theorem dL_law_999 : decode cL_law 999 = .ok (.iadd, 1) := by decide +kernel
theorem dL_law_1000 : decode cL_law 1000 = .ok (.iaload, 1) := by decide +kernel
theorem dL_law_1001 : decode cL_law 1001 = .ok (.aload_n 0, 1) := by decide +kernel
theorem dL_law_1002 : decode cL_law 1002 = .ok (.iload_n 3, 1) := by decide +kernel
theorem dL_law_1003 : decode cL_law 1003 = .ok (.iconst 3, 1) := by decide +kernel
theorem dL_law_1004 : decode cL_law 1004 = .ok (.iadd, 1) := by decide +kernel
theorem dL_law_1005 : decode cL_law 1005 = .ok (.iaload, 1) := by decide +kernel
theorem dL_law_1006 : decode cL_law 1006 = .ok (.aload_n 0, 1) := by decide +kernel
theorem dL_law_1007 : decode cL_law 1007 = .ok (.iload_n 3, 1) := by decide +kernel
theorem dL_law_1008 : decode cL_law 1008 = .ok (.iconst 4, 1) := by decide +kernel
theorem dL_law_1009 : decode cL_law 1009 = .ok (.iadd, 1) := by decide +kernel
theorem dL_law_1010 : decode cL_law 1010 = .ok (.iaload, 1) := by decide +kernel
theorem dL_law_1011 : decode cL_law 1011 = .ok (.aload_n 0, 1) := by decide +kernel
theorem dL_law_1012 : decode cL_law 1012 = .ok (.iload_n 3, 1) := by decide +kernel
theorem dL_law_1013 : decode cL_law 1013 = .ok (.iconst 5, 1) := by decide +kernel
theorem dL_law_1014 : decode cL_law 1014 = .ok (.iadd, 1) := by decide +kernel
theorem dL_law_1015 : decode cL_law 1015 = .ok (.iaload, 1) := by decide +kernel
theorem dL_law_1016 : decode cL_law 1016 = .ok (.invokevirtual 115, 3) := by decide +kernel
theorem dL_law_1019 : decode cL_law 1019 = .ok (.aload_n 2, 1) := by decide +kernel
theorem dL_law_1020 : decode cL_law 1020 = .ok (.aload_n 0, 1) := by decide +kernel
theorem dL_law_1021 : decode cL_law 1021 = .ok (.iload_n 3, 1) := by decide +kernel
theorem dL_law_1022 : decode cL_law 1022 = .ok (.iconst 1, 1) := by decide +kernel
theorem dL_law_1023 : decode cL_law 1023 = .ok (.iadd, 1) := by decide +kernel
theorem dL_law_1024 : decode cL_law 1024 = .ok (.iaload, 1) := by decide +kernel
theorem dL_law_1025 : decode cL_law 1025 = .ok (.aload_n 0, 1) := by decide +kernel
theorem dL_law_1026 : decode cL_law 1026 = .ok (.iload_n 3, 1) := by decide +kernel
theorem dL_law_1027 : decode cL_law 1027 = .ok (.iconst 2, 1) := by decide +kernel
theorem dL_law_1028 : decode cL_law 1028 = .ok (.iadd, 1) := by decide +kernel
theorem dL_law_1029 : decode cL_law 1029 = .ok (.iaload, 1) := by decide +kernel
theorem dL_law_1030 : decode cL_law 1030 = .ok (.aload_n 0, 1) := by decide +kernel
theorem dL_law_1031 : decode cL_law 1031 = .ok (.iload_n 3, 1) := by decide +kernel
theorem dL_law_1032 : decode cL_law 1032 = .ok (.iconst 3, 1) := by decide +kernel
theorem dL_law_1033 : decode cL_law 1033 = .ok (.iadd, 1) := by decide +kernel
theorem dL_law_1034 : decode cL_law 1034 = .ok (.iaload, 1) := by decide +kernel
theorem dL_law_1035 : decode cL_law 1035 = .ok (.aload_n 0, 1) := by decide +kernel
theorem dL_law_1036 : decode cL_law 1036 = .ok (.iload_n 3, 1) := by decide +kernel
theorem dL_law_1037 : decode cL_law 1037 = .ok (.iconst 4, 1) := by decide +kernel
theorem dL_law_1038 : decode cL_law 1038 = .ok (.iadd, 1) := by decide +kernel
theorem dL_law_1039 : decode cL_law 1039 = .ok (.iaload, 1) := by decide +kernel
theorem dL_law_1040 : decode cL_law 1040 = .ok (.aload_n 0, 1) := by decide +kernel
theorem dL_law_1041 : decode cL_law 1041 = .ok (.iload_n 3, 1) := by decide +kernel
theorem dL_law_1042 : decode cL_law 1042 = .ok (.iconst 5, 1) := by decide +kernel
theorem dL_law_1043 : decode cL_law 1043 = .ok (.iadd, 1) := by decide +kernel
theorem dL_law_1044 : decode cL_law 1044 = .ok (.iaload, 1) := by decide +kernel
theorem dL_law_1045 : decode cL_law 1045 = .ok (.invokevirtual 119, 3) := by decide +kernel
theorem dL_law_1048 : decode cL_law 1048 = .ok (.if_icmp .eq 133, 3) := by decide +kernel
theorem dL_law_1051 : decode cL_law 1051 = .ok (.iconst 0, 1) := by decide +kernel
theorem dL_law_1052 : decode cL_law 1052 = .ok (.ireturn, 1) := by decide +kernel
theorem dL_law_1053 : decode cL_law 1053 = .ok (.aload_n 1, 1) := by decide +kernel
theorem dL_law_1054 : decode cL_law 1054 = .ok (.aload_n 0, 1) := by decide +kernel
theorem dL_law_1055 : decode cL_law 1055 = .ok (.iload_n 3, 1) := by decide +kernel
theorem dL_law_1056 : decode cL_law 1056 = .ok (.iconst 1, 1) := by decide +kernel
theorem dL_law_1057 : decode cL_law 1057 = .ok (.iadd, 1) := by decide +kernel
theorem dL_law_1058 : decode cL_law 1058 = .ok (.iaload, 1) := by decide +kernel
theorem dL_law_1059 : decode cL_law 1059 = .ok (.invokevirtual 120, 3) := by decide +kernel
theorem dL_law_1062 : decode cL_law 1062 = .ok (.aload_n 2, 1) := by decide +kernel
theorem dL_law_1063 : decode cL_law 1063 = .ok (.aload_n 0, 1) := by decide +kernel
theorem dL_law_1064 : decode cL_law 1064 = .ok (.iload_n 3, 1) := by decide +kernel
theorem dL_law_1065 : decode cL_law 1065 = .ok (.iconst 1, 1) := by decide +kernel
theorem dL_law_1066 : decode cL_law 1066 = .ok (.iadd, 1) := by decide +kernel
theorem dL_law_1067 : decode cL_law 1067 = .ok (.iaload, 1) := by decide +kernel
theorem dL_law_1068 : decode cL_law 1068 = .ok (.invokevirtual 123, 3) := by decide +kernel
theorem dL_law_1071 : decode cL_law 1071 = .ok (.if_icmp .eq 110, 3) := by decide +kernel
theorem dL_law_1074 : decode cL_law 1074 = .ok (.iconst 0, 1) := by decide +kernel
theorem dL_law_1075 : decode cL_law 1075 = .ok (.ireturn, 1) := by decide +kernel
theorem dL_law_1076 : decode cL_law 1076 = .ok (.aload_n 1, 1) := by decide +kernel
theorem dL_law_1077 : decode cL_law 1077 = .ok (.aload_n 0, 1) := by decide +kernel
theorem dL_law_1078 : decode cL_law 1078 = .ok (.iload_n 3, 1) := by decide +kernel
theorem dL_law_1079 : decode cL_law 1079 = .ok (.iconst 1, 1) := by decide +kernel
theorem dL_law_1080 : decode cL_law 1080 = .ok (.iadd, 1) := by decide +kernel
theorem dL_law_1081 : decode cL_law 1081 = .ok (.iaload, 1) := by decide +kernel
theorem dL_law_1082 : decode cL_law 1082 = .ok (.invokevirtual 124, 3) := by decide +kernel
theorem dL_law_1085 : decode cL_law 1085 = .ok (.aload_n 2, 1) := by decide +kernel
theorem dL_law_1086 : decode cL_law 1086 = .ok (.aload_n 0, 1) := by decide +kernel
theorem dL_law_1087 : decode cL_law 1087 = .ok (.iload_n 3, 1) := by decide +kernel
theorem dL_law_1088 : decode cL_law 1088 = .ok (.iconst 1, 1) := by decide +kernel
theorem dL_law_1089 : decode cL_law 1089 = .ok (.iadd, 1) := by decide +kernel
theorem dL_law_1090 : decode cL_law 1090 = .ok (.iaload, 1) := by decide +kernel
theorem dL_law_1091 : decode cL_law 1091 = .ok (.invokevirtual 127, 3) := by decide +kernel
theorem dL_law_1094 : decode cL_law 1094 = .ok (.if_icmp .eq 87, 3) := by decide +kernel
theorem dL_law_1097 : decode cL_law 1097 = .ok (.iconst 0, 1) := by decide +kernel
theorem dL_law_1098 : decode cL_law 1098 = .ok (.ireturn, 1) := by decide +kernel
theorem dL_law_1099 : decode cL_law 1099 = .ok (.aload_n 1, 1) := by decide +kernel
theorem dL_law_1100 : decode cL_law 1100 = .ok (.aload_n 0, 1) := by decide +kernel
theorem dL_law_1101 : decode cL_law 1101 = .ok (.iload_n 3, 1) := by decide +kernel
theorem dL_law_1102 : decode cL_law 1102 = .ok (.iconst 1, 1) := by decide +kernel
theorem dL_law_1103 : decode cL_law 1103 = .ok (.iadd, 1) := by decide +kernel
theorem dL_law_1104 : decode cL_law 1104 = .ok (.iaload, 1) := by decide +kernel
theorem dL_law_1105 : decode cL_law 1105 = .ok (.aload_n 0, 1) := by decide +kernel
theorem dL_law_1106 : decode cL_law 1106 = .ok (.iload_n 3, 1) := by decide +kernel
theorem dL_law_1107 : decode cL_law 1107 = .ok (.iconst 2, 1) := by decide +kernel
theorem dL_law_1108 : decode cL_law 1108 = .ok (.iadd, 1) := by decide +kernel
theorem dL_law_1109 : decode cL_law 1109 = .ok (.iaload, 1) := by decide +kernel
theorem dL_law_1110 : decode cL_law 1110 = .ok (.invokevirtual 128, 3) := by decide +kernel
theorem dL_law_1113 : decode cL_law 1113 = .ok (.aload_n 2, 1) := by decide +kernel
theorem dL_law_1114 : decode cL_law 1114 = .ok (.aload_n 0, 1) := by decide +kernel
theorem dL_law_1115 : decode cL_law 1115 = .ok (.iload_n 3, 1) := by decide +kernel
theorem dL_law_1116 : decode cL_law 1116 = .ok (.iconst 1, 1) := by decide +kernel
theorem dL_law_1117 : decode cL_law 1117 = .ok (.iadd, 1) := by decide +kernel
theorem dL_law_1118 : decode cL_law 1118 = .ok (.iaload, 1) := by decide +kernel
theorem dL_law_1119 : decode cL_law 1119 = .ok (.aload_n 0, 1) := by decide +kernel
theorem dL_law_1120 : decode cL_law 1120 = .ok (.iload_n 3, 1) := by decide +kernel
theorem dL_law_1121 : decode cL_law 1121 = .ok (.iconst 2, 1) := by decide +kernel
theorem dL_law_1122 : decode cL_law 1122 = .ok (.iadd, 1) := by decide +kernel
theorem dL_law_1123 : decode cL_law 1123 = .ok (.iaload, 1) := by decide +kernel
theorem dL_law_1124 : decode cL_law 1124 = .ok (.invokevirtual 131, 3) := by decide +kernel
theorem dL_law_1127 : decode cL_law 1127 = .ok (.if_icmp .eq 54, 3) := by decide +kernel
theorem dL_law_1130 : decode cL_law 1130 = .ok (.iconst 0, 1) := by decide +kernel
theorem dL_law_1131 : decode cL_law 1131 = .ok (.ireturn, 1) := by decide +kernel
theorem dL_law_1132 : decode cL_law 1132 = .ok (.aload_n 1, 1) := by decide +kernel
theorem dL_law_1133 : decode cL_law 1133 = .ok (.invokevirtual 132, 3) := by decide +kernel
theorem dL_law_1136 : decode cL_law 1136 = .ok (.aload_n 2, 1) := by decide +kernel
theorem dL_law_1137 : decode cL_law 1137 = .ok (.invokevirtual 135, 3) := by decide +kernel
theorem dL_law_1140 : decode cL_law 1140 = .ok (.if_icmp .eq 41, 3) := by decide +kernel
theorem dL_law_1143 : decode cL_law 1143 = .ok (.iconst 0, 1) := by decide +kernel
theorem dL_law_1144 : decode cL_law 1144 = .ok (.ireturn, 1) := by decide +kernel
theorem dL_law_1145 : decode cL_law 1145 = .ok (.aload_n 1, 1) := by decide +kernel
theorem dL_law_1146 : decode cL_law 1146 = .ok (.invokevirtual 136, 3) := by decide +kernel
theorem dL_law_1149 : decode cL_law 1149 = .ok (.aload_n 2, 1) := by decide +kernel
theorem dL_law_1150 : decode cL_law 1150 = .ok (.invokevirtual 139, 3) := by decide +kernel
theorem dL_law_1153 : decode cL_law 1153 = .ok (.if_icmp .eq 28, 3) := by decide +kernel
theorem dL_law_1156 : decode cL_law 1156 = .ok (.iconst 0, 1) := by decide +kernel
theorem dL_law_1157 : decode cL_law 1157 = .ok (.ireturn, 1) := by decide +kernel
theorem dL_law_1158 : decode cL_law 1158 = .ok (.aload_n 1, 1) := by decide +kernel
theorem dL_law_1159 : decode cL_law 1159 = .ok (.aload_n 0, 1) := by decide +kernel
theorem dL_law_1160 : decode cL_law 1160 = .ok (.iload_n 3, 1) := by decide +kernel
theorem dL_law_1161 : decode cL_law 1161 = .ok (.iconst 1, 1) := by decide +kernel
theorem dL_law_1162 : decode cL_law 1162 = .ok (.iadd, 1) := by decide +kernel
theorem dL_law_1163 : decode cL_law 1163 = .ok (.iaload, 1) := by decide +kernel
theorem dL_law_1164 : decode cL_law 1164 = .ok (.invokevirtual 140, 3) := by decide +kernel
theorem dL_law_1167 : decode cL_law 1167 = .ok (.aload_n 2, 1) := by decide +kernel
theorem dL_law_1168 : decode cL_law 1168 = .ok (.aload_n 0, 1) := by decide +kernel
theorem dL_law_1169 : decode cL_law 1169 = .ok (.iload_n 3, 1) := by decide +kernel
theorem dL_law_1170 : decode cL_law 1170 = .ok (.iconst 1, 1) := by decide +kernel
theorem dL_law_1171 : decode cL_law 1171 = .ok (.iadd, 1) := by decide +kernel
theorem dL_law_1172 : decode cL_law 1172 = .ok (.iaload, 1) := by decide +kernel
theorem dL_law_1173 : decode cL_law 1173 = .ok (.invokevirtual 143, 3) := by decide +kernel
theorem dL_law_1176 : decode cL_law 1176 = .ok (.if_icmp .eq 5, 3) := by decide +kernel
theorem dL_law_1179 : decode cL_law 1179 = .ok (.iconst 0, 1) := by decide +kernel
theorem dL_law_1180 : decode cL_law 1180 = .ok (.ireturn, 1) := by decide +kernel
theorem dL_law_1181 : decode cL_law 1181 = .ok (.iinc 3 7, 3) := by decide +kernel
theorem dL_law_1184 : decode cL_law 1184 = .ok (.goto (-1166), 3) := by decide +kernel
theorem dL_law_1187 : decode cL_law 1187 = .ok (.iconst 1, 1) := by decide +kernel
theorem dL_law_1188 : decode cL_law 1188 = .ok (.ireturn, 1) := by decide +kernel
end
section
/-! the words that every method has: all of the tables that travel -/
def BG : List Cond := lw_tbl.filter goodWord
theorem BG_of {w : Cond} (h : w ∈ lw_tbl) (hg : goodWord w = true) : w ∈ BG := List.mem_filter.mpr ⟨h, hg⟩
theorem BG_ix {w : Cond} (i : Nat) (h : lw_tbl[i]? = some w) (hg : goodWord w = true) : w ∈ BG := BG_of (List.mem_of_getElem? h) hg
theorem BG_good {w : Cond} (h : w ∈ BG) : (w.onTables && w.keeps) = true ∨ ∃ ty, w = .arrayClass ty := good_of_word (List.mem_filter.mp h).2
theorem BG_in {l : List Cond} (h : ∀ w ∈ l, w ∈ BG) : GoodIn BG l := fun w hw => ⟨h w hw, BG_good (h w hw)⟩
theorem BG_cons {cy : Cond} (h : cy ∈ BG) : GoodIn BG (cy :: BG) := BG_in fun w hw => by
  rcases List.mem_cons.mp hw with e | e
  · rw [e]; exact h
  · exact e
theorem BG_app {l : List Cond} {cy : Cond} (h1 : ∀ w ∈ l, w ∈ BG) (h : cy ∈ BG) : GoodIn BG (l ++ cy :: BG) := BG_in fun w hw => by
  rcases List.mem_append.mp hw with e | e
  · exact h1 w e
  · exact ((BG_cons h) w e).1
abbrev SS : Type := Nat → Nat → Int32
def up2 (s : SS) (j i : Nat) (v : Int32) : SS := fun a => if a = j then upd (s j) i v else s a
def ups (s : SS) (j : Nat) (f : Nat → Int32) : SS := fun a => if a = j then f else s a
def inb (x : Int32) (n : Nat) : Bool := !(decide (x < 0)) && decide (x.toNatClampNeg < n)
theorem inb_in {x : Int32} {n : Nat} (h : inb x n = true) : vp_in x n := by
  simp only [inb, Bool.and_eq_true, Bool.not_eq_true', decide_eq_false_iff_not, decide_eq_true_eq] at h
  intro q
  rcases q with q | q
  · exact h.1 q
  · exact absurd h.2 (Nat.not_lt.mpr q)
def nb (x : Int32) : Bool := decide (x &&& 1 = x)
theorem nb_nar {x : Int32} (h : nb x = true) : narrow .boolean (.int x) = .int x := by
  have h' : x &&& 1 = x := of_decide_eq_true h
  show Value.int (x &&& 1) = .int x
  rw [h']
def bnd {α β γ : Type} (a : Option (α × β)) (f : α → β → Option γ) : Option γ := match a with
  | none => none
  | some (x, s) => f x s
def bnd0 {β γ : Type} (a : Option β) (f : β → Option γ) : Option γ := match a with
  | none => none
  | some s => f s
theorem bnd_e {α β γ : Type} {a : Option (α × β)} {f : α → β → Option γ} {r : γ} (h : bnd a f = some r) : ∃ x s, a = some (x, s) ∧ f x s = some r := by
  cases a with
  | none => cases h
  | some q => exact ⟨q.1, q.2, rfl, h⟩
theorem bnd0_e {β γ : Type} {a : Option β} {f : β → Option γ} {r : γ} (h : bnd0 a f = some r) : ∃ s, a = some s ∧ f s = some r := by
  cases a with
  | none => cases h
  | some q => exact ⟨q, rfl, h⟩
theorem ob_e {γ : Type} {c : Prop} [Decidable c] {a : Option γ} {r : γ} (h : (if c then a else none) = some r) : c ∧ a = some r := by
  by_cases hc : c
  · rw [if_pos hc] at h; exact ⟨hc, h⟩
  · rw [if_neg hc] at h; cases h
theorem if_e {γ : Type} {c : Prop} [Decidable c] {a b r : γ} (h : (if c then a else b) = r) (hc : c) : a = r := by rw [if_pos hc] at h; exact h
theorem if_n {γ : Type} {c : Prop} [Decidable c] {a b r : γ} (h : (if c then a else b) = r) (hc : ¬ c) : b = r := by rw [if_neg hc] at h; exact h
def fuel : Nat := 1000000
/-! the walk's fixed things -/
def Cx : Type := Program × Launch × Env × Room × State × MethodId × Array Value × List Frame × Method × Code × (State → Prop) × (Nat → Prop) × va_G
abbrev xp (X : Cx) : Program := X.1
abbrev xl (X : Cx) : Launch := X.2.1
abbrev xe (X : Cx) : Env := X.2.2.1
abbrev xR (X : Cx) : Room := X.2.2.2.1
abbrev xs (X : Cx) : State := X.2.2.2.2.1
abbrev xm (X : Cx) : MethodId := X.2.2.2.2.2.1
abbrev xa (X : Cx) : Array Value := X.2.2.2.2.2.2.1
abbrev xb (X : Cx) : List Frame := X.2.2.2.2.2.2.2.1
abbrev xM (X : Cx) : Method := X.2.2.2.2.2.2.2.2.1
abbrev xc (X : Cx) : Code := X.2.2.2.2.2.2.2.2.2.1
abbrev xQ (X : Cx) : State → Prop := X.2.2.2.2.2.2.2.2.2.2.1
abbrev xA (X : Cx) : Nat → Prop := X.2.2.2.2.2.2.2.2.2.2.2.1
abbrev xD (X : Cx) : va_G := X.2.2.2.2.2.2.2.2.2.2.2.2
def VW (X : Cx) (H : Heap) (locs : List Loc) (kc ks : Nat) (g : JFrame) : Prop := W (xp X) (xl X) (xe X) (xR X) (xs X) (xm X) (xa X) (xb X) (xM X) (xc X) H locs kc ks (xQ X) g
/-- the walk stands at pc, with these locals, this stack, this world -/
def V (X : Cx) (nL kc ks pc : Nat) (ls : List (Nat × Value)) (st : List Value) (ws : va_W) : Prop :=
  ∀ (H : Heap) (locs : List Loc) (la : Array Slot), lv_has la nL ls → va_P (xD X) vwCl ws H → va_D (xA X) ws → va_S (xA X) (xs X).heap H locs → VW X H locs kc ks (F0 (xm X) pc la st)
def tyl (c : Nat → ClassId) : List (ClassId × FieldType) := [(c 0, .int), (c 1, .boolean), (c 2, .object "CafeTables$Guest"), (c 3, .object "CafeTables$Sheet")]
def nwC : Cond := .methodLinkNest "CafeTables$House" 36 ⟨"CafeTables", "placeOf", "(I)I"⟩ "CafeTables"
def NW (U : State) : Prop := va_Nw nwC U
theorem NW.warm {s U : State} (hW : s.WarmedH U.vm) (h : NW s) : NW U := va_Nw.warmM hW h
def Ok (X : Cx) (cc : ByteArray) (own : String) (nL d : Nat) (c : Nat → ClassId) : Prop :=
  (xp X).tables.exec = Jvm.exec ∧ (xc X).code = cc ∧ (xc X).maxLocals = nL ∧ (xs X).vm.findClass own = some (xm X).cls ∧ (∀ w ∈ BG, w.before (xa X) (xs X) = true) ∧ va_K (xD X) vwCl (tyl c) (xs X) ∧ (∀ q, (xs X).heap.size ≤ q → xA X q) ∧ NW (xs X) ∧ d ≤ (xR X).frames ∧ 60 * d ≤ (xR X).locals
def rm (d kc ks : Nat) : Room := { frames := d, cells := kc, slots := ks, locals := 60 * d }
def PreW (D : va_G) (c : Nat → ClassId) (ws : va_W) (sz : Nat) (U : State) : Prop := U.heap.size = sz ∧ va_P D vwCl ws U.heap ∧ va_K D vwCl (tyl c) U ∧ va_D (fun _ => True) ws ∧ NW U
theorem PreW.blind {D : va_G} {c : Nat → ClassId} {ws : va_W} {sz : Nat} {av : List Value} : FrameBlind (va_Pc av (PreW D c ws sz)) := fun a U g mk q => by
  obtain ⟨q0, q1, qP, qK, qD, qN⟩ := q
  exact ⟨q0, q1, qP, va_K.moved (u := U) (U := U.calling g mk a) (Vm.Alike.refl U.vm) qK, qD, va_Nw.same rfl (rfl : U.vm = (U.calling g mk a).vm) qN⟩
def Ci (l : Launch) (D : va_G) (c : Nat → ClassId) (y : MethodName) (cc : ByteArray) (nL : Nat) (ret : Option FieldType) (d : Nat) (av : List Value) (ws : va_W) (r : Int32) (ws' : va_W) : Prop :=
  ∀ sz, Met l y (.code y cc nL ret :: BG) (rm d 0 0) (va_Pc av (PreW D c ws sz)) (va_Qi (fun r' (_ : Unit) => r' = r) (fun _ t => va_P D vwCl ws' t.heap) (va_A ws sz)) 0 0 (va_A ws sz)
def Cl (l : Launch) (D : va_G) (c : Nat → ClassId) (y : MethodName) (cc : ByteArray) (nL : Nat) (ret : Option FieldType) (d : Nat) (av : List Value) (ws : va_W) (r : Int64) (ws' : va_W) : Prop :=
  ∀ sz, Met l y (.code y cc nL ret :: BG) (rm d 0 0) (va_Pc av (PreW D c ws sz)) (va_Ql (fun r' (_ : Unit) => r' = r) (fun _ t => va_P D vwCl ws' t.heap) (va_A ws sz)) 0 0 (va_A ws sz)
def Cv (l : Launch) (D : va_G) (c : Nat → ClassId) (y : MethodName) (cc : ByteArray) (nL : Nat) (ret : Option FieldType) (d : Nat) (av : List Value) (ws : va_W) (ws' : va_W) : Prop :=
  ∀ sz, Met l y (.code y cc nL ret :: BG) (rm d 0 0) (va_Pc av (PreW D c ws sz)) (va_Qv (fun (_ : Unit) => True) (fun _ t => va_P D vwCl ws' t.heap) (va_A ws sz)) 0 0 (va_A ws sz)
/-! a method's body gives its contract -/
section OF
variable {l : Launch} {D : va_G} {c : Nat → ClassId} {y : MethodName} {cc : ByteArray} {nL d : Nat} {av : List Value} {ws ws' : va_W}
set_option maxHeartbeats 4000000 in
theorem Ci.of {r : Int32} (hy : plainName y.cls = true) (hlen : (lg_sl av).length ≤ nL)
    (body : ∀ X : Cx, Ok X cc y.cls nL d c → (∀ pc ls, decode cc pc = .ok (.ireturn, 1) → V X nL 0 0 pc ls [.int r] ws') → V X nL 0 0 0 (lv_args 0 av) [] ws) : Ci l D c y cc nL (some .int) d av ws r ws' := by
  intro sz
  refine Met.ofW (cc := cc) (maxL := nL) (ret := some .int) hy rfl ?_
  intro p e s m args below meth cd s₁ B hml hv
  obtain ⟨rfl, hsz, hP, hK, hD0, hN⟩ := hv
  have hts := atoms_spec (ws := .code y cc nL (some .int) :: BG) B.pre
  subst hsz
  have hD := hD0.self (sz := s.heap.size)
  have hlocks := B.notSynchronized
  have hb := body (p, l, e, (headSpec (.code y cc nL (some .int) :: BG) (rm d 0 0)).room, s, m, av.toArray, below, meth, cd, MQ below (va_Qi (fun r' (_ : Unit) => r' = r) (fun _ t => va_P D vwCl ws' t.heap) (va_A ws s.heap.size)) av.toArray s 0 0 (va_A ws s.heap.size), va_A ws s.heap.size, D)
    ⟨B.exec, B.bytes, hml, findClass_of_methodNamed B.named, fun w hw => hts w (List.mem_cons_of_mem _ hw), hK, fun q h => Or.inr h, hN, Nat.le_refl d, Nat.le_refl (60 * d)⟩ ?_
  · rw [lg_entry_eq]
    exact hb s.heap [] _ (lv_entry av hlen) hP hD va_S.rf
  · intro pc ls hdg H locs la hl hP' hD' hS'
    exact W.iret (v := r) B.exec B.bytes B.returns (fun t ht hW => ⟨⟨r, (), rfl, rfl, by show va_P D vwCl ws' t.heap; rw [ht]; exact hP'⟩, hS'.F ht⟩) hS'.2.2 hdg
set_option maxHeartbeats 4000000 in
theorem Ci.ofZ {r : Int32} (hy : plainName y.cls = true) (hlen : (lg_sl av).length ≤ nL)
    (body : ∀ X : Cx, Ok X cc y.cls nL d c → (nb r = true → ∀ pc ls, decode cc pc = .ok (.ireturn, 1) → V X nL 0 0 pc ls [.int r] ws') → V X nL 0 0 0 (lv_args 0 av) [] ws) : Ci l D c y cc nL (some .boolean) d av ws r ws' := by
  intro sz
  refine Met.ofW (cc := cc) (maxL := nL) (ret := some .boolean) hy rfl ?_
  intro p e s m args below meth cd s₁ B hml hv
  obtain ⟨rfl, hsz, hP, hK, hD0, hN⟩ := hv
  have hts := atoms_spec (ws := .code y cc nL (some .boolean) :: BG) B.pre
  subst hsz
  have hD := hD0.self (sz := s.heap.size)
  have hlocks := B.notSynchronized
  have hb := body (p, l, e, (headSpec (.code y cc nL (some .boolean) :: BG) (rm d 0 0)).room, s, m, av.toArray, below, meth, cd, MQ below (va_Qi (fun r' (_ : Unit) => r' = r) (fun _ t => va_P D vwCl ws' t.heap) (va_A ws s.heap.size)) av.toArray s 0 0 (va_A ws s.heap.size), va_A ws s.heap.size, D)
    ⟨B.exec, B.bytes, hml, findClass_of_methodNamed B.named, fun w hw => hts w (List.mem_cons_of_mem _ hw), hK, fun q h => Or.inr h, hN, Nat.le_refl d, Nat.le_refl (60 * d)⟩ ?_
  · rw [lg_entry_eq]
    exact hb s.heap [] _ (lv_entry av hlen) hP hD va_S.rf
  · intro hn pc ls hdg H locs la hl hP' hD' hS'
    exact W.zret (v := r) (ty := .boolean) B.exec B.bytes B.returns (nb_nar hn) (fun t ht hW => ⟨⟨r, (), rfl, rfl, by show va_P D vwCl ws' t.heap; rw [ht]; exact hP'⟩, hS'.F ht⟩) hS'.2.2 hdg
set_option maxHeartbeats 4000000 in
theorem Cl.of {r : Int64} (hy : plainName y.cls = true) (hlen : (lg_sl av).length ≤ nL)
    (body : ∀ X : Cx, Ok X cc y.cls nL d c → (∀ pc ls, decode cc pc = .ok (.lreturn, 1) → V X nL 0 0 pc ls [.long r] ws') → V X nL 0 0 0 (lv_args 0 av) [] ws) : Cl l D c y cc nL (some .long) d av ws r ws' := by
  intro sz
  refine Met.ofW (cc := cc) (maxL := nL) (ret := some .long) hy rfl ?_
  intro p e s m args below meth cd s₁ B hml hv
  obtain ⟨rfl, hsz, hP, hK, hD0, hN⟩ := hv
  have hts := atoms_spec (ws := .code y cc nL (some .long) :: BG) B.pre
  subst hsz
  have hD := hD0.self (sz := s.heap.size)
  have hlocks := B.notSynchronized
  have hb := body (p, l, e, (headSpec (.code y cc nL (some .long) :: BG) (rm d 0 0)).room, s, m, av.toArray, below, meth, cd, MQ below (va_Ql (fun r' (_ : Unit) => r' = r) (fun _ t => va_P D vwCl ws' t.heap) (va_A ws s.heap.size)) av.toArray s 0 0 (va_A ws s.heap.size), va_A ws s.heap.size, D)
    ⟨B.exec, B.bytes, hml, findClass_of_methodNamed B.named, fun w hw => hts w (List.mem_cons_of_mem _ hw), hK, fun q h => Or.inr h, hN, Nat.le_refl d, Nat.le_refl (60 * d)⟩ ?_
  · rw [lg_entry_eq]
    exact hb s.heap [] _ (lv_entry av hlen) hP hD va_S.rf
  · intro pc ls hdg H locs la hl hP' hD' hS'
    exact W.lret (v := r) B.exec B.bytes B.returns (fun t ht hW => ⟨⟨r, (), rfl, rfl, by show va_P D vwCl ws' t.heap; rw [ht]; exact hP'⟩, hS'.F ht⟩) hS'.2.2 hdg
set_option maxHeartbeats 4000000 in
theorem Cv.of (hy : plainName y.cls = true) (hlen : (lg_sl av).length ≤ nL)
    (body : ∀ X : Cx, Ok X cc y.cls nL d c → (∀ pc ls, decode cc pc = .ok (.return_, 1) → V X nL 0 0 pc ls [] ws') → V X nL 0 0 0 (lv_args 0 av) [] ws) : Cv l D c y cc nL none d av ws ws' := by
  intro sz
  refine Met.ofW (cc := cc) (maxL := nL) (ret := none) hy rfl ?_
  intro p e s m args below meth cd s₁ B hml hv
  obtain ⟨rfl, hsz, hP, hK, hD0, hN⟩ := hv
  have hts := atoms_spec (ws := .code y cc nL none :: BG) B.pre
  subst hsz
  have hD := hD0.self (sz := s.heap.size)
  have hlocks := B.notSynchronized
  have hb := body (p, l, e, (headSpec (.code y cc nL none :: BG) (rm d 0 0)).room, s, m, av.toArray, below, meth, cd, MQ below (va_Qv (fun (_ : Unit) => True) (fun _ t => va_P D vwCl ws' t.heap) (va_A ws s.heap.size)) av.toArray s 0 0 (va_A ws s.heap.size), va_A ws s.heap.size, D)
    ⟨B.exec, B.bytes, hml, findClass_of_methodNamed B.named, fun w hw => hts w (List.mem_cons_of_mem _ hw), hK, fun q h => Or.inr h, hN, Nat.le_refl d, Nat.le_refl (60 * d)⟩ ?_
  · rw [lg_entry_eq]
    exact hb s.heap [] _ (lv_entry av hlen) hP hD va_S.rf
  · intro pc ls hdg H locs la hl hP' hD' hS'
    exact W.vret B.exec B.bytes B.returns (fun t ht hW => ⟨⟨(), rfl, trivial, by show va_P D vwCl ws' t.heap; rw [ht]; exact hP'⟩, hS'.F ht⟩) hS'.2.2 hdg
end OF
end
section
section VR
variable {X : Cx} {cc : ByteArray} {own : String} {nL d kc ks pc : Nat} {c : Nat → ClassId} {ls : List (Nat × Value)} {st : List Value} {ws : va_W}
theorem v_iconst (K : Ok X cc own nL d c) {n : Int} {v : Int32} (hd : decode cc pc = .ok (.iconst n, 1)) (hv : Int32.ofInt n = v) (k : V X nL kc ks (pc + 1) ls (.int v :: st) ws) : V X nL kc ks pc ls (st) ws := fun H locs la hl hP hD hS => lv_iconst K.1 K.2.1 hd hv (k H locs la hl hP hD hS)
theorem v_bipush (K : Ok X cc own nL d c) {n : Int} {v : Int32} (hd : decode cc pc = .ok (.bipush n, 2)) (hv : (Int8.ofInt n).toInt32 = v) (k : V X nL kc ks (pc + 2) ls (.int v :: st) ws) : V X nL kc ks pc ls (st) ws := fun H locs la hl hP hD hS => lv_bipush K.1 K.2.1 hd hv (k H locs la hl hP hD hS)
theorem v_sipush (K : Ok X cc own nL d c) {n : Int} {v : Int32} (hd : decode cc pc = .ok (.sipush n, 3)) (hv : (Int16.ofInt n).toInt32 = v) (k : V X nL kc ks (pc + 3) ls (.int v :: st) ws) : V X nL kc ks pc ls (st) ws := fun H locs la hl hP hD hS => lv_sipush K.1 K.2.1 hd hv (k H locs la hl hP hD hS)
theorem v_lconst (K : Ok X cc own nL d c) {n : Fin 2} {v : Int64} (hd : decode cc pc = .ok (.lconst n, 1)) (hv : Int64.ofNat (n : Nat) = v) (k : V X nL kc ks (pc + 1) ls (.long v :: st) ws) : V X nL kc ks pc ls (st) ws := fun H locs la hl hP hD hS => lv_lconst K.1 K.2.1 hd hv (k H locs la hl hP hD hS)
theorem v_ldc2 (K : Ok X cc own nL d c) {ix : Nat} {v : Int64} (hc : .constantLong own ix v ∈ BG) (hd : decode cc pc = .ok (.ldc2_w ix, 3)) (k : V X nL kc ks (pc + 3) ls (.long v :: st) ws) : V X nL kc ks pc ls st ws := fun H locs la hl hP hD hS => lv_ldc2 K.1 K.2.1 K.2.2.2.1 (K.2.2.2.2.1 _ hc) hd (k H locs la hl hP hD hS)
theorem v_iload_n (K : Ok X cc own nL d c) {k : Fin 4} {x : Int32} (q : Nat) (hq : ls[q]? = some ((k : Nat), .int x)) (hd : decode cc pc = .ok (.iload_n k, 1)) (kk : V X nL kc ks (pc + 1) ls (.int x :: st) ws) : V X nL kc ks pc ls st ws := fun H locs la hl hP hD hS => lv_iload_n K.1 K.2.1 hd rfl (lv_at hl q hq) (kk H locs la hl hP hD hS)
theorem v_iload (K : Ok X cc own nL d c) {i : Nat} {x : Int32} (q : Nat) (hq : ls[q]? = some (i, .int x)) (hd : decode cc pc = .ok (.iload i, 2)) (kk : V X nL kc ks (pc + 2) ls (.int x :: st) ws) : V X nL kc ks pc ls st ws := fun H locs la hl hP hD hS => lv_iload K.1 K.2.1 hd (lv_at hl q hq) (kk H locs la hl hP hD hS)
theorem v_lload_n (K : Ok X cc own nL d c) {k : Fin 4} {x : Int64} (q : Nat) (hq : ls[q]? = some ((k : Nat), .long x)) (hd : decode cc pc = .ok (.lload_n k, 1)) (kk : V X nL kc ks (pc + 1) ls (.long x :: st) ws) : V X nL kc ks pc ls st ws := fun H locs la hl hP hD hS => lv_lload_n K.1 K.2.1 hd rfl (lv_at hl q hq) (kk H locs la hl hP hD hS)
theorem v_lload (K : Ok X cc own nL d c) {i : Nat} {x : Int64} (q : Nat) (hq : ls[q]? = some (i, .long x)) (hd : decode cc pc = .ok (.lload i, 2)) (kk : V X nL kc ks (pc + 2) ls (.long x :: st) ws) : V X nL kc ks pc ls st ws := fun H locs la hl hP hD hS => lv_lload K.1 K.2.1 hd (lv_at hl q hq) (kk H locs la hl hP hD hS)
theorem v_aload_n (K : Ok X cc own nL d c) {k : Fin 4} {x : Nat} (q : Nat) (hq : ls[q]? = some ((k : Nat), .ref x)) (hd : decode cc pc = .ok (.aload_n k, 1)) (kk : V X nL kc ks (pc + 1) ls (.ref x :: st) ws) : V X nL kc ks pc ls st ws := fun H locs la hl hP hD hS => lv_aload_n K.1 K.2.1 hd rfl (lv_at hl q hq) (kk H locs la hl hP hD hS)
theorem v_aload (K : Ok X cc own nL d c) {i x : Nat} (q : Nat) (hq : ls[q]? = some (i, .ref x)) (hd : decode cc pc = .ok (.aload i, 2)) (kk : V X nL kc ks (pc + 2) ls (.ref x :: st) ws) : V X nL kc ks pc ls st ws := fun H locs la hl hP hD hS => lv_aload K.1 K.2.1 hd (lv_at hl q hq) (kk H locs la hl hP hD hS)
theorem v_istore_n (K : Ok X cc own nL d c) {k : Fin 4} {i : Nat} {x : Int32} (lv : List (Nat × Value)) (ps : List Nat) (hd : decode cc pc = .ok (.istore_n k, 1)) (hi : (k : Nat) = i) (hn : i < nL) (hp : lv_pick ((i, .int x) :: ls.filter (fun q => !(q.1 == i) && !(q.1 + 1 == i && q.2.category == 2))) ps = lv) (kk : V X nL kc ks (pc + 1) lv st ws) : V X nL kc ks pc ls (.int x :: st) ws := fun H locs la hl hP hD hS => lv_istore_n K.1 K.2.1 hd hi hl hn rfl (fun la' hl' => kk H locs la' (lv_sub hl' ps hp) hP hD hS)
theorem v_istore (K : Ok X cc own nL d c) {i : Nat} {x : Int32} (lv : List (Nat × Value)) (ps : List Nat) (hd : decode cc pc = .ok (.istore i, 2)) (hn : i < nL) (hp : lv_pick ((i, .int x) :: ls.filter (fun q => !(q.1 == i) && !(q.1 + 1 == i && q.2.category == 2))) ps = lv) (kk : V X nL kc ks (pc + 2) lv st ws) : V X nL kc ks pc ls (.int x :: st) ws := fun H locs la hl hP hD hS => lv_istore K.1 K.2.1 hd hl hn rfl (fun la' hl' => kk H locs la' (lv_sub hl' ps hp) hP hD hS)
theorem v_lstore_n (K : Ok X cc own nL d c) {k : Fin 4} {i : Nat} {x : Int64} (lv : List (Nat × Value)) (ps : List Nat) (hd : decode cc pc = .ok (.lstore_n k, 1)) (hi : (k : Nat) = i) (hn : i + 1 < nL) (hp : lv_pick ((i, .long x) :: ls.filter (fun q => !(q.1 == i) && (!(q.1 == i + 1) && !(q.1 + 1 == i && q.2.category == 2)))) ps = lv) (kk : V X nL kc ks (pc + 1) lv st ws) : V X nL kc ks pc ls (.long x :: st) ws := fun H locs la hl hP hD hS => lv_lstore_n K.1 K.2.1 hd hi hl hn rfl (fun la' hl' => kk H locs la' (lv_sub hl' ps hp) hP hD hS)
theorem v_lstore (K : Ok X cc own nL d c) {i : Nat} {x : Int64} (lv : List (Nat × Value)) (ps : List Nat) (hd : decode cc pc = .ok (.lstore i, 2)) (hn : i + 1 < nL) (hp : lv_pick ((i, .long x) :: ls.filter (fun q => !(q.1 == i) && (!(q.1 == i + 1) && !(q.1 + 1 == i && q.2.category == 2)))) ps = lv) (kk : V X nL kc ks (pc + 2) lv st ws) : V X nL kc ks pc ls (.long x :: st) ws := fun H locs la hl hP hD hS => lv_lstore K.1 K.2.1 hd hl hn rfl (fun la' hl' => kk H locs la' (lv_sub hl' ps hp) hP hD hS)
theorem v_astore_n (K : Ok X cc own nL d c) {k : Fin 4} {i : Nat} {x : Nat} (lv : List (Nat × Value)) (ps : List Nat) (hd : decode cc pc = .ok (.astore_n k, 1)) (hi : (k : Nat) = i) (hn : i < nL) (hp : lv_pick ((i, .ref x) :: ls.filter (fun q => !(q.1 == i) && !(q.1 + 1 == i && q.2.category == 2))) ps = lv) (kk : V X nL kc ks (pc + 1) lv st ws) : V X nL kc ks pc ls (.ref x :: st) ws := fun H locs la hl hP hD hS => lv_astore_n K.1 K.2.1 hd hi hl hn rfl (fun la' hl' => kk H locs la' (lv_sub hl' ps hp) hP hD hS)
theorem v_astore (K : Ok X cc own nL d c) {i : Nat} {x : Nat} (lv : List (Nat × Value)) (ps : List Nat) (hd : decode cc pc = .ok (.astore i, 2)) (hn : i < nL) (hp : lv_pick ((i, .ref x) :: ls.filter (fun q => !(q.1 == i) && !(q.1 + 1 == i && q.2.category == 2))) ps = lv) (kk : V X nL kc ks (pc + 2) lv st ws) : V X nL kc ks pc ls (.ref x :: st) ws := fun H locs la hl hP hD hS => lv_astore K.1 K.2.1 hd hl hn rfl (fun la' hl' => kk H locs la' (lv_sub hl' ps hp) hP hD hS)
theorem v_iinc (K : Ok X cc own nL d c) {i : Nat} {n : Int} {x v : Int32} (q : Nat) (lv : List (Nat × Value)) (ps : List Nat) (hd : decode cc pc = .ok (.iinc i n, 3)) (hq : ls[q]? = some (i, .int x)) (hv : x + Int32.ofInt n = v) (hn : i < nL) (hp : lv_pick ((i, .int v) :: ls.filter (fun q => !(q.1 == i) && !(q.1 + 1 == i && q.2.category == 2))) ps = lv) (kk : V X nL kc ks (pc + 3) lv st ws) : V X nL kc ks pc ls st ws := fun H locs la hl hP hD hS => lv_iinc K.1 K.2.1 hd hl hq hv hn rfl (fun la' hl' => kk H locs la' (lv_sub hl' ps hp) hP hD hS)
theorem v_drop (lv : List (Nat × Value)) (ps : List Nat) (hp : lv_pick ls ps = lv) (kk : V X nL kc ks pc lv st ws) : V X nL kc ks pc ls st ws := fun H locs la hl hP hD hS => kk H locs la (lv_sub hl ps hp) hP hD hS
theorem v_iadd (K : Ok X cc own nL d c) {x y : Int32} (hd : decode cc pc = .ok (.iadd, 1)) (k : V X nL kc ks (pc + 1) ls (.int (x + y) :: st) ws) : V X nL kc ks pc ls (.int y :: .int x :: st) ws := fun H locs la hl hP hD hS => lv_iadd K.1 K.2.1 hd (k H locs la hl hP hD hS)
theorem v_isub (K : Ok X cc own nL d c) {x y : Int32} (hd : decode cc pc = .ok (.isub, 1)) (k : V X nL kc ks (pc + 1) ls (.int (x - y) :: st) ws) : V X nL kc ks pc ls (.int y :: .int x :: st) ws := fun H locs la hl hP hD hS => lv_isub K.1 K.2.1 hd (k H locs la hl hP hD hS)
theorem v_imul (K : Ok X cc own nL d c) {x y : Int32} (hd : decode cc pc = .ok (.imul, 1)) (k : V X nL kc ks (pc + 1) ls (.int (x * y) :: st) ws) : V X nL kc ks pc ls (.int y :: .int x :: st) ws := fun H locs la hl hP hD hS => lv_imul K.1 K.2.1 hd (k H locs la hl hP hD hS)
theorem v_iand (K : Ok X cc own nL d c) {x y : Int32} (hd : decode cc pc = .ok (.iand, 1)) (k : V X nL kc ks (pc + 1) ls (.int (x &&& y) :: st) ws) : V X nL kc ks pc ls (.int y :: .int x :: st) ws := fun H locs la hl hP hD hS => lv_iand K.1 K.2.1 hd (k H locs la hl hP hD hS)
theorem v_ior (K : Ok X cc own nL d c) {x y : Int32} (hd : decode cc pc = .ok (.ior, 1)) (k : V X nL kc ks (pc + 1) ls (.int (x ||| y) :: st) ws) : V X nL kc ks pc ls (.int y :: .int x :: st) ws := fun H locs la hl hP hD hS => lv_ior K.1 K.2.1 hd (k H locs la hl hP hD hS)
theorem v_ixor (K : Ok X cc own nL d c) {x y : Int32} (hd : decode cc pc = .ok (.ixor, 1)) (k : V X nL kc ks (pc + 1) ls (.int (x ^^^ y) :: st) ws) : V X nL kc ks pc ls (.int y :: .int x :: st) ws := fun H locs la hl hP hD hS => lv_ixor K.1 K.2.1 hd (k H locs la hl hP hD hS)
theorem v_ishl (K : Ok X cc own nL d c) {x y : Int32} (hd : decode cc pc = .ok (.ishl, 1)) (k : V X nL kc ks (pc + 1) ls (.int (x <<< (y &&& 31)) :: st) ws) : V X nL kc ks pc ls (.int y :: .int x :: st) ws := fun H locs la hl hP hD hS => lv_ishl K.1 K.2.1 hd (k H locs la hl hP hD hS)
theorem v_ishr (K : Ok X cc own nL d c) {x y : Int32} (hd : decode cc pc = .ok (.ishr, 1)) (k : V X nL kc ks (pc + 1) ls (.int (x >>> (y &&& 31)) :: st) ws) : V X nL kc ks pc ls (.int y :: .int x :: st) ws := fun H locs la hl hP hD hS => lv_ishr K.1 K.2.1 hd (k H locs la hl hP hD hS)
theorem v_idiv (K : Ok X cc own nL d c) {x y : Int32} (hd : decode cc pc = .ok (.idiv, 1)) (hne : ¬ y = 0) (k : V X nL kc ks (pc + 1) ls (.int (x / y) :: st) ws) : V X nL kc ks pc ls (.int y :: .int x :: st) ws := fun H locs la hl hP hD hS => lv_idiv K.1 K.2.1 hd hne (k H locs la hl hP hD hS)
theorem v_irem (K : Ok X cc own nL d c) {x y : Int32} (hd : decode cc pc = .ok (.irem, 1)) (hne : ¬ y = 0) (k : V X nL kc ks (pc + 1) ls (.int (x - x / y * y) :: st) ws) : V X nL kc ks pc ls (.int y :: .int x :: st) ws := fun H locs la hl hP hD hS => lv_irem K.1 K.2.1 hd hne (k H locs la hl hP hD hS)
theorem v_ladd (K : Ok X cc own nL d c) {x y : Int64} (hd : decode cc pc = .ok (.ladd, 1)) (k : V X nL kc ks (pc + 1) ls (.long (x + y) :: st) ws) : V X nL kc ks pc ls (.long y :: .long x :: st) ws := fun H locs la hl hP hD hS => lv_ladd K.1 K.2.1 hd (k H locs la hl hP hD hS)
theorem v_lsub (K : Ok X cc own nL d c) {x y : Int64} (hd : decode cc pc = .ok (.lsub, 1)) (k : V X nL kc ks (pc + 1) ls (.long (x - y) :: st) ws) : V X nL kc ks pc ls (.long y :: .long x :: st) ws := fun H locs la hl hP hD hS => lv_lsub K.1 K.2.1 hd (k H locs la hl hP hD hS)
theorem v_lmul (K : Ok X cc own nL d c) {x y : Int64} (hd : decode cc pc = .ok (.lmul, 1)) (k : V X nL kc ks (pc + 1) ls (.long (x * y) :: st) ws) : V X nL kc ks pc ls (.long y :: .long x :: st) ws := fun H locs la hl hP hD hS => lv_lmul K.1 K.2.1 hd (k H locs la hl hP hD hS)
theorem v_ldiv (K : Ok X cc own nL d c) {x y : Int64} (hd : decode cc pc = .ok (.ldiv, 1)) (hne : ¬ y = 0) (k : V X nL kc ks (pc + 1) ls (.long (x / y) :: st) ws) : V X nL kc ks pc ls (.long y :: .long x :: st) ws := fun H locs la hl hP hD hS => lv_ldiv K.1 K.2.1 hd hne (k H locs la hl hP hD hS)
theorem v_lrem (K : Ok X cc own nL d c) {x y : Int64} (hd : decode cc pc = .ok (.lrem, 1)) (hne : ¬ y = 0) (k : V X nL kc ks (pc + 1) ls (.long (x - x / y * y) :: st) ws) : V X nL kc ks pc ls (.long y :: .long x :: st) ws := fun H locs la hl hP hD hS => lv_lrem K.1 K.2.1 hd hne (k H locs la hl hP hD hS)
theorem v_lneg (K : Ok X cc own nL d c) {x : Int64} (hd : decode cc pc = .ok (.lneg, 1)) (k : V X nL kc ks (pc + 1) ls (.long (-x) :: st) ws) : V X nL kc ks pc ls (.long x :: st) ws := fun H locs la hl hP hD hS => lv_lneg K.1 K.2.1 hd (k H locs la hl hP hD hS)
theorem v_ineg (K : Ok X cc own nL d c) {x : Int32} (hd : decode cc pc = .ok (.ineg, 1)) (k : V X nL kc ks (pc + 1) ls (.int (-x) :: st) ws) : V X nL kc ks pc ls (.int x :: st) ws := fun H locs la hl hP hD hS => lv_ineg K.1 K.2.1 hd (k H locs la hl hP hD hS)
theorem v_i2l (K : Ok X cc own nL d c) {x : Int32} (hd : decode cc pc = .ok (.i2l, 1)) (k : V X nL kc ks (pc + 1) ls (.long x.toInt64 :: st) ws) : V X nL kc ks pc ls (.int x :: st) ws := fun H locs la hl hP hD hS => lv_i2l K.1 K.2.1 hd rfl (k H locs la hl hP hD hS)
theorem v_i2b (K : Ok X cc own nL d c) {x : Int32} (hd : decode cc pc = .ok (.i2b, 1)) (k : V X nL kc ks (pc + 1) ls (.int x.toInt8.toInt32 :: st) ws) : V X nL kc ks pc ls (.int x :: st) ws := fun H locs la hl hP hD hS => lv_i2b K.1 K.2.1 hd rfl (k H locs la hl hP hD hS)
theorem v_i2s (K : Ok X cc own nL d c) {x : Int32} (hd : decode cc pc = .ok (.i2s, 1)) (k : V X nL kc ks (pc + 1) ls (.int x.toInt16.toInt32 :: st) ws) : V X nL kc ks pc ls (.int x :: st) ws := fun H locs la hl hP hD hS => lv_i2s K.1 K.2.1 hd rfl (k H locs la hl hP hD hS)
theorem v_lcmp (K : Ok X cc own nL d c) {x y : Int64} (hd : decode cc pc = .ok (.lcmp, 1)) (k : V X nL kc ks (pc + 1) ls (.int (lg_cmp x y) :: st) ws) : V X nL kc ks pc ls (.long y :: .long x :: st) ws := fun H locs la hl hP hD hS => W.lcmp K.1 K.2.1 hd (k H locs la hl hP hD hS)
theorem v_dup (K : Ok X cc own nL d c) {va : Value} (hd : decode cc pc = .ok (.dup, 1)) (hva : va.category = 1) (k : V X nL kc ks (pc + 1) ls (va :: va :: st) ws) : V X nL kc ks pc ls (va :: st) ws := fun H locs la hl hP hD hS => lv_dup K.1 K.2.1 hd hva (k H locs la hl hP hD hS)
theorem v_pop (K : Ok X cc own nL d c) {va : Value} (hd : decode cc pc = .ok (.pop, 1)) (hva : va.category = 1) (k : V X nL kc ks (pc + 1) ls (st) ws) : V X nL kc ks pc ls (va :: st) ws := fun H locs la hl hP hD hS => lv_pop K.1 K.2.1 hd hva (k H locs la hl hP hD hS)
theorem v_dup2_11 (K : Ok X cc own nL d c) {va vb : Value} (hd : decode cc pc = .ok (.dup2, 1)) (hva : va.category = 1) (hvb : vb.category = 1) (k : V X nL kc ks (pc + 1) ls (va :: vb :: va :: vb :: st) ws) : V X nL kc ks pc ls (va :: vb :: st) ws := fun H locs la hl hP hD hS => lv_dup2_11 K.1 K.2.1 hd hva hvb (k H locs la hl hP hD hS)
theorem v_dup_x1 (K : Ok X cc own nL d c) {va vb : Value} (hd : decode cc pc = .ok (.dup_x1, 1)) (hva : va.category = 1) (hvb : vb.category = 1) (k : V X nL kc ks (pc + 1) ls (va :: vb :: va :: st) ws) : V X nL kc ks pc ls (va :: vb :: st) ws := fun H locs la hl hP hD hS => lv_dup_x1 K.1 K.2.1 hd hva hvb (k H locs la hl hP hD hS)
theorem v_goto (K : Ok X cc own nL d c) {off : Int} (tgt : Nat) (hd : decode cc pc = .ok (.goto off, 3)) (ht : (pc : Int) + off = (tgt : Int)) (k : V X nL kc ks tgt ls st ws) : V X nL kc ks pc ls st ws := fun H locs la hl hP hD hS => lv_goto K.1 K.2.1 hd ht (k H locs la hl hP hD hS)
theorem v_if_eq (K : Ok X cc own nL d c) {x : Int32} {off : Int} (tgt : Nat) (hd : decode cc pc = .ok (.ifCond .eq off, 3)) (ht : (pc : Int) + off = (tgt : Int)) (kt : x = 0 → V X nL kc ks tgt ls st ws) (kf : ¬ x = 0 → V X nL kc ks (pc + 3) ls st ws) : V X nL kc ks pc ls (.int x :: st) ws := fun H locs la hl hP hD hS => lv_if_eq K.1 K.2.1 hd ht (fun q => kt q H locs la hl hP hD hS) (fun q => kf q H locs la hl hP hD hS)
theorem v_icmp_eq (K : Ok X cc own nL d c) {x y : Int32} {off : Int} (tgt : Nat) (hd : decode cc pc = .ok (.if_icmp .eq off, 3)) (ht : (pc : Int) + off = (tgt : Int)) (kt : x = y → V X nL kc ks tgt ls st ws) (kf : ¬ x = y → V X nL kc ks (pc + 3) ls st ws) : V X nL kc ks pc ls (.int y :: .int x :: st) ws := fun H locs la hl hP hD hS => lv_icmp_eq K.1 K.2.1 hd ht (fun q => kt q H locs la hl hP hD hS) (fun q => kf q H locs la hl hP hD hS)
theorem v_if_ne (K : Ok X cc own nL d c) {x : Int32} {off : Int} (tgt : Nat) (hd : decode cc pc = .ok (.ifCond .ne off, 3)) (ht : (pc : Int) + off = (tgt : Int)) (kt : ¬ x = 0 → V X nL kc ks tgt ls st ws) (kf : x = 0 → V X nL kc ks (pc + 3) ls st ws) : V X nL kc ks pc ls (.int x :: st) ws := fun H locs la hl hP hD hS => lv_if_ne K.1 K.2.1 hd ht (fun q => kt q H locs la hl hP hD hS) (fun q => kf q H locs la hl hP hD hS)
theorem v_icmp_ne (K : Ok X cc own nL d c) {x y : Int32} {off : Int} (tgt : Nat) (hd : decode cc pc = .ok (.if_icmp .ne off, 3)) (ht : (pc : Int) + off = (tgt : Int)) (kt : ¬ x = y → V X nL kc ks tgt ls st ws) (kf : x = y → V X nL kc ks (pc + 3) ls st ws) : V X nL kc ks pc ls (.int y :: .int x :: st) ws := fun H locs la hl hP hD hS => lv_icmp_ne K.1 K.2.1 hd ht (fun q => kt q H locs la hl hP hD hS) (fun q => kf q H locs la hl hP hD hS)
theorem v_if_lt (K : Ok X cc own nL d c) {x : Int32} {off : Int} (tgt : Nat) (hd : decode cc pc = .ok (.ifCond .lt off, 3)) (ht : (pc : Int) + off = (tgt : Int)) (kt : x < 0 → V X nL kc ks tgt ls st ws) (kf : ¬ x < 0 → V X nL kc ks (pc + 3) ls st ws) : V X nL kc ks pc ls (.int x :: st) ws := fun H locs la hl hP hD hS => lv_if_lt K.1 K.2.1 hd ht (fun q => kt q H locs la hl hP hD hS) (fun q => kf q H locs la hl hP hD hS)
theorem v_icmp_lt (K : Ok X cc own nL d c) {x y : Int32} {off : Int} (tgt : Nat) (hd : decode cc pc = .ok (.if_icmp .lt off, 3)) (ht : (pc : Int) + off = (tgt : Int)) (kt : x < y → V X nL kc ks tgt ls st ws) (kf : ¬ x < y → V X nL kc ks (pc + 3) ls st ws) : V X nL kc ks pc ls (.int y :: .int x :: st) ws := fun H locs la hl hP hD hS => lv_icmp_lt K.1 K.2.1 hd ht (fun q => kt q H locs la hl hP hD hS) (fun q => kf q H locs la hl hP hD hS)
theorem v_if_ge (K : Ok X cc own nL d c) {x : Int32} {off : Int} (tgt : Nat) (hd : decode cc pc = .ok (.ifCond .ge off, 3)) (ht : (pc : Int) + off = (tgt : Int)) (kt : 0 ≤ x → V X nL kc ks tgt ls st ws) (kf : ¬ 0 ≤ x → V X nL kc ks (pc + 3) ls st ws) : V X nL kc ks pc ls (.int x :: st) ws := fun H locs la hl hP hD hS => lv_if_ge K.1 K.2.1 hd ht (fun q => kt q H locs la hl hP hD hS) (fun q => kf q H locs la hl hP hD hS)
theorem v_icmp_ge (K : Ok X cc own nL d c) {x y : Int32} {off : Int} (tgt : Nat) (hd : decode cc pc = .ok (.if_icmp .ge off, 3)) (ht : (pc : Int) + off = (tgt : Int)) (kt : y ≤ x → V X nL kc ks tgt ls st ws) (kf : ¬ y ≤ x → V X nL kc ks (pc + 3) ls st ws) : V X nL kc ks pc ls (.int y :: .int x :: st) ws := fun H locs la hl hP hD hS => lv_icmp_ge K.1 K.2.1 hd ht (fun q => kt q H locs la hl hP hD hS) (fun q => kf q H locs la hl hP hD hS)
theorem v_if_gt (K : Ok X cc own nL d c) {x : Int32} {off : Int} (tgt : Nat) (hd : decode cc pc = .ok (.ifCond .gt off, 3)) (ht : (pc : Int) + off = (tgt : Int)) (kt : 0 < x → V X nL kc ks tgt ls st ws) (kf : ¬ 0 < x → V X nL kc ks (pc + 3) ls st ws) : V X nL kc ks pc ls (.int x :: st) ws := fun H locs la hl hP hD hS => lv_if_gt K.1 K.2.1 hd ht (fun q => kt q H locs la hl hP hD hS) (fun q => kf q H locs la hl hP hD hS)
theorem v_icmp_gt (K : Ok X cc own nL d c) {x y : Int32} {off : Int} (tgt : Nat) (hd : decode cc pc = .ok (.if_icmp .gt off, 3)) (ht : (pc : Int) + off = (tgt : Int)) (kt : y < x → V X nL kc ks tgt ls st ws) (kf : ¬ y < x → V X nL kc ks (pc + 3) ls st ws) : V X nL kc ks pc ls (.int y :: .int x :: st) ws := fun H locs la hl hP hD hS => lv_icmp_gt K.1 K.2.1 hd ht (fun q => kt q H locs la hl hP hD hS) (fun q => kf q H locs la hl hP hD hS)
theorem v_if_le (K : Ok X cc own nL d c) {x : Int32} {off : Int} (tgt : Nat) (hd : decode cc pc = .ok (.ifCond .le off, 3)) (ht : (pc : Int) + off = (tgt : Int)) (kt : x ≤ 0 → V X nL kc ks tgt ls st ws) (kf : ¬ x ≤ 0 → V X nL kc ks (pc + 3) ls st ws) : V X nL kc ks pc ls (.int x :: st) ws := fun H locs la hl hP hD hS => lv_if_le K.1 K.2.1 hd ht (fun q => kt q H locs la hl hP hD hS) (fun q => kf q H locs la hl hP hD hS)
theorem v_icmp_le (K : Ok X cc own nL d c) {x y : Int32} {off : Int} (tgt : Nat) (hd : decode cc pc = .ok (.if_icmp .le off, 3)) (ht : (pc : Int) + off = (tgt : Int)) (kt : x ≤ y → V X nL kc ks tgt ls st ws) (kf : ¬ x ≤ y → V X nL kc ks (pc + 3) ls st ws) : V X nL kc ks pc ls (.int y :: .int x :: st) ws := fun H locs la hl hP hD hS => lv_icmp_le K.1 K.2.1 hd ht (fun q => kt q H locs la hl hP hD hS) (fun q => kf q H locs la hl hP hD hS)
theorem v_ifnonnull (K : Ok X cc own nL d c) {x : Nat} {off : Int} (tgt : Nat) (hd : decode cc pc = .ok (.ifnonnull off, 3)) (ht : (pc : Int) + off = (tgt : Int)) (k : V X nL kc ks tgt ls st ws) : V X nL kc ks pc ls (.ref x :: st) ws := fun H locs la hl hP hD hS => lv_ifnonnull K.1 K.2.1 hd ht (k H locs la hl hP hD hS)
theorem v_ifnonnullN (K : Ok X cc own nL d c) {off : Int} (hd : decode cc pc = .ok (.ifnonnull off, 3)) (k : V X nL kc ks (pc + 3) ls st ws) : V X nL kc ks pc ls (.null :: st) ws := fun H locs la hl hP hD hS => lv_ifnonnullN K.1 K.2.1 hd (k H locs la hl hP hD hS)
theorem v_null (K : Ok X cc own nL d c) (hd : decode cc pc = .ok (.aconst_null, 1)) (k : V X nL kc ks (pc + 1) ls (.null :: st) ws) : V X nL kc ks pc ls st ws := fun H locs la hl hP hD hS => lv_null K.1 K.2.1 hd (k H locs la hl hP hD hS)
theorem v_tableOut (K : Ok X cc own nL d c) {dflt lo hi : Int} {offs : Array Int} {len : Nat} {x : Int32} (tgt : Nat) (hd : decode cc pc = .ok (.tableswitch dflt lo hi offs, len)) (h : x.toInt < lo ∨ hi < x.toInt) (ht : (pc : Int) + dflt = (tgt : Int)) (k : V X nL kc ks tgt ls st ws) : V X nL kc ks pc ls (.int x :: st) ws := fun H locs la hl hP hD hS => lv_tableOut K.1 K.2.1 hd h ht (k H locs la hl hP hD hS)
theorem v_tableIn (K : Ok X cc own nL d c) {dflt lo hi : Int} {offs : Array Int} {len : Nat} {x : Int32} {off : Int} (tgt : Nat) (hd : decode cc pc = .ok (.tableswitch dflt lo hi offs, len)) (h1 : ¬ x.toInt < lo) (h2 : ¬ hi < x.toInt) (ho : offs[(x.toInt - lo).toNat]? = some off) (ht : (pc : Int) + off = (tgt : Int)) (k : V X nL kc ks tgt ls st ws) : V X nL kc ks pc ls (.int x :: st) ws := fun H locs la hl hP hD hS => lv_tableIn K.1 K.2.1 hd h1 h2 ho ht (k H locs la hl hP hD hS)
theorem v_lookup (K : Ok X cc own nL d c) {dflt : Int} {ps : Array (Int × Int)} {len : Nat} {x : Int32} {off : Int} (tgt : Nat) (hd : decode cc pc = .ok (.lookupswitch dflt ps, len)) (hp : (ps.toList.zip (ps.toList.drop 1)).all (fun (a, next) => a.1 < next.1) = true) (ho : Op.lookupswitch.offset ps.toList dflt x.toInt = off) (ht : (pc : Int) + off = (tgt : Int)) (k : V X nL kc ks tgt ls st ws) : V X nL kc ks pc ls (.int x :: st) ws := fun H locs la hl hP hD hS => lv_lookup K.1 K.2.1 hd hp ho ht (k H locs la hl hP hD hS)
theorem v_get (K : Ok X cc own nL d c) {ref C : String} {T : u_T} {N ci ix a : Nat} {fs : List Value} {v : Value} (hin : ∀ w ∈ u_ws C T N, w ∈ BG) (q0 : Nat) (he : ws[q0]? = some (a, .inr (ci, fs))) (hc : vwCl[ci]? = some (C, T, N)) (k : Nat) (hk : k < N) (hlink : .fieldLink own ix ref (T k).2.1 (T k).2.2.1 ∈ BG) (hsame : (T k).1 = ref) (hv : fs[k]? = some v) (hd : decode cc pc = .ok (.getfield ix, 3)) (kk : V X nL kc ks (pc + 3) ls (v :: st) ws) : V X nL kc ks pc ls (.ref a :: st) ws := fun H locs la hl hP hD hS => va_get K.1 K.2.1 K.2.2.2.2.1 hin K.2.2.2.1 K.2.2.2.2.2.1 hP q0 he hc k hk (K.2.2.2.2.1 _ hlink) (fun x hx => by rw [← hsame]; exact hx) hv hd (kk H locs la hl hP hD hS)
theorem v_put (K : Ok X cc own nL d c) {ref C : String} {T : u_T} {N ci ix a : Nat} {fs : List Value} {v : Value} {ty : FieldType} (hin : ∀ w ∈ u_ws C T N, w ∈ BG) (ty0 : Nat → FieldType) (hty : ∀ k, k < N → parseFieldDescriptor (T k).2.2.1 = some (ty0 k)) (hnm : ∀ a, a < N → ∀ b, b < N → a ≠ b → (T a).2.1 ≠ (T b).2.1) (q0 : Nat) (he : ws[q0]? = some (a, .inr (ci, fs))) (hc : vwCl[ci]? = some (C, T, N)) (k : Nat) (hk : k < N) (hlink : .fieldLink own ix ref (T k).2.1 (T k).2.2.1 ∈ BG) (hsame : (T k).1 = ref) (hfin : (T k).2.2.2 = false) (hdd : parseFieldDescriptor (T k).2.2.1 = some ty) (hn : narrow ty v = v) (hfit : fits ty v = true) (hl : k < fs.length) {ws2 : va_W} (hw : ws.set q0 (a, .inr (ci, fs.set k v)) = ws2) (hd : decode cc pc = .ok (.putfield ix, 3)) (kk : V X nL kc ks (pc + 3) ls st ws2) : V X nL kc ks pc ls (v :: .ref a :: st) ws := fun H locs la hla hP hD hS => va_put K.1 K.2.1 K.2.2.2.2.1 hin ty0 hty hnm K.2.2.2.1 K.2.2.2.2.2.1 hP hD hS q0 he hc k hk (K.2.2.2.2.1 _ hlink) (fun x hx => by rw [← hsame]; exact hx) hfin hdd hn hfit hl hd (fun H1 l1 hP1 hD1 hS1 => by subst hw; exact kk H1 l1 la hla hP1 hD1 hS1)
theorem v_ald (K : Ok X cc own nL d c) {a n : Nat} {f : Nat → Int32} (q0 : Nat) (he : ws[q0]? = some (a, .inl (c 0, n, .inl f))) {i : Int32} (hi : inb i n = true) (hd : decode cc pc = .ok (.iaload, 1)) (kk : V X nL kc ks (pc + 1) ls (.int (f i.toNatClampNeg) :: st) ws) : V X nL kc ks pc ls (.int i :: .ref a :: st) ws := fun H locs la hl hP hD hS => va_iald K.1 K.2.1 K.2.2.2.2.2.1 hP q0 0 he rfl (inb_in hi) hd (kk H locs la hl hP hD hS)
theorem v_ast (K : Ok X cc own nL d c) {a n : Nat} {f : Nat → Int32} (q0 : Nat) (he : ws[q0]? = some (a, .inl (c 0, n, .inl f))) {i x : Int32} (hi : inb i n = true) {ws2 : va_W} (hw : ws.set q0 (a, .inl (c 0, n, .inl (upd f i.toNatClampNeg x))) = ws2) (hd : decode cc pc = .ok (.iastore, 1)) (kk : V X nL kc ks (pc + 1) ls st ws2) : V X nL kc ks pc ls (.int x :: .int i :: .ref a :: st) ws := fun H locs la hl hP hD hS => va_iast K.1 K.2.1 K.2.2.2.2.2.1 hP hD hS q0 0 he rfl (inb_in hi) hd (fun H1 l1 hP1 hD1 hS1 => by subst hw; exact kk H1 l1 la hl hP1 hD1 hS1)
theorem v_zld (K : Ok X cc own nL d c) {a n : Nat} {f : Nat → Int32} (q0 : Nat) (he : ws[q0]? = some (a, .inl (c 1, n, .inl f))) {i : Int32} (hi : inb i n = true) (hd : decode cc pc = .ok (.baload, 1)) (kk : V X nL kc ks (pc + 1) ls (.int (f i.toNatClampNeg) :: st) ws) : V X nL kc ks pc ls (.int i :: .ref a :: st) ws := fun H locs la hl hP hD hS => va_zald K.1 K.2.1 K.2.2.2.2.2.1 hP q0 1 he rfl (inb_in hi) hd (kk H locs la hl hP hD hS)
theorem v_zst (K : Ok X cc own nL d c) {a n : Nat} {f : Nat → Int32} (q0 : Nat) (he : ws[q0]? = some (a, .inl (c 1, n, .inl f))) {i x : Int32} (hi : inb i n = true) {ws2 : va_W} (hw : ws.set q0 (a, .inl (c 1, n, .inl (upd f i.toNatClampNeg (x &&& 1)))) = ws2) (hd : decode cc pc = .ok (.bastore, 1)) (kk : V X nL kc ks (pc + 1) ls st ws2) : V X nL kc ks pc ls (.int x :: .int i :: .ref a :: st) ws := fun H locs la hl hP hD hS => va_zast K.1 K.2.1 K.2.2.2.2.2.1 hP hD hS q0 1 he rfl (inb_in hi) hd (fun H1 l1 hP1 hD1 hS1 => by subst hw; exact kk H1 l1 la hl hP1 hD1 hS1)
end VR
end
section
theorem va_D.addr {A : Nat → Prop} {ws ws' : va_W} (h : ws'.map (fun q => q.1) = ws.map (fun q => q.1)) (hD : va_D A ws) : va_D A ws' := by
  have key : ∀ (k : Nat) (q : Nat × va_E), ws'[k]? = some q → ∃ q0, ws[k]? = some q0 ∧ q0.1 = q.1 := by
    intro k q hk
    have h1 : (ws'.map (fun q => q.1))[k]? = some q.1 := by rw [List.getElem?_map, hk]; rfl
    rw [h, List.getElem?_map] at h1
    cases hq : ws[k]? with
    | none => rw [hq] at h1; cases h1
    | some q0 => rw [hq] at h1; exact ⟨q0, rfl, Option.some.inj h1⟩
  refine ⟨fun i j x y hi hj hxy => ?_, fun k q hk => ?_⟩
  · obtain ⟨x0, h1, h2⟩ := key i x hi
    obtain ⟨y0, h3, h4⟩ := key j y hj
    exact hD.1 i j x0 y0 h1 h3 (h2.trans (hxy.trans h4.symm))
  · obtain ⟨q0, h1, h2⟩ := key k q hk
    rw [← h2]
    exact hD.2 k q0 h1
def cwVok (own : String) (ix : Nat) (C : String) (y : MethodName) (bytes : ByteArray) (maxL : Nat) (ret : Option FieldType) (n : Nat) : Prop :=
  (y.cls = C ∧ y.cls ≠ "java/lang/invoke/MethodHandle" ∧ y.cls ≠ "java/lang/invoke/VarHandle" ∧ (parseMethodDescriptor y.desc).map (fun d => d.parameters.length) = some n) ∧ maxL ≤ 41 ∧ (∀ w ∈ ([.methodLink own ix y, .instanceMethod y, .selects C y y, .initialized C] : List Cond), w ∈ BG) ∧ .code y bytes maxL ret ∈ BG
def cwSok (own : String) (ix : Nat) (y : MethodName) (bytes : ByteArray) (maxL : Nat) (ret : Option FieldType) (n : Nat) : Prop :=
  (y.cls ≠ "java/lang/invoke/MethodHandle" ∧ y.cls ≠ "java/lang/invoke/VarHandle" ∧ (parseMethodDescriptor y.desc).map (fun d => d.parameters.length) = some n) ∧ maxL ≤ 41 ∧ (∀ w ∈ ([.methodLink own ix y, .static y, .initialized y.cls] : List Cond), w ∈ BG) ∧ .code y bytes maxL ret ∈ BG
theorem all4 {P : Cond → Prop} {a b c d : Cond} (ha : P a) (hb : P b) (hc : P c) (hd : P d) : ∀ w ∈ ([a, b, c, d] : List Cond), P w := fun w hw => by
  simp only [List.mem_cons, List.not_mem_nil, or_false] at hw
  rcases hw with e | e | e | e <;> (rw [e]; assumption)
theorem all3 {P : Cond → Prop} {a b c : Cond} (ha : P a) (hb : P b) (hc : P c) : ∀ w ∈ ([a, b, c] : List Cond), P w := fun w hw => by
  simp only [List.mem_cons, List.not_mem_nil, or_false] at hw
  rcases hw with e | e | e <;> (rw [e]; assumption)
theorem z0 {a b : Nat} : 0 ≤ a ∧ 0 ≤ b := ⟨Nat.zero_le _, Nat.zero_le _⟩
theorem Asub {X : Cx} {ws : va_W} {H : Heap} {locs : List Loc} (hD : va_D (xA X) ws) (hS : va_S (xA X) (xs X).heap H locs) (hA : ∀ q, (xs X).heap.size ≤ q → xA X q) : ∀ q, va_A ws H.size q → xA X q := fun q h => by
  rcases h with ⟨k, e, h⟩ | h
  · exact hD.2 k (q, e) h
  · exact hA q (Nat.le_trans hS.1 h)
theorem Rsub {X : Cx} {d dc maxL : Nat} {kc ks : Nat} (h1 : d ≤ (xR X).frames) (h2 : 60 * d ≤ (xR X).locals) (hdc : dc + 1 ≤ d) (hm : maxL ≤ 41) : (rm dc kc ks).frames + 1 ≤ (xR X).frames ∧ 8 + (maxL + 11) + (rm dc kc ks).locals ≤ (xR X).locals := by
  constructor
  · show dc + 1 ≤ _; omega
  · show 8 + (maxL + 11) + 60 * dc ≤ _; omega
theorem nilA {q sz : Nat} (h : q < sz) : ¬ va_A [] sz q := fun a => by
  rcases a with ⟨j, e, a⟩ | a
  · simp at a
  · exact absurd h (Nat.not_lt.mpr a)
theorem nilP {D : va_G} {H : Heap} : va_P D vwCl [] H := fun k q h => by simp at h
theorem nilD {A : Nat → Prop} : va_D A [] := ⟨fun i j p q h => by simp at h, fun k q h => by simp at h⟩
set_option maxHeartbeats 4000000 in
theorem v_calli {X : Cx} {cc : ByteArray} {own : String} {nL d kc ks pc : Nat} {c : Nat → ClassId} {ls : List (Nat × Value)} {ws ws' : va_W} (K : Ok X cc own nL d c) {C : String} {y : MethodName} {bytes : ByteArray} {maxL n ix dc b ci N : Nat} {ret : Option FieldType} {T : u_T} {fs : List Value} {r : Int32} (As rest : List Value) {stk : List Value} (S : cwVok own ix C y bytes maxL ret n) (hC : Ci (xl X) (xD X) c y bytes maxL ret dc (.ref b :: As) ws r ws') (q0 : Nat) (he : ws[q0]? = some (b, .inr (ci, fs))) (hc : vwCl[ci]? = some (C, T, N)) (hsame : ws'.map (fun q => q.1) = ws.map (fun q => q.1)) (hn : As.length = n) (hst : stk = As.reverse ++ .ref b :: rest) (hrm : (rest.map fun v => v.category).sum ≤ 8) (hdc : dc + 1 ≤ d) (hk : kc ≤ (xR X).cells ∧ ks ≤ (xR X).slots) (hd : decode cc pc = .ok (.invokevirtual ix, 3)) (k : V X nL kc ks (pc + 3) ls (.int r :: rest) ws') : V X nL kc ks pc ls stk ws := by
  subst hst
  intro H locs la hl hP hD hS
  obtain ⟨k1, k2, k3, k4, k5, k6, k7, k8, k9, k10⟩ := id K
  refine va_calli (va_runV (As := As) (rest := rest) ⟨k1, k2, k3, k4, k5⟩ (hC H.size) (cwV n k5 (BG_app S.2.2.1 S.2.2.2) rfl rfl rfl S.1 (Rsub k9 k10 hdc S.2.1)) ⟨PreW.blind, va_recv k6 hP hc he, fun U hU hW => ⟨rfl, by rw [hU], by rw [hU]; exact hP, va_K.moved hW.alike k6, hD.weaken (fun _ _ _ _ => trivial), NW.warm hW k8⟩⟩ rfl hn hl.1 rfl (lv_room hrm) hd hk) hS (fun q _ h => Asub hD hS k7 q h) (Asub hD hS k7) (fun r' u t H1 locs1 ht hvm hw hB hz1 hk1 hS1 => ?_)
  subst hw; exact k H1 locs1 la hl (by rw [← ht]; exact hB) (va_D.addr hsame hD) hS1
set_option maxHeartbeats 4000000 in
theorem v_callsi {X : Cx} {cc : ByteArray} {own : String} {nL d kc ks pc : Nat} {c : Nat → ClassId} {ls : List (Nat × Value)} {ws : va_W} (K : Ok X cc own nL d c) {y : MethodName} {bytes : ByteArray} {maxL n ix dc : Nat} {ret : Option FieldType} {r : Int32} (As rest : List Value) {stk : List Value} (S : cwSok own ix y bytes maxL ret n) (hC : Ci (xl X) (xD X) c y bytes maxL ret dc As [] r []) (hn : As.length = n) (hst : stk = As.reverse ++ rest) (hrm : (rest.map fun v => v.category).sum ≤ 8) (hdc : dc + 1 ≤ d) (hk : kc ≤ (xR X).cells ∧ ks ≤ (xR X).slots) (hd : decode cc pc = .ok (.invokestatic ix, 3)) (k : V X nL kc ks (pc + 3) ls (.int r :: rest) ws) : V X nL kc ks pc ls stk ws := by
  subst hst
  intro H locs la hl hP hD hS
  obtain ⟨k1, k2, k3, k4, k5, k6, k7, k8, k9, k10⟩ := id K
  refine va_calli (va_runS (As := As) (rest := rest) ⟨k1, k2, k3, k4, k5⟩ (hC H.size) (va_cwS n k5 (BG_app S.2.2.1 S.2.2.2) rfl rfl rfl S.1 (Rsub k9 k10 hdc S.2.1)) ⟨PreW.blind, fun U hU hW => ⟨rfl, by rw [hU], nilP, va_K.moved hW.alike k6, nilD, NW.warm hW k8⟩⟩ rfl hn hl.1 rfl (lv_room hrm) hd hk) hS (fun q _ h => Asub nilD hS k7 q h) (Asub nilD hS k7) (fun r' u t H1 locs1 ht hvm hw hB hz1 hk1 hS1 => ?_)
  subst hw; exact k H1 locs1 la hl (hP.kept (fun i q hq => hk1 q.1 ((hP i q hq).lt) (nilA (hP i q hq).lt))) hD hS1
set_option maxHeartbeats 4000000 in
theorem v_calll {X : Cx} {cc : ByteArray} {own : String} {nL d kc ks pc : Nat} {c : Nat → ClassId} {ls : List (Nat × Value)} {ws ws' : va_W} (K : Ok X cc own nL d c) {C : String} {y : MethodName} {bytes : ByteArray} {maxL n ix dc b ci N : Nat} {ret : Option FieldType} {T : u_T} {fs : List Value} {r : Int64} (As rest : List Value) {stk : List Value} (S : cwVok own ix C y bytes maxL ret n) (hC : Cl (xl X) (xD X) c y bytes maxL ret dc (.ref b :: As) ws r ws') (q0 : Nat) (he : ws[q0]? = some (b, .inr (ci, fs))) (hc : vwCl[ci]? = some (C, T, N)) (hsame : ws'.map (fun q => q.1) = ws.map (fun q => q.1)) (hn : As.length = n) (hst : stk = As.reverse ++ .ref b :: rest) (hrm : (rest.map fun v => v.category).sum ≤ 8) (hdc : dc + 1 ≤ d) (hk : kc ≤ (xR X).cells ∧ ks ≤ (xR X).slots) (hd : decode cc pc = .ok (.invokevirtual ix, 3)) (k : V X nL kc ks (pc + 3) ls (.long r :: rest) ws') : V X nL kc ks pc ls stk ws := by
  subst hst
  intro H locs la hl hP hD hS
  obtain ⟨k1, k2, k3, k4, k5, k6, k7, k8, k9, k10⟩ := id K
  refine va_calll (va_runV (As := As) (rest := rest) ⟨k1, k2, k3, k4, k5⟩ (hC H.size) (cwV n k5 (BG_app S.2.2.1 S.2.2.2) rfl rfl rfl S.1 (Rsub k9 k10 hdc S.2.1)) ⟨PreW.blind, va_recv k6 hP hc he, fun U hU hW => ⟨rfl, by rw [hU], by rw [hU]; exact hP, va_K.moved hW.alike k6, hD.weaken (fun _ _ _ _ => trivial), NW.warm hW k8⟩⟩ rfl hn hl.1 rfl (lv_room hrm) hd hk) hS (fun q _ h => Asub hD hS k7 q h) (Asub hD hS k7) (fun r' u t H1 locs1 ht hvm hw hB hz1 hk1 hS1 => ?_)
  subst hw; exact k H1 locs1 la hl (by rw [← ht]; exact hB) (va_D.addr hsame hD) hS1
set_option maxHeartbeats 4000000 in
theorem v_callsl {X : Cx} {cc : ByteArray} {own : String} {nL d kc ks pc : Nat} {c : Nat → ClassId} {ls : List (Nat × Value)} {ws : va_W} (K : Ok X cc own nL d c) {y : MethodName} {bytes : ByteArray} {maxL n ix dc : Nat} {ret : Option FieldType} {r : Int64} (As rest : List Value) {stk : List Value} (S : cwSok own ix y bytes maxL ret n) (hC : Cl (xl X) (xD X) c y bytes maxL ret dc As [] r []) (hn : As.length = n) (hst : stk = As.reverse ++ rest) (hrm : (rest.map fun v => v.category).sum ≤ 8) (hdc : dc + 1 ≤ d) (hk : kc ≤ (xR X).cells ∧ ks ≤ (xR X).slots) (hd : decode cc pc = .ok (.invokestatic ix, 3)) (k : V X nL kc ks (pc + 3) ls (.long r :: rest) ws) : V X nL kc ks pc ls stk ws := by
  subst hst
  intro H locs la hl hP hD hS
  obtain ⟨k1, k2, k3, k4, k5, k6, k7, k8, k9, k10⟩ := id K
  refine va_calll (va_runS (As := As) (rest := rest) ⟨k1, k2, k3, k4, k5⟩ (hC H.size) (va_cwS n k5 (BG_app S.2.2.1 S.2.2.2) rfl rfl rfl S.1 (Rsub k9 k10 hdc S.2.1)) ⟨PreW.blind, fun U hU hW => ⟨rfl, by rw [hU], nilP, va_K.moved hW.alike k6, nilD, NW.warm hW k8⟩⟩ rfl hn hl.1 rfl (lv_room hrm) hd hk) hS (fun q _ h => Asub nilD hS k7 q h) (Asub nilD hS k7) (fun r' u t H1 locs1 ht hvm hw hB hz1 hk1 hS1 => ?_)
  subst hw; exact k H1 locs1 la hl (hP.kept (fun i q hq => hk1 q.1 ((hP i q hq).lt) (nilA (hP i q hq).lt))) hD hS1
set_option maxHeartbeats 4000000 in
theorem v_callv {X : Cx} {cc : ByteArray} {own : String} {nL d kc ks pc : Nat} {c : Nat → ClassId} {ls : List (Nat × Value)} {ws ws' : va_W} (K : Ok X cc own nL d c) {C : String} {y : MethodName} {bytes : ByteArray} {maxL n ix dc b ci N : Nat} {ret : Option FieldType} {T : u_T} {fs : List Value} (As rest : List Value) {stk : List Value} (S : cwVok own ix C y bytes maxL ret n) (hC : Cv (xl X) (xD X) c y bytes maxL ret dc (.ref b :: As) ws ws') (q0 : Nat) (he : ws[q0]? = some (b, .inr (ci, fs))) (hc : vwCl[ci]? = some (C, T, N)) (hsame : ws'.map (fun q => q.1) = ws.map (fun q => q.1)) (hn : As.length = n) (hst : stk = As.reverse ++ .ref b :: rest) (hrm : (rest.map fun v => v.category).sum ≤ 8) (hdc : dc + 1 ≤ d) (hk : kc ≤ (xR X).cells ∧ ks ≤ (xR X).slots) (hd : decode cc pc = .ok (.invokevirtual ix, 3)) (k : V X nL kc ks (pc + 3) ls (rest) ws') : V X nL kc ks pc ls stk ws := by
  subst hst
  intro H locs la hl hP hD hS
  obtain ⟨k1, k2, k3, k4, k5, k6, k7, k8, k9, k10⟩ := id K
  refine va_callv (va_runV (As := As) (rest := rest) ⟨k1, k2, k3, k4, k5⟩ (hC H.size) (cwV n k5 (BG_app S.2.2.1 S.2.2.2) rfl rfl rfl S.1 (Rsub k9 k10 hdc S.2.1)) ⟨PreW.blind, va_recv k6 hP hc he, fun U hU hW => ⟨rfl, by rw [hU], by rw [hU]; exact hP, va_K.moved hW.alike k6, hD.weaken (fun _ _ _ _ => trivial), NW.warm hW k8⟩⟩ rfl hn hl.1 rfl (lv_room hrm) hd hk) hS (fun q _ h => Asub hD hS k7 q h) (Asub hD hS k7) (fun u t H1 locs1 ht hvm hw hB hz1 hk1 hS1 => ?_)
  exact k H1 locs1 la hl (by rw [← ht]; exact hB) (va_D.addr hsame hD) hS1
set_option maxHeartbeats 4000000 in
theorem v_callsv {X : Cx} {cc : ByteArray} {own : String} {nL d kc ks pc : Nat} {c : Nat → ClassId} {ls : List (Nat × Value)} {ws : va_W} (K : Ok X cc own nL d c) {y : MethodName} {bytes : ByteArray} {maxL n ix dc : Nat} {ret : Option FieldType} (As rest : List Value) {stk : List Value} (S : cwSok own ix y bytes maxL ret n) (hC : Cv (xl X) (xD X) c y bytes maxL ret dc As [] []) (hn : As.length = n) (hst : stk = As.reverse ++ rest) (hrm : (rest.map fun v => v.category).sum ≤ 8) (hdc : dc + 1 ≤ d) (hk : kc ≤ (xR X).cells ∧ ks ≤ (xR X).slots) (hd : decode cc pc = .ok (.invokestatic ix, 3)) (k : V X nL kc ks (pc + 3) ls (rest) ws) : V X nL kc ks pc ls stk ws := by
  subst hst
  intro H locs la hl hP hD hS
  obtain ⟨k1, k2, k3, k4, k5, k6, k7, k8, k9, k10⟩ := id K
  refine va_callv (va_runS (As := As) (rest := rest) ⟨k1, k2, k3, k4, k5⟩ (hC H.size) (va_cwS n k5 (BG_app S.2.2.1 S.2.2.2) rfl rfl rfl S.1 (Rsub k9 k10 hdc S.2.1)) ⟨PreW.blind, fun U hU hW => ⟨rfl, by rw [hU], nilP, va_K.moved hW.alike k6, nilD, NW.warm hW k8⟩⟩ rfl hn hl.1 rfl (lv_room hrm) hd hk) hS (fun q _ h => Asub nilD hS k7 q h) (Asub nilD hS k7) (fun u t H1 locs1 ht hvm hw hB hz1 hk1 hS1 => ?_)
  exact k H1 locs1 la hl (hP.kept (fun i q hq => hk1 q.1 ((hP i q hq).lt) (nilA (hP i q hq).lt))) hD hS1
end
