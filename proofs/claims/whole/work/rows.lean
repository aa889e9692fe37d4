section
-- ===== PART A: goes FIRST, ahead of the names: the tables' words, and 'selects' of the private methods out of them =====
/-- a private method of a class that the tables say can be made, by its rows of tables_1 -/
def lw_okq (q : MethodName × Nat) : Prop := (q.1.cls ≠ "java/lang/invoke/MethodHandle" ∧ q.1.cls ≠ "java/lang/invoke/VarHandle") ∧ Cond.instantiable q.1.cls q.2 ∈ tables_1 ∧ Cond.privateMethod q.1 ∈ tables_1 ∧ Cond.instanceMethod q.1 ∈ tables_1
theorem lw_p0 : lw_okq (⟨"GasYard", "bankAt", "(I)LGasYard$Bank;"⟩, 18) := ⟨⟨by decide +kernel, by decide +kernel⟩, List.mem_of_getElem? (i := 16) (by decide +kernel), List.mem_of_getElem? (i := 330) (by decide +kernel), List.mem_of_getElem? (i := 331) (by decide +kernel)⟩
theorem lw_p1 : lw_okq (⟨"GasYard$BookReader", "skipBlanks", "()V"⟩, 4) := ⟨⟨by decide +kernel, by decide +kernel⟩, List.mem_of_getElem? (i := 45) (by decide +kernel), List.mem_of_getElem? (i := 366) (by decide +kernel), List.mem_of_getElem? (i := 367) (by decide +kernel)⟩
theorem lw_p2 : lw_okq (⟨"GasYard$BookReader", "readClauses", "(LGasYard$Rules;)I"⟩, 4) := ⟨⟨by decide +kernel, by decide +kernel⟩, List.mem_of_getElem? (i := 45) (by decide +kernel), List.mem_of_getElem? (i := 374) (by decide +kernel), List.mem_of_getElem? (i := 375) (by decide +kernel)⟩
theorem lw_p3 : lw_okq (⟨"GasYard$BookReader", "readClause", "(LGasYard$Rules;)V"⟩, 4) := ⟨⟨by decide +kernel, by decide +kernel⟩, List.mem_of_getElem? (i := 45) (by decide +kernel), List.mem_of_getElem? (i := 378) (by decide +kernel), List.mem_of_getElem? (i := 379) (by decide +kernel)⟩
theorem lw_p4 : lw_okq (⟨"GasYard$BookReader", "readWord", "()I"⟩, 4) := ⟨⟨by decide +kernel, by decide +kernel⟩, List.mem_of_getElem? (i := 45) (by decide +kernel), List.mem_of_getElem? (i := 382) (by decide +kernel), List.mem_of_getElem? (i := 383) (by decide +kernel)⟩
theorem lw_p5 : lw_okq (⟨"GasYard$BookReader", "isWord", "(Ljava/lang/String;I)Z"⟩, 4) := ⟨⟨by decide +kernel, by decide +kernel⟩, List.mem_of_getElem? (i := 45) (by decide +kernel), List.mem_of_getElem? (i := 398) (by decide +kernel), List.mem_of_getElem? (i := 399) (by decide +kernel)⟩
theorem lw_p6 : lw_okq (⟨"GasYard$BookReader", "blame", "(II)V"⟩, 4) := ⟨⟨by decide +kernel, by decide +kernel⟩, List.mem_of_getElem? (i := 45) (by decide +kernel), List.mem_of_getElem? (i := 450) (by decide +kernel), List.mem_of_getElem? (i := 451) (by decide +kernel)⟩
theorem lw_p7 : lw_okq (⟨"GasYard$BookReader", "readFlow", "(LGasYard$Rules;)V"⟩, 4) := ⟨⟨by decide +kernel, by decide +kernel⟩, List.mem_of_getElem? (i := 45) (by decide +kernel), List.mem_of_getElem? (i := 454) (by decide +kernel), List.mem_of_getElem? (i := 455) (by decide +kernel)⟩
theorem lw_p8 : lw_okq (⟨"GasYard$BookReader", "readNumber", "(II)I"⟩, 4) := ⟨⟨by decide +kernel, by decide +kernel⟩, List.mem_of_getElem? (i := 45) (by decide +kernel), List.mem_of_getElem? (i := 462) (by decide +kernel), List.mem_of_getElem? (i := 463) (by decide +kernel)⟩
theorem lw_p9 : lw_okq (⟨"GasYard$BookReader", "readSetting", "(ILGasYard$Rules;)V"⟩, 4) := ⟨⟨by decide +kernel, by decide +kernel⟩, List.mem_of_getElem? (i := 45) (by decide +kernel), List.mem_of_getElem? (i := 471) (by decide +kernel), List.mem_of_getElem? (i := 472) (by decide +kernel)⟩
theorem lw_p10 : lw_okq (⟨"GasYard", "carAt", "(I)LGasYard$Car;"⟩, 18) := ⟨⟨by decide +kernel, by decide +kernel⟩, List.mem_of_getElem? (i := 16) (by decide +kernel), List.mem_of_getElem? (i := 498) (by decide +kernel), List.mem_of_getElem? (i := 499) (by decide +kernel)⟩
theorem lw_p11 : lw_okq (⟨"GasYard", "airTenths", "()I"⟩, 18) := ⟨⟨by decide +kernel, by decide +kernel⟩, List.mem_of_getElem? (i := 16) (by decide +kernel), List.mem_of_getElem? (i := 517) (by decide +kernel), List.mem_of_getElem? (i := 518) (by decide +kernel)⟩
theorem lw_p12 : lw_okq (⟨"GasYard", "takeFromLine", "()V"⟩, 18) := ⟨⟨by decide +kernel, by decide +kernel⟩, List.mem_of_getElem? (i := 16) (by decide +kernel), List.mem_of_getElem? (i := 529) (by decide +kernel), List.mem_of_getElem? (i := 530) (by decide +kernel)⟩
theorem lw_p13 : lw_okq (⟨"GasYard", "serveHoses", "()V"⟩, 18) := ⟨⟨by decide +kernel, by decide +kernel⟩, List.mem_of_getElem? (i := 16) (by decide +kernel), List.mem_of_getElem? (i := 533) (by decide +kernel), List.mem_of_getElem? (i := 534) (by decide +kernel)⟩
theorem lw_p14 : lw_okq (⟨"GasYard", "drawsOn", "(LGasYard$Car;)Z"⟩, 18) := ⟨⟨by decide +kernel, by decide +kernel⟩, List.mem_of_getElem? (i := 16) (by decide +kernel), List.mem_of_getElem? (i := 537) (by decide +kernel), List.mem_of_getElem? (i := 538) (by decide +kernel)⟩
theorem lw_p15 : lw_okq (⟨"GasYard$Rules", "unitsToEven", "(LGasYard$Bank;LGasYard$Car;)I"⟩, 8) := ⟨⟨by decide +kernel, by decide +kernel⟩, List.mem_of_getElem? (i := 221) (by decide +kernel), List.mem_of_getElem? (i := 554) (by decide +kernel), List.mem_of_getElem? (i := 555) (by decide +kernel)⟩
def lw_privs_1 : List (MethodName × Nat) := [(⟨"GasYard", "bankAt", "(I)LGasYard$Bank;"⟩, 18), (⟨"GasYard$BookReader", "skipBlanks", "()V"⟩, 4), (⟨"GasYard$BookReader", "readClauses", "(LGasYard$Rules;)I"⟩, 4), (⟨"GasYard$BookReader", "readClause", "(LGasYard$Rules;)V"⟩, 4), (⟨"GasYard$BookReader", "readWord", "()I"⟩, 4), (⟨"GasYard$BookReader", "isWord", "(Ljava/lang/String;I)Z"⟩, 4), (⟨"GasYard$BookReader", "blame", "(II)V"⟩, 4), (⟨"GasYard$BookReader", "readFlow", "(LGasYard$Rules;)V"⟩, 4), (⟨"GasYard$BookReader", "readNumber", "(II)I"⟩, 4), (⟨"GasYard$BookReader", "readSetting", "(ILGasYard$Rules;)V"⟩, 4), (⟨"GasYard", "carAt", "(I)LGasYard$Car;"⟩, 18), (⟨"GasYard", "airTenths", "()I"⟩, 18), (⟨"GasYard", "takeFromLine", "()V"⟩, 18), (⟨"GasYard", "serveHoses", "()V"⟩, 18), (⟨"GasYard", "drawsOn", "(LGasYard$Car;)Z"⟩, 18), (⟨"GasYard$Rules", "unitsToEven", "(LGasYard$Bank;LGasYard$Car;)I"⟩, 8)]
theorem lw_r1 : ∀ q ∈ lw_privs_1, lw_okq q := List.forall_mem_cons.mpr ⟨lw_p0, List.forall_mem_cons.mpr ⟨lw_p1, List.forall_mem_cons.mpr ⟨lw_p2, List.forall_mem_cons.mpr ⟨lw_p3, List.forall_mem_cons.mpr ⟨lw_p4, List.forall_mem_cons.mpr ⟨lw_p5, List.forall_mem_cons.mpr ⟨lw_p6, List.forall_mem_cons.mpr ⟨lw_p7, List.forall_mem_cons.mpr ⟨lw_p8, List.forall_mem_cons.mpr ⟨lw_p9, List.forall_mem_cons.mpr ⟨lw_p10, List.forall_mem_cons.mpr ⟨lw_p11, List.forall_mem_cons.mpr ⟨lw_p12, List.forall_mem_cons.mpr ⟨lw_p13, List.forall_mem_cons.mpr ⟨lw_p14, List.forall_mem_cons.mpr ⟨lw_p15, fun _ h => absurd h List.not_mem_nil⟩⟩⟩⟩⟩⟩⟩⟩⟩⟩⟩⟩⟩⟩⟩⟩
theorem lw_p16 : lw_okq (⟨"GasYard$Rules", "unitsToLimit", "(LGasYard$Car;)I"⟩, 8) := ⟨⟨by decide +kernel, by decide +kernel⟩, List.mem_of_getElem? (i := 221) (by decide +kernel), List.mem_of_getElem? (i := 568) (by decide +kernel), List.mem_of_getElem? (i := 569) (by decide +kernel)⟩
theorem lw_p17 : lw_okq (⟨"GasYard", "coolCars", "()V"⟩, 18) := ⟨⟨by decide +kernel, by decide +kernel⟩, List.mem_of_getElem? (i := 16) (by decide +kernel), List.mem_of_getElem? (i := 577) (by decide +kernel), List.mem_of_getElem? (i := 578) (by decide +kernel)⟩
theorem lw_p18 : lw_okq (⟨"GasYard", "runPress", "()V"⟩, 18) := ⟨⟨by decide +kernel, by decide +kernel⟩, List.mem_of_getElem? (i := 16) (by decide +kernel), List.mem_of_getElem? (i := 585) (by decide +kernel), List.mem_of_getElem? (i := 586) (by decide +kernel)⟩
theorem lw_p19 : lw_okq (⟨"GasYard", "anyBankSensed", "()Z"⟩, 18) := ⟨⟨by decide +kernel, by decide +kernel⟩, List.mem_of_getElem? (i := 16) (by decide +kernel), List.mem_of_getElem? (i := 616) (by decide +kernel), List.mem_of_getElem? (i := 617) (by decide +kernel)⟩
theorem lw_p20 : lw_okq (⟨"GasYard$Planner", "search", "(LGasYard$Rules;I)V"⟩, 13) := ⟨⟨by decide +kernel, by decide +kernel⟩, List.mem_of_getElem? (i := 91) (by decide +kernel), List.mem_of_getElem? (i := 638) (by decide +kernel), List.mem_of_getElem? (i := 639) (by decide +kernel)⟩
theorem lw_p21 : lw_okq (⟨"GasYard$Planner", "isBetter", "(I)Z"⟩, 13) := ⟨⟨by decide +kernel, by decide +kernel⟩, List.mem_of_getElem? (i := 91) (by decide +kernel), List.mem_of_getElem? (i := 643) (by decide +kernel), List.mem_of_getElem? (i := 644) (by decide +kernel)⟩
theorem lw_p22 : lw_okq (⟨"GasYard$Planner", "keepRow", "()V"⟩, 13) := ⟨⟨by decide +kernel, by decide +kernel⟩, List.mem_of_getElem? (i := 91) (by decide +kernel), List.mem_of_getElem? (i := 647) (by decide +kernel), List.mem_of_getElem? (i := 648) (by decide +kernel)⟩
theorem lw_p23 : lw_okq (⟨"GasYard$Planner", "drawAndGoOn", "(LGasYard$Rules;II)V"⟩, 13) := ⟨⟨by decide +kernel, by decide +kernel⟩, List.mem_of_getElem? (i := 91) (by decide +kernel), List.mem_of_getElem? (i := 651) (by decide +kernel), List.mem_of_getElem? (i := 652) (by decide +kernel)⟩
theorem lw_p24 : lw_okq (⟨"GasYardModel", "isBank", "(I)Z"⟩, 56) := ⟨⟨by decide +kernel, by decide +kernel⟩, List.mem_of_getElem? (i := 692) (by decide +kernel), List.mem_of_getElem? (i := 881) (by decide +kernel), List.mem_of_getElem? (i := 882) (by decide +kernel)⟩
theorem lw_p25 : lw_okq (⟨"GasYardModel", "four", "(I)V"⟩, 56) := ⟨⟨by decide +kernel, by decide +kernel⟩, List.mem_of_getElem? (i := 692) (by decide +kernel), List.mem_of_getElem? (i := 897) (by decide +kernel), List.mem_of_getElem? (i := 898) (by decide +kernel)⟩
theorem lw_p26 : lw_okq (⟨"GasYardModel", "see", "()I"⟩, 56) := ⟨⟨by decide +kernel, by decide +kernel⟩, List.mem_of_getElem? (i := 692) (by decide +kernel), List.mem_of_getElem? (i := 909) (by decide +kernel), List.mem_of_getElem? (i := 910) (by decide +kernel)⟩
theorem lw_p27 : lw_okq (⟨"GasYardModel", "clause", "()Z"⟩, 56) := ⟨⟨by decide +kernel, by decide +kernel⟩, List.mem_of_getElem? (i := 692) (by decide +kernel), List.mem_of_getElem? (i := 913) (by decide +kernel), List.mem_of_getElem? (i := 914) (by decide +kernel)⟩
theorem lw_p28 : lw_okq (⟨"GasYardModel", "wordHere", "()I"⟩, 56) := ⟨⟨by decide +kernel, by decide +kernel⟩, List.mem_of_getElem? (i := 692) (by decide +kernel), List.mem_of_getElem? (i := 917) (by decide +kernel), List.mem_of_getElem? (i := 918) (by decide +kernel)⟩
theorem lw_p29 : lw_okq (⟨"GasYardModel", "fails", "(II)Z"⟩, 56) := ⟨⟨by decide +kernel, by decide +kernel⟩, List.mem_of_getElem? (i := 692) (by decide +kernel), List.mem_of_getElem? (i := 921) (by decide +kernel), List.mem_of_getElem? (i := 922) (by decide +kernel)⟩
theorem lw_p30 : lw_okq (⟨"GasYardModel", "number", "(II)Z"⟩, 56) := ⟨⟨by decide +kernel, by decide +kernel⟩, List.mem_of_getElem? (i := 692) (by decide +kernel), List.mem_of_getElem? (i := 925) (by decide +kernel), List.mem_of_getElem? (i := 926) (by decide +kernel)⟩
theorem lw_p31 : lw_okq (⟨"GasYardModel", "flowAt", "(I)I"⟩, 56) := ⟨⟨by decide +kernel, by decide +kernel⟩, List.mem_of_getElem? (i := 692) (by decide +kernel), List.mem_of_getElem? (i := 933) (by decide +kernel), List.mem_of_getElem? (i := 934) (by decide +kernel)⟩
def lw_privs_2 : List (MethodName × Nat) := [(⟨"GasYard$Rules", "unitsToLimit", "(LGasYard$Car;)I"⟩, 8), (⟨"GasYard", "coolCars", "()V"⟩, 18), (⟨"GasYard", "runPress", "()V"⟩, 18), (⟨"GasYard", "anyBankSensed", "()Z"⟩, 18), (⟨"GasYard$Planner", "search", "(LGasYard$Rules;I)V"⟩, 13), (⟨"GasYard$Planner", "isBetter", "(I)Z"⟩, 13), (⟨"GasYard$Planner", "keepRow", "()V"⟩, 13), (⟨"GasYard$Planner", "drawAndGoOn", "(LGasYard$Rules;II)V"⟩, 13), (⟨"GasYardModel", "isBank", "(I)Z"⟩, 56), (⟨"GasYardModel", "four", "(I)V"⟩, 56), (⟨"GasYardModel", "see", "()I"⟩, 56), (⟨"GasYardModel", "clause", "()Z"⟩, 56), (⟨"GasYardModel", "wordHere", "()I"⟩, 56), (⟨"GasYardModel", "fails", "(II)Z"⟩, 56), (⟨"GasYardModel", "number", "(II)Z"⟩, 56), (⟨"GasYardModel", "flowAt", "(I)I"⟩, 56)]
theorem lw_r2 : ∀ q ∈ lw_privs_2, lw_okq q := List.forall_mem_cons.mpr ⟨lw_p16, List.forall_mem_cons.mpr ⟨lw_p17, List.forall_mem_cons.mpr ⟨lw_p18, List.forall_mem_cons.mpr ⟨lw_p19, List.forall_mem_cons.mpr ⟨lw_p20, List.forall_mem_cons.mpr ⟨lw_p21, List.forall_mem_cons.mpr ⟨lw_p22, List.forall_mem_cons.mpr ⟨lw_p23, List.forall_mem_cons.mpr ⟨lw_p24, List.forall_mem_cons.mpr ⟨lw_p25, List.forall_mem_cons.mpr ⟨lw_p26, List.forall_mem_cons.mpr ⟨lw_p27, List.forall_mem_cons.mpr ⟨lw_p28, List.forall_mem_cons.mpr ⟨lw_p29, List.forall_mem_cons.mpr ⟨lw_p30, List.forall_mem_cons.mpr ⟨lw_p31, fun _ h => absurd h List.not_mem_nil⟩⟩⟩⟩⟩⟩⟩⟩⟩⟩⟩⟩⟩⟩⟩⟩
theorem lw_p32 : lw_okq (⟨"GasYardModel", "isCar", "(I)Z"⟩, 56) := ⟨⟨by decide +kernel, by decide +kernel⟩, List.mem_of_getElem? (i := 692) (by decide +kernel), List.mem_of_getElem? (i := 949) (by decide +kernel), List.mem_of_getElem? (i := 950) (by decide +kernel)⟩
theorem lw_p33 : lw_okq (⟨"GasYardModel", "tick", "()V"⟩, 56) := ⟨⟨by decide +kernel, by decide +kernel⟩, List.mem_of_getElem? (i := 692) (by decide +kernel), List.mem_of_getElem? (i := 961) (by decide +kernel), List.mem_of_getElem? (i := 962) (by decide +kernel)⟩
theorem lw_p34 : lw_okq (⟨"GasYardModel", "draws", "(I)V"⟩, 56) := ⟨⟨by decide +kernel, by decide +kernel⟩, List.mem_of_getElem? (i := 692) (by decide +kernel), List.mem_of_getElem? (i := 965) (by decide +kernel), List.mem_of_getElem? (i := 966) (by decide +kernel)⟩
theorem lw_p35 : lw_okq (⟨"GasYardModel", "goes", "(II)V"⟩, 56) := ⟨⟨by decide +kernel, by decide +kernel⟩, List.mem_of_getElem? (i := 692) (by decide +kernel), List.mem_of_getElem? (i := 969) (by decide +kernel), List.mem_of_getElem? (i := 970) (by decide +kernel)⟩
theorem lw_p36 : lw_okq (⟨"GasYardModel", "units", "(IIIIII)I"⟩, 56) := ⟨⟨by decide +kernel, by decide +kernel⟩, List.mem_of_getElem? (i := 692) (by decide +kernel), List.mem_of_getElem? (i := 973) (by decide +kernel), List.mem_of_getElem? (i := 974) (by decide +kernel)⟩
theorem lw_p37 : lw_okq (⟨"GasYardModel", "cooled", "(I)I"⟩, 56) := ⟨⟨by decide +kernel, by decide +kernel⟩, List.mem_of_getElem? (i := 692) (by decide +kernel), List.mem_of_getElem? (i := 977) (by decide +kernel), List.mem_of_getElem? (i := 978) (by decide +kernel)⟩
theorem lw_p38 : lw_okq (⟨"GasYardModel", "presses", "()V"⟩, 56) := ⟨⟨by decide +kernel, by decide +kernel⟩, List.mem_of_getElem? (i := 692) (by decide +kernel), List.mem_of_getElem? (i := 981) (by decide +kernel), List.mem_of_getElem? (i := 982) (by decide +kernel)⟩
theorem lw_p39 : lw_okq (⟨"GasYardModel", "runs", "(IIII)I"⟩, 56) := ⟨⟨by decide +kernel, by decide +kernel⟩, List.mem_of_getElem? (i := 692) (by decide +kernel), List.mem_of_getElem? (i := 998) (by decide +kernel), List.mem_of_getElem? (i := 999) (by decide +kernel)⟩
theorem lw_p40 : lw_okq (⟨"GasYardModel", "isBetter", "(I)Z"⟩, 56) := ⟨⟨by decide +kernel, by decide +kernel⟩, List.mem_of_getElem? (i := 692) (by decide +kernel), List.mem_of_getElem? (i := 1002) (by decide +kernel), List.mem_of_getElem? (i := 1003) (by decide +kernel)⟩
theorem lw_p41 : lw_okq (⟨"GasYardModel", "goesOn", "(I)Z"⟩, 56) := ⟨⟨by decide +kernel, by decide +kernel⟩, List.mem_of_getElem? (i := 692) (by decide +kernel), List.mem_of_getElem? (i := 1006) (by decide +kernel), List.mem_of_getElem? (i := 1007) (by decide +kernel)⟩
def lw_privs_3 : List (MethodName × Nat) := [(⟨"GasYardModel", "isCar", "(I)Z"⟩, 56), (⟨"GasYardModel", "tick", "()V"⟩, 56), (⟨"GasYardModel", "draws", "(I)V"⟩, 56), (⟨"GasYardModel", "goes", "(II)V"⟩, 56), (⟨"GasYardModel", "units", "(IIIIII)I"⟩, 56), (⟨"GasYardModel", "cooled", "(I)I"⟩, 56), (⟨"GasYardModel", "presses", "()V"⟩, 56), (⟨"GasYardModel", "runs", "(IIII)I"⟩, 56), (⟨"GasYardModel", "isBetter", "(I)Z"⟩, 56), (⟨"GasYardModel", "goesOn", "(I)Z"⟩, 56)]
theorem lw_r3 : ∀ q ∈ lw_privs_3, lw_okq q := List.forall_mem_cons.mpr ⟨lw_p32, List.forall_mem_cons.mpr ⟨lw_p33, List.forall_mem_cons.mpr ⟨lw_p34, List.forall_mem_cons.mpr ⟨lw_p35, List.forall_mem_cons.mpr ⟨lw_p36, List.forall_mem_cons.mpr ⟨lw_p37, List.forall_mem_cons.mpr ⟨lw_p38, List.forall_mem_cons.mpr ⟨lw_p39, List.forall_mem_cons.mpr ⟨lw_p40, List.forall_mem_cons.mpr ⟨lw_p41, fun _ h => absurd h List.not_mem_nil⟩⟩⟩⟩⟩⟩⟩⟩⟩⟩
def lw_privs : List (MethodName × Nat) := lw_privs_1 ++ (lw_privs_2 ++ (lw_privs_3))
def lw_tbl : List Cond := k2_sels lw_privs ++ tables_1
theorem lw_privs_ok : ∀ q ∈ lw_privs, lw_okq q := by
  show ∀ q ∈ lw_privs_1 ++ (lw_privs_2 ++ (lw_privs_3)), lw_okq q
  exact List.forall_mem_append.mpr ⟨lw_r1, List.forall_mem_append.mpr ⟨lw_r2, lw_r3⟩⟩
-- ===== end of PART A; then your names; then what follows =====
/-! THE CLAIM OUT OF ONE WALK OF THE LAW'S BODY. Your part is whole_start (and what it stands on); all else here is the same for every law, but numbers. -/
def R_law : String := "GasYardLaw"
def lw_P (b : Addr) (xs : List Int32) (args : Array Value) (s : State) : Prop := args = #[.ref b] ∧ s.IntsAt b xs ∧ xs.length ≤ 3072 ∧ (Jvm.Cond.and given_1 narrow_1).before args s = true
def lw_Q (_ : Array Value) (s : State) (o : Outcome) (t : State) : Prop := o = .returned (some (.int 1)) ∧ Framed s o t [] 600000 7302250
def lw_Z (below : List Frame) (a : Array Value) (s : State) : State → Prop := fun t => ∃ o, t.status = .running ∧ Ended t below o ∧ lw_Q a s o t
/-- the law's own end, with 1 on the stack, nothing written that was there before, its room as the claim has it -/
theorem lw_ret {p : Program} {l : Launch} {e : Env} {s : State} {m : MethodId} {below : List Frame} {meth : Method} {c : Code} {b : Nat} (hx : p.tables.exec = Jvm.exec) (hb : c.code = code) (hr : meth.sig.returnType = ret) (hlocks : meth.locks = false) {pc : Nat} {H : Heap} {ls : Array Slot} (hdg : decode code pc = .ok (.ireturn, 1)) : W p l e room_1 s m #[Value.ref b] below meth c H [] 600000 7302250 (lw_Z below #[Value.ref b] s) (F0 m pc ls [.int 1]) := by
  intro T hT X
  obtain ⟨fs, hret, hrun, hended, hW, hframe⟩ := X.leave (v := some (.int 1)) (hlocks := hlocks) (fun h => by rw [hr] at h; cases h)
  have hmeth' : T.vm.method? m = some meth := X.method'
  refine ⟨T.setFrames fs, ?_, .returned (some (.int 1)), hrun, hended, rfl, ⟨_, rfl⟩, hW, hframe⟩
  jvm_step X.here [X.here.top, hx, hb, hdg, hmeth', hr, ret, narrow_b1]
  (try refine ⟨rfl, ?_⟩); (try refine ⟨rfl, ?_⟩)
  first | (intro acts; rw [hret _ acts rfl rfl rfl]) | rw [hret _ _ rfl rfl rfl]
  exact Steps.refl _
/-- what holds at the law's entry: the machine, the code, the tables' words (any of lw_tbl by 'hts w (by decide +kernel)'), the script of L ints xs at the cell b, what the Statement gives of the start (any of its parts by flat_of_before) -/
def lw_At (p : Program) (s : State) (m : MethodId) (meth : Method) (c : Code) (b L : Nat) (xs : Nat → Int32) : Prop :=
  p.tables.exec = Jvm.exec ∧ c.code = code ∧ meth.sig.returnType = ret ∧ c.maxLocals = 4 ∧ s.vm.findClass R_law = some m.cls ∧ (∀ w ∈ lw_tbl, w.before #[Value.ref b] s = true) ∧ va_X b L xs s s.heap ∧ b < s.heap.size ∧ meth.locks = false ∧ (Jvm.Cond.and given_1 narrow_1).before #[Value.ref b] s = true
end
section
def RX0 : String := "GasYard$Bank"
def TX0 : u_T := fun k => match k with
  | 0 => ("GasYard$Bank", "volume", "I", false)
  | 1 => ("GasYard$Bank", "content", "I", false)
  | 2 => ("GasYard$Bank", "goal", "I", false)
  | 3 => ("GasYard$Bank", "drawn", "I", false)
  | 4 => ("GasYard$Bank", "pressed", "I", false)
  | _ => ("GasYard$Bank", "lost", "Z", false)
def tyX0 : Nat → FieldType := fun k => match k with
  | 0 => .int
  | 1 => .int
  | 2 => .int
  | 3 => .int
  | 4 => .int
  | _ => .boolean
abbrev wsX00 : List Cond := u_ws RX0 TX0 6
theorem nmX0 : ∀ a, a < 6 → ∀ b, b < 6 → a ≠ b → (TX0 a).2.1 ≠ (TX0 b).2.1 := by decide +kernel
theorem tyX0_ok : ∀ k, k < 6 → parseFieldDescriptor (TX0 k).2.2.1 = some (tyX0 k) := by decide +kernel
abbrev cX0_init : ByteArray := prog_2_method_1_code
def yX0_init : MethodName := ⟨RX0, "<init>", "()V"⟩
abbrev cX0_pressure : ByteArray := prog_2_method_2_code
def yX0_pressure : MethodName := ⟨RX0, "pressure", "()I"⟩
abbrev cX0_lacks : ByteArray := prog_2_method_3_code
def yX0_lacks : MethodName := ⟨RX0, "lacks", "()I"⟩
abbrev cX0_copyFrom : ByteArray := prog_2_method_4_code
def yX0_copyFrom : MethodName := ⟨RX0, "copyFrom", "(LGasYard$Bank;)V"⟩
abbrev cX0_answer : ByteArray := prog_2_method_5_code
def yX0_answer : MethodName := ⟨RX0, "answer", "(I)I"⟩
def RX1 : String := "GasYard$BookReader"
def TX1 : u_T := fun k => match k with
  | 0 => ("GasYard$BookReader", "text", "LGasYard$Tape;", true)
  | 1 => ("GasYard$BookReader", "at", "I", false)
  | 2 => ("GasYard$BookReader", "fault", "I", false)
  | _ => ("GasYard$BookReader", "seen", "[Z", true)
def tyX1 : Nat → FieldType := fun k => match k with
  | 0 => .object "GasYard$Tape"
  | 1 => .int
  | 2 => .int
  | _ => .array .boolean
abbrev wsX10 : List Cond := u_ws RX1 TX1 4
theorem nmX1 : ∀ a, a < 4 → ∀ b, b < 4 → a ≠ b → (TX1 a).2.1 ≠ (TX1 b).2.1 := by decide +kernel
theorem tyX1_ok : ∀ k, k < 4 → parseFieldDescriptor (TX1 k).2.2.1 = some (tyX1 k) := by decide +kernel
abbrev cX1_init : ByteArray := prog_3_method_1_code
def yX1_init : MethodName := ⟨RX1, "<init>", "(LGasYard$Tape;)V"⟩
abbrev cX1_readInto : ByteArray := prog_3_method_2_code
def yX1_readInto : MethodName := ⟨RX1, "readInto", "(LGasYard$Rules;)I"⟩
abbrev cX1_readClauses : ByteArray := prog_3_method_3_code
def yX1_readClauses : MethodName := ⟨RX1, "readClauses", "(LGasYard$Rules;)I"⟩
abbrev cX1_readClause : ByteArray := prog_3_method_4_code
def yX1_readClause : MethodName := ⟨RX1, "readClause", "(LGasYard$Rules;)V"⟩
abbrev cX1_readFlow : ByteArray := prog_3_method_5_code
def yX1_readFlow : MethodName := ⟨RX1, "readFlow", "(LGasYard$Rules;)V"⟩
abbrev cX1_readSetting : ByteArray := prog_3_method_6_code
def yX1_readSetting : MethodName := ⟨RX1, "readSetting", "(ILGasYard$Rules;)V"⟩
abbrev cX1_readWord : ByteArray := prog_3_method_7_code
def yX1_readWord : MethodName := ⟨RX1, "readWord", "()I"⟩
abbrev cX1_isWord : ByteArray := prog_3_method_8_code
def yX1_isWord : MethodName := ⟨RX1, "isWord", "(Ljava/lang/String;I)Z"⟩
abbrev cX1_wordText : ByteArray := prog_3_method_9_code
def yX1_wordText : MethodName := ⟨RX1, "wordText", "(I)Ljava/lang/String;"⟩
abbrev cX1_readNumber : ByteArray := prog_3_method_10_code
def yX1_readNumber : MethodName := ⟨RX1, "readNumber", "(II)I"⟩
abbrev cX1_skipBlanks : ByteArray := prog_3_method_11_code
def yX1_skipBlanks : MethodName := ⟨RX1, "skipBlanks", "()V"⟩
abbrev cX1_blame : ByteArray := prog_3_method_12_code
def yX1_blame : MethodName := ⟨RX1, "blame", "(II)V"⟩
abbrev cX1_isBetween : ByteArray := prog_3_method_13_code
def yX1_isBetween : MethodName := ⟨RX1, "isBetween", "(ICC)Z"⟩
def RX2 : String := "GasYard$Car"
def TX2 : u_T := fun k => match k with
  | 0 => ("GasYard$Car", "volume", "I", false)
  | 1 => ("GasYard$Car", "content", "I", false)
  | 2 => ("GasYard$Car", "max", "I", false)
  | 3 => ("GasYard$Car", "warmth", "I", false)
  | 4 => ("GasYard$Car", "state", "I", false)
  | 5 => ("GasYard$Car", "source", "I", false)
  | 6 => ("GasYard$Car", "cameAt", "I", false)
  | 7 => ("GasYard$Car", "wentAt", "I", false)
  | 8 => ("GasYard$Car", "drawn", "I", false)
  | _ => ("GasYard$Car", "lost", "Z", false)
def tyX2 : Nat → FieldType := fun k => match k with
  | 0 => .int
  | 1 => .int
  | 2 => .int
  | 3 => .int
  | 4 => .int
  | 5 => .int
  | 6 => .int
  | 7 => .int
  | 8 => .int
  | _ => .boolean
abbrev wsX20 : List Cond := u_ws RX2 TX2 10
theorem nmX2 : ∀ a, a < 10 → ∀ b, b < 10 → a ≠ b → (TX2 a).2.1 ≠ (TX2 b).2.1 := by decide +kernel
theorem tyX2_ok : ∀ k, k < 10 → parseFieldDescriptor (TX2 k).2.2.1 = some (tyX2 k) := by decide +kernel
abbrev cX2_init : ByteArray := prog_4_method_1_code
def yX2_init : MethodName := ⟨RX2, "<init>", "()V"⟩
abbrev cX2_comeWith : ByteArray := prog_4_method_2_code
def yX2_comeWith : MethodName := ⟨RX2, "comeWith", "(IIII)V"⟩
abbrev cX2_isHere : ByteArray := prog_4_method_3_code
def yX2_isHere : MethodName := ⟨RX2, "isHere", "()Z"⟩
abbrev cX2_pressure : ByteArray := prog_4_method_4_code
def yX2_pressure : MethodName := ⟨RX2, "pressure", "()I"⟩
abbrev cX2_lacks : ByteArray := prog_4_method_5_code
def yX2_lacks : MethodName := ⟨RX2, "lacks", "()I"⟩
abbrev cX2_answer : ByteArray := prog_4_method_6_code
def yX2_answer : MethodName := ⟨RX2, "answer", "(I)I"⟩
def RX3 : String := "GasYard$Ledger"
def TX3 : u_T := fun k => match k with
  | 0 => ("GasYard$Ledger", "told", "I", false)
  | 1 => ("GasYard$Ledger", "pressed", "I", false)
  | 2 => ("GasYard$Ledger", "coins", "I", false)
  | 3 => ("GasYard$Ledger", "leaked", "I", false)
  | _ => ("GasYard$Ledger", "found", "I", false)
def tyX3 : Nat → FieldType := fun k => match k with
  | 0 => .int
  | 1 => .int
  | 2 => .int
  | 3 => .int
  | _ => .int
abbrev wsX30 : List Cond := u_ws RX3 TX3 5
theorem nmX3 : ∀ a, a < 5 → ∀ b, b < 5 → a ≠ b → (TX3 a).2.1 ≠ (TX3 b).2.1 := by decide +kernel
theorem tyX3_ok : ∀ k, k < 5 → parseFieldDescriptor (TX3 k).2.2.1 = some (tyX3 k) := by decide +kernel
abbrev cX3_init : ByteArray := prog_5_method_1_code
def yX3_init : MethodName := ⟨RX3, "<init>", "()V"⟩
abbrev cX3_press : ByteArray := prog_5_method_2_code
def yX3_press : MethodName := ⟨RX3, "press", "(II)V"⟩
abbrev cX3_allGas : ByteArray := prog_5_method_3_code
def yX3_allGas : MethodName := ⟨RX3, "allGas", "()I"⟩
def RX4 : String := "GasYard$Planner"
def TX4 : u_T := fun k => match k with
  | 0 => ("GasYard$Planner", "guest", "LGasYard$Car;", true)
  | 1 => ("GasYard$Planner", "stock", "[LGasYard$Bank;", true)
  | 2 => ("GasYard$Planner", "stockSize", "I", false)
  | 3 => ("GasYard$Planner", "airTenths", "I", false)
  | 4 => ("GasYard$Planner", "rowLength", "I", false)
  | 5 => ("GasYard$Planner", "flowTop", "I", false)
  | 6 => ("GasYard$Planner", "row", "[I", true)
  | 7 => ("GasYard$Planner", "rowUnits", "[I", true)
  | 8 => ("GasYard$Planner", "keptRow", "[I", true)
  | 9 => ("GasYard$Planner", "keptUnits", "[I", true)
  | 10 => ("GasYard$Planner", "keptDrawn", "[I", true)
  | 11 => ("GasYard$Planner", "keptLength", "I", false)
  | _ => ("GasYard$Planner", "keptContent", "I", false)
def tyX4 : Nat → FieldType := fun k => match k with
  | 0 => .object "GasYard$Car"
  | 1 => .array (.object "GasYard$Bank")
  | 2 => .int
  | 3 => .int
  | 4 => .int
  | 5 => .int
  | 6 => .array .int
  | 7 => .array .int
  | 8 => .array .int
  | 9 => .array .int
  | 10 => .array .int
  | 11 => .int
  | _ => .int
abbrev wsX40 : List Cond := u_ws RX4 TX4 13
theorem nmX4 : ∀ a, a < 13 → ∀ b, b < 13 → a ≠ b → (TX4 a).2.1 ≠ (TX4 b).2.1 := by decide +kernel
theorem tyX4_ok : ∀ k, k < 13 → parseFieldDescriptor (TX4 k).2.2.1 = some (tyX4 k) := by decide +kernel
abbrev cX4_init : ByteArray := prog_6_method_1_code
def yX4_init : MethodName := ⟨RX4, "<init>", "()V"⟩
abbrev cX4_copyBanks : ByteArray := prog_6_method_2_code
def yX4_copyBanks : MethodName := ⟨RX4, "copyBanks", "([LGasYard$Bank;I)V"⟩
abbrev cX4_plan : ByteArray := prog_6_method_3_code
def yX4_plan : MethodName := ⟨RX4, "plan", "(LGasYard$Rules;II)I"⟩
abbrev cX4_answer : ByteArray := prog_6_method_4_code
def yX4_answer : MethodName := ⟨RX4, "answer", "(II)I"⟩
abbrev cX4_search : ByteArray := prog_6_method_5_code
def yX4_search : MethodName := ⟨RX4, "search", "(LGasYard$Rules;I)V"⟩
abbrev cX4_drawAndGoOn : ByteArray := prog_6_method_6_code
def yX4_drawAndGoOn : MethodName := ⟨RX4, "drawAndGoOn", "(LGasYard$Rules;II)V"⟩
abbrev cX4_isBetter : ByteArray := prog_6_method_7_code
def yX4_isBetter : MethodName := ⟨RX4, "isBetter", "(I)Z"⟩
abbrev cX4_keepRow : ByteArray := prog_6_method_8_code
def yX4_keepRow : MethodName := ⟨RX4, "keepRow", "()V"⟩
def RX5 : String := "GasYard$Rules"
def TX5 : u_T := fun k => match k with
  | 0 => ("GasYard$Rules", "warm", "I", false)
  | 1 => ("GasYard$Rules", "cool", "I", false)
  | 2 => ("GasYard$Rules", "limit", "I", false)
  | 3 => ("GasYard$Rules", "press", "I", false)
  | 4 => ("GasYard$Rules", "least", "I", false)
  | 5 => ("GasYard$Rules", "flowFrom", "[I", true)
  | 6 => ("GasYard$Rules", "flowUnits", "[I", true)
  | _ => ("GasYard$Rules", "flows", "I", false)
def tyX5 : Nat → FieldType := fun k => match k with
  | 0 => .int
  | 1 => .int
  | 2 => .int
  | 3 => .int
  | 4 => .int
  | 5 => .array .int
  | 6 => .array .int
  | _ => .int
abbrev wsX50 : List Cond := u_ws RX5 TX5 8
theorem nmX5 : ∀ a, a < 8 → ∀ b, b < 8 → a ≠ b → (TX5 a).2.1 ≠ (TX5 b).2.1 := by decide +kernel
theorem tyX5_ok : ∀ k, k < 8 → parseFieldDescriptor (TX5 k).2.2.1 = some (tyX5 k) := by decide +kernel
abbrev cX5_init : ByteArray := prog_7_method_1_code
def yX5_init : MethodName := ⟨RX5, "<init>", "()V"⟩
abbrev cX5_asWithout : ByteArray := prog_7_method_2_code
def yX5_asWithout : MethodName := ⟨RX5, "asWithout", "()V"⟩
abbrev cX5_addFlow : ByteArray := prog_7_method_3_code
def yX5_addFlow : MethodName := ⟨RX5, "addFlow", "(II)V"⟩
abbrev cX5_nextFrom : ByteArray := prog_7_method_4_code
def yX5_nextFrom : MethodName := ⟨RX5, "nextFrom", "()I"⟩
abbrev cX5_flowAt : ByteArray := prog_7_method_5_code
def yX5_flowAt : MethodName := ⟨RX5, "flowAt", "(I)I"⟩
abbrev cX5_mostFlow : ByteArray := prog_7_method_6_code
def yX5_mostFlow : MethodName := ⟨RX5, "mostFlow", "()I"⟩
abbrev cX5_unitsOver : ByteArray := prog_7_method_7_code
def yX5_unitsOver : MethodName := ⟨RX5, "unitsOver", "(LGasYard$Bank;LGasYard$Car;)I"⟩
abbrev cX5_unitsToEven : ByteArray := prog_7_method_8_code
def yX5_unitsToEven : MethodName := ⟨RX5, "unitsToEven", "(LGasYard$Bank;LGasYard$Car;)I"⟩
abbrev cX5_unitsToLimit : ByteArray := prog_7_method_9_code
def yX5_unitsToLimit : MethodName := ⟨RX5, "unitsToLimit", "(LGasYard$Car;)I"⟩
abbrev cX5_moveOver : ByteArray := prog_7_method_10_code
def yX5_moveOver : MethodName := ⟨RX5, "moveOver", "(LGasYard$Bank;LGasYard$Car;I)V"⟩
abbrev cX5_coolDown : ByteArray := prog_7_method_11_code
def yX5_coolDown : MethodName := ⟨RX5, "coolDown", "(LGasYard$Car;I)V"⟩
def RX6 : String := "GasYard$Tape"
def TX6 : u_T := fun k => match k with
  | 0 => ("GasYard$Tape", "bytes", "[B", true)
  | _ => ("GasYard$Tape", "length", "I", false)
def tyX6 : Nat → FieldType := fun k => match k with
  | 0 => .array .byte
  | _ => .int
abbrev wsX60 : List Cond := u_ws RX6 TX6 2
theorem nmX6 : ∀ a, a < 2 → ∀ b, b < 2 → a ≠ b → (TX6 a).2.1 ≠ (TX6 b).2.1 := by decide +kernel
theorem tyX6_ok : ∀ k, k < 2 → parseFieldDescriptor (TX6 k).2.2.1 = some (tyX6 k) := by decide +kernel
abbrev cX6_init : ByteArray := prog_8_method_1_code
def yX6_init : MethodName := ⟨RX6, "<init>", "()V"⟩
abbrev cX6_append : ByteArray := prog_8_method_2_code
def yX6_append : MethodName := ⟨RX6, "append", "(I)V"⟩
abbrev cX6_at : ByteArray := prog_8_method_3_code
def yX6_at : MethodName := ⟨RX6, "at", "(I)I"⟩
def RX7 : String := "GasYard"
def TX7 : u_T := fun k => match k with
  | 0 => ("GasYard", "rack", "[LGasYard$Bank;", true)
  | 1 => ("GasYard", "rackSize", "I", false)
  | 2 => ("GasYard", "fleet", "[LGasYard$Car;", true)
  | 3 => ("GasYard", "fleetSize", "I", false)
  | 4 => ("GasYard", "lineHead", "I", false)
  | 5 => ("GasYard", "hoseCars", "[LGasYard$Car;", true)
  | 6 => ("GasYard", "hoseCount", "I", false)
  | 7 => ("GasYard", "degrees", "I", false)
  | 8 => ("GasYard", "now", "I", false)
  | 9 => ("GasYard", "slack", "I", false)
  | 10 => ("GasYard", "prices", "[I", true)
  | 11 => ("GasYard", "shut", "[Z", true)
  | 12 => ("GasYard", "tape", "LGasYard$Tape;", true)
  | 13 => ("GasYard", "reader", "LGasYard$BookReader;", true)
  | 14 => ("GasYard", "ledger", "LGasYard$Ledger;", true)
  | 15 => ("GasYard", "planner", "LGasYard$Planner;", true)
  | 16 => ("GasYard", "rules", "LGasYard$Rules;", false)
  | _ => ("GasYard", "draft", "LGasYard$Rules;", false)
def tyX7 : Nat → FieldType := fun k => match k with
  | 0 => .array (.object "GasYard$Bank")
  | 1 => .int
  | 2 => .array (.object "GasYard$Car")
  | 3 => .int
  | 4 => .int
  | 5 => .array (.object "GasYard$Car")
  | 6 => .int
  | 7 => .int
  | 8 => .int
  | 9 => .int
  | 10 => .array .int
  | 11 => .array .boolean
  | 12 => .object "GasYard$Tape"
  | 13 => .object "GasYard$BookReader"
  | 14 => .object "GasYard$Ledger"
  | 15 => .object "GasYard$Planner"
  | 16 => .object "GasYard$Rules"
  | _ => .object "GasYard$Rules"
abbrev wsX70 : List Cond := u_ws RX7 TX7 18
theorem nmX7 : ∀ a, a < 18 → ∀ b, b < 18 → a ≠ b → (TX7 a).2.1 ≠ (TX7 b).2.1 := by decide +kernel
theorem tyX7_ok : ∀ k, k < 18 → parseFieldDescriptor (TX7 k).2.2.1 = some (tyX7 k) := by decide +kernel
abbrev cX7_init : ByteArray := prog_1_method_1_code
def yX7_init : MethodName := ⟨RX7, "<init>", "()V"⟩
abbrev cX7_bank : ByteArray := prog_1_method_2_code
def yX7_bank : MethodName := ⟨RX7, "bank", "(III)I"⟩
abbrev cX7_target : ByteArray := prog_1_method_3_code
def yX7_target : MethodName := ⟨RX7, "target", "(II)I"⟩
abbrev cX7_air : ByteArray := prog_1_method_4_code
def yX7_air : MethodName := ⟨RX7, "air", "(I)I"⟩
abbrev cX7_hoses : ByteArray := prog_1_method_5_code
def yX7_hoses : MethodName := ⟨RX7, "hoses", "(I)I"⟩
abbrev cX7_feed : ByteArray := prog_1_method_6_code
def yX7_feed : MethodName := ⟨RX7, "feed", "(IIIII)I"⟩
abbrev cX7_end : ByteArray := prog_1_method_7_code
def yX7_end : MethodName := ⟨RX7, "end", "(I)I"⟩
abbrev cX7_book : ByteArray := prog_1_method_8_code
def yX7_book : MethodName := ⟨RX7, "book", "()I"⟩
abbrev cX7_flow : ByteArray := prog_1_method_9_code
def yX7_flow : MethodName := ⟨RX7, "flow", "(I)I"⟩
abbrev cX7_price : ByteArray := prog_1_method_10_code
def yX7_price : MethodName := ⟨RX7, "price", "(II)I"⟩
abbrev cX7_closed : ByteArray := prog_1_method_11_code
def yX7_closed : MethodName := ⟨RX7, "closed", "(IZ)Z"⟩
abbrev cX7_sensor : ByteArray := prog_1_method_12_code
def yX7_sensor : MethodName := ⟨RX7, "sensor", "(IIZ)Z"⟩
abbrev cX7_car : ByteArray := prog_1_method_13_code
def yX7_car : MethodName := ⟨RX7, "car", "(III)I"⟩
abbrev cX7_pass : ByteArray := prog_1_method_14_code
def yX7_pass : MethodName := ⟨RX7, "pass", "(I)I"⟩
abbrev cX7_reading : ByteArray := prog_1_method_15_code
def yX7_reading : MethodName := ⟨RX7, "reading", "(II)I"⟩
abbrev cX7_slip : ByteArray := prog_1_method_16_code
def yX7_slip : MethodName := ⟨RX7, "slip", "(I)I"⟩
abbrev cX7_best : ByteArray := prog_1_method_17_code
def yX7_best : MethodName := ⟨RX7, "best", "(IIII)I"⟩
abbrev cX7_bestOf : ByteArray := prog_1_method_18_code
def yX7_bestOf : MethodName := ⟨RX7, "bestOf", "(II)I"⟩
abbrev cX7_banks : ByteArray := prog_1_method_19_code
def yX7_banks : MethodName := ⟨RX7, "banks", "(II)I"⟩
abbrev cX7_cars : ByteArray := prog_1_method_20_code
def yX7_cars : MethodName := ⟨RX7, "cars", "(II)I"⟩
abbrev cX7_count : ByteArray := prog_1_method_21_code
def yX7_count : MethodName := ⟨RX7, "count", "(I)I"⟩
abbrev cX7_within : ByteArray := prog_1_method_22_code
def yX7_within : MethodName := ⟨RX7, "within", "(III)Z"⟩
abbrev cX7_carAsTold : ByteArray := prog_1_method_23_code
def yX7_carAsTold : MethodName := ⟨RX7, "carAsTold", "(III)Z"⟩
abbrev cX7_airTenths : ByteArray := prog_1_method_24_code
def yX7_airTenths : MethodName := ⟨RX7, "airTenths", "()I"⟩
abbrev cX7_bankAt : ByteArray := prog_1_method_25_code
def yX7_bankAt : MethodName := ⟨RX7, "bankAt", "(I)LGasYard$Bank;"⟩
abbrev cX7_carAt : ByteArray := prog_1_method_26_code
def yX7_carAt : MethodName := ⟨RX7, "carAt", "(I)LGasYard$Car;"⟩
abbrev cX7_anyBankSensed : ByteArray := prog_1_method_27_code
def yX7_anyBankSensed : MethodName := ⟨RX7, "anyBankSensed", "()Z"⟩
abbrev cX7_loseOfBank : ByteArray := prog_1_method_28_code
def yX7_loseOfBank : MethodName := ⟨RX7, "loseOfBank", "(LGasYard$Bank;Z)Z"⟩
abbrev cX7_loseOfCar : ByteArray := prog_1_method_29_code
def yX7_loseOfCar : MethodName := ⟨RX7, "loseOfCar", "(LGasYard$Car;Z)Z"⟩
abbrev cX7_takeFromLine : ByteArray := prog_1_method_30_code
def yX7_takeFromLine : MethodName := ⟨RX7, "takeFromLine", "()V"⟩
abbrev cX7_serveHoses : ByteArray := prog_1_method_31_code
def yX7_serveHoses : MethodName := ⟨RX7, "serveHoses", "()V"⟩
abbrev cX7_drawsOn : ByteArray := prog_1_method_32_code
def yX7_drawsOn : MethodName := ⟨RX7, "drawsOn", "(LGasYard$Car;)Z"⟩
abbrev cX7_coolCars : ByteArray := prog_1_method_33_code
def yX7_coolCars : MethodName := ⟨RX7, "coolCars", "()V"⟩
abbrev cX7_runPress : ByteArray := prog_1_method_34_code
def yX7_runPress : MethodName := ⟨RX7, "runPress", "()V"⟩
def RX8 : String := "GasYardModel"
def TX8 : u_T := fun k => match k with
  | 0 => ("GasYardModel", "now", "I", false)
  | 1 => ("GasYardModel", "air", "I", false)
  | 2 => ("GasYardModel", "banks", "I", false)
  | 3 => ("GasYardModel", "volume", "[I", true)
  | 4 => ("GasYardModel", "content", "[I", true)
  | 5 => ("GasYardModel", "target", "[I", true)
  | 6 => ("GasYardModel", "drawn", "[I", true)
  | 7 => ("GasYardModel", "pressedInto", "[I", true)
  | 8 => ("GasYardModel", "isLost", "[Z", true)
  | 9 => ("GasYardModel", "hoses", "I", false)
  | 10 => ("GasYardModel", "atHose", "[I", true)
  | 11 => ("GasYardModel", "price", "[I", true)
  | 12 => ("GasYardModel", "isClosed", "[Z", true)
  | 13 => ("GasYardModel", "cars", "I", false)
  | 14 => ("GasYardModel", "carVolume", "[I", true)
  | 15 => ("GasYardModel", "carContent", "[I", true)
  | 16 => ("GasYardModel", "carMax", "[I", true)
  | 17 => ("GasYardModel", "carState", "[I", true)
  | 18 => ("GasYardModel", "carWarmth", "[I", true)
  | 19 => ("GasYardModel", "carBank", "[I", true)
  | 20 => ("GasYardModel", "carCame", "[I", true)
  | 21 => ("GasYardModel", "carWent", "[I", true)
  | 22 => ("GasYardModel", "carDrew", "[I", true)
  | 23 => ("GasYardModel", "carLost", "[Z", true)
  | 24 => ("GasYardModel", "told", "I", false)
  | 25 => ("GasYardModel", "pressed", "I", false)
  | 26 => ("GasYardModel", "coins", "I", false)
  | 27 => ("GasYardModel", "leaked", "I", false)
  | 28 => ("GasYardModel", "found", "I", false)
  | 29 => ("GasYardModel", "slip", "I", false)
  | 30 => ("GasYardModel", "tape", "[B", true)
  | 31 => ("GasYardModel", "taped", "I", false)
  | 32 => ("GasYardModel", "next", "I", false)
  | 33 => ("GasYardModel", "fault", "I", false)
  | 34 => ("GasYardModel", "seen", "I", false)
  | 35 => ("GasYardModel", "said", "I", false)
  | 36 => ("GasYardModel", "flows", "I", false)
  | 37 => ("GasYardModel", "flowFrom", "[I", true)
  | 38 => ("GasYardModel", "flowUnits", "[I", true)
  | 39 => ("GasYardModel", "readFlows", "I", false)
  | 40 => ("GasYardModel", "readFrom", "[I", true)
  | 41 => ("GasYardModel", "readUnits", "[I", true)
  | 42 => ("GasYardModel", "rule", "[I", true)
  | 43 => ("GasYardModel", "read", "[I", true)
  | 44 => ("GasYardModel", "words", "[B", true)
  | 45 => ("GasYardModel", "wordSize", "I", false)
  | 46 => ("GasYardModel", "hasBest", "Z", false)
  | 47 => ("GasYardModel", "bestTicks", "I", false)
  | 48 => ("GasYardModel", "bestContent", "I", false)
  | 49 => ("GasYardModel", "bestBank", "[I", true)
  | 50 => ("GasYardModel", "bestUnits", "[I", true)
  | 51 => ("GasYardModel", "bestDrawn", "[I", true)
  | 52 => ("GasYardModel", "tryBank", "[I", true)
  | 53 => ("GasYardModel", "tryUnits", "[I", true)
  | 54 => ("GasYardModel", "tryDrawn", "[I", true)
  | _ => ("GasYardModel", "tryContent", "[I", true)
def tyX8 : Nat → FieldType := fun k => match k with
  | 0 => .int
  | 1 => .int
  | 2 => .int
  | 3 => .array .int
  | 4 => .array .int
  | 5 => .array .int
  | 6 => .array .int
  | 7 => .array .int
  | 8 => .array .boolean
  | 9 => .int
  | 10 => .array .int
  | 11 => .array .int
  | 12 => .array .boolean
  | 13 => .int
  | 14 => .array .int
  | 15 => .array .int
  | 16 => .array .int
  | 17 => .array .int
  | 18 => .array .int
  | 19 => .array .int
  | 20 => .array .int
  | 21 => .array .int
  | 22 => .array .int
  | 23 => .array .boolean
  | 24 => .int
  | 25 => .int
  | 26 => .int
  | 27 => .int
  | 28 => .int
  | 29 => .int
  | 30 => .array .byte
  | 31 => .int
  | 32 => .int
  | 33 => .int
  | 34 => .int
  | 35 => .int
  | 36 => .int
  | 37 => .array .int
  | 38 => .array .int
  | 39 => .int
  | 40 => .array .int
  | 41 => .array .int
  | 42 => .array .int
  | 43 => .array .int
  | 44 => .array .byte
  | 45 => .int
  | 46 => .boolean
  | 47 => .int
  | 48 => .int
  | 49 => .array .int
  | 50 => .array .int
  | 51 => .array .int
  | 52 => .array .int
  | 53 => .array .int
  | 54 => .array .int
  | _ => .array .int
abbrev wsX80 : List Cond := u_ws RX8 TX8 56
theorem nmX8 : ∀ a, a < 56 → ∀ b, b < 56 → a ≠ b → (TX8 a).2.1 ≠ (TX8 b).2.1 := by decide +kernel
theorem tyX8_ok : ∀ k, k < 56 → parseFieldDescriptor (TX8 k).2.2.1 = some (tyX8 k) := by decide +kernel
abbrev cX8_init : ByteArray := prog_10_method_1_code
def yX8_init : MethodName := ⟨RX8, "<init>", "()V"⟩
abbrev cX8_in : ByteArray := prog_10_method_2_code
def yX8_in : MethodName := ⟨RX8, "in", "(III)Z"⟩
abbrev cX8_isBank : ByteArray := prog_10_method_3_code
def yX8_isBank : MethodName := ⟨RX8, "isBank", "(I)Z"⟩
abbrev cX8_bank : ByteArray := prog_10_method_4_code
def yX8_bank : MethodName := ⟨RX8, "bank", "(III)I"⟩
abbrev cX8_target : ByteArray := prog_10_method_5_code
def yX8_target : MethodName := ⟨RX8, "target", "(II)I"⟩
abbrev cX8_air : ByteArray := prog_10_method_6_code
def yX8_air : MethodName := ⟨RX8, "air", "(I)I"⟩
abbrev cX8_hoses : ByteArray := prog_10_method_7_code
def yX8_hoses : MethodName := ⟨RX8, "hoses", "(I)I"⟩
abbrev cX8_without : ByteArray := prog_10_method_8_code
def yX8_without : MethodName := ⟨RX8, "without", "(I)I"⟩
abbrev cX8_four : ByteArray := prog_10_method_9_code
def yX8_four : MethodName := ⟨RX8, "four", "(I)V"⟩
abbrev cX8_feed : ByteArray := prog_10_method_10_code
def yX8_feed : MethodName := ⟨RX8, "feed", "(IIIII)I"⟩
abbrev cX8_end : ByteArray := prog_10_method_11_code
def yX8_end : MethodName := ⟨RX8, "end", "(I)I"⟩
abbrev cX8_fails : ByteArray := prog_10_method_12_code
def yX8_fails : MethodName := ⟨RX8, "fails", "(II)Z"⟩
abbrev cX8_see : ByteArray := prog_10_method_13_code
def yX8_see : MethodName := ⟨RX8, "see", "()I"⟩
abbrev cX8_wordHere : ByteArray := prog_10_method_14_code
def yX8_wordHere : MethodName := ⟨RX8, "wordHere", "()I"⟩
abbrev cX8_number : ByteArray := prog_10_method_15_code
def yX8_number : MethodName := ⟨RX8, "number", "(II)Z"⟩
abbrev cX8_clause : ByteArray := prog_10_method_16_code
def yX8_clause : MethodName := ⟨RX8, "clause", "()Z"⟩
abbrev cX8_book : ByteArray := prog_10_method_17_code
def yX8_book : MethodName := ⟨RX8, "book", "()I"⟩
abbrev cX8_flowAt : ByteArray := prog_10_method_18_code
def yX8_flowAt : MethodName := ⟨RX8, "flowAt", "(I)I"⟩
abbrev cX8_flow : ByteArray := prog_10_method_19_code
def yX8_flow : MethodName := ⟨RX8, "flow", "(I)I"⟩
abbrev cX8_price : ByteArray := prog_10_method_20_code
def yX8_price : MethodName := ⟨RX8, "price", "(II)I"⟩
abbrev cX8_closed : ByteArray := prog_10_method_21_code
def yX8_closed : MethodName := ⟨RX8, "closed", "(IZ)Z"⟩
abbrev cX8_isCar : ByteArray := prog_10_method_22_code
def yX8_isCar : MethodName := ⟨RX8, "isCar", "(I)Z"⟩
abbrev cX8_sensor : ByteArray := prog_10_method_23_code
def yX8_sensor : MethodName := ⟨RX8, "sensor", "(IIZ)Z"⟩
abbrev cX8_car : ByteArray := prog_10_method_24_code
def yX8_car : MethodName := ⟨RX8, "car", "(III)I"⟩
abbrev cX8_units : ByteArray := prog_10_method_25_code
def yX8_units : MethodName := ⟨RX8, "units", "(IIIIII)I"⟩
abbrev cX8_cooled : ByteArray := prog_10_method_26_code
def yX8_cooled : MethodName := ⟨RX8, "cooled", "(I)I"⟩
abbrev cX8_goes : ByteArray := prog_10_method_27_code
def yX8_goes : MethodName := ⟨RX8, "goes", "(II)V"⟩
abbrev cX8_draws : ByteArray := prog_10_method_28_code
def yX8_draws : MethodName := ⟨RX8, "draws", "(I)V"⟩
abbrev cX8_presses : ByteArray := prog_10_method_29_code
def yX8_presses : MethodName := ⟨RX8, "presses", "()V"⟩
abbrev cX8_tick : ByteArray := prog_10_method_30_code
def yX8_tick : MethodName := ⟨RX8, "tick", "()V"⟩
abbrev cX8_pass : ByteArray := prog_10_method_31_code
def yX8_pass : MethodName := ⟨RX8, "pass", "(I)I"⟩
abbrev cX8_reading : ByteArray := prog_10_method_32_code
def yX8_reading : MethodName := ⟨RX8, "reading", "(II)I"⟩
abbrev cX8_slip : ByteArray := prog_10_method_33_code
def yX8_slip : MethodName := ⟨RX8, "slip", "(I)I"⟩
abbrev cX8_isBetter : ByteArray := prog_10_method_34_code
def yX8_isBetter : MethodName := ⟨RX8, "isBetter", "(I)Z"⟩
abbrev cX8_runs : ByteArray := prog_10_method_35_code
def yX8_runs : MethodName := ⟨RX8, "runs", "(IIII)I"⟩
abbrev cX8_goesOn : ByteArray := prog_10_method_36_code
def yX8_goesOn : MethodName := ⟨RX8, "goesOn", "(I)Z"⟩
abbrev cX8_best : ByteArray := prog_10_method_37_code
def yX8_best : MethodName := ⟨RX8, "best", "(IIII)I"⟩
abbrev cX8_bestOf : ByteArray := prog_10_method_38_code
def yX8_bestOf : MethodName := ⟨RX8, "bestOf", "(II)I"⟩
abbrev cX8_banks : ByteArray := prog_10_method_39_code
def yX8_banks : MethodName := ⟨RX8, "banks", "(II)I"⟩
abbrev cX8_cars : ByteArray := prog_10_method_40_code
def yX8_cars : MethodName := ⟨RX8, "cars", "(II)I"⟩
abbrev cX8_count : ByteArray := prog_10_method_41_code
def yX8_count : MethodName := ⟨RX8, "count", "(I)I"⟩
def RJ9 : String := "java/lang/Math"
def TJ9 : u_T := fun k => match k with
  | _ => ("", "", "", false)
def tyJ9 : Nat → FieldType := fun k => match k with
  | _ => .int
abbrev wsJ90 : List Cond := u_ws RJ9 TJ9 0
theorem nmJ9 : ∀ a, a < 0 → ∀ b, b < 0 → a ≠ b → (TJ9 a).2.1 ≠ (TJ9 b).2.1 := by decide +kernel
theorem tyJ9_ok : ∀ k, k < 0 → parseFieldDescriptor (TJ9 k).2.2.1 = some (tyJ9 k) := by decide +kernel
abbrev cJ9_abs_0f7a4 : ByteArray := prog_11_method_59_code
def yJ9_abs_0f7a4 : MethodName := ⟨RJ9, "abs", "(I)I"⟩
abbrev cJ9_max_7cf53 : ByteArray := prog_11_method_65_code
def yJ9_max_7cf53 : MethodName := ⟨RJ9, "max", "(II)I"⟩
abbrev cJ9_min_7cf53 : ByteArray := prog_11_method_69_code
def yJ9_min_7cf53 : MethodName := ⟨RJ9, "min", "(II)I"⟩
def RJ0 : String := "java/lang/String"
def TJ0 : u_T := fun k => match k with
  | _ => ("", "", "", false)
def tyJ0 : Nat → FieldType := fun k => match k with
  | _ => .int
abbrev wsJ00 : List Cond := u_ws RJ0 TJ0 0
theorem nmJ0 : ∀ a, a < 0 → ∀ b, b < 0 → a ≠ b → (TJ0 a).2.1 ≠ (TJ0 b).2.1 := by decide +kernel
theorem tyJ0_ok : ∀ k, k < 0 → parseFieldDescriptor (TJ0 k).2.2.1 = some (tyJ0 k) := by decide +kernel
abbrev cJ0_length_8abf5 : ByteArray := prog_12_method_54_code
def yJ0_length_8abf5 : MethodName := ⟨RJ0, "length", "()I"⟩
abbrev cJ0_charAt_5068e : ByteArray := prog_12_method_56_code
def yJ0_charAt_5068e : MethodName := ⟨RJ0, "charAt", "(I)C"⟩
abbrev cJ0_coder_7d493 : ByteArray := prog_12_method_152_code
def yJ0_coder_7d493 : MethodName := ⟨RJ0, "coder", "()B"⟩
abbrev cJ0_isLatin1_aae02 : ByteArray := prog_12_method_154_code
def yJ0_isLatin1_aae02 : MethodName := ⟨RJ0, "isLatin1", "()Z"⟩
abbrev cJ0_checkIndex_df160 : ByteArray := prog_12_method_155_code
def yJ0_checkIndex_df160 : MethodName := ⟨RJ0, "checkIndex", "(II)V"⟩
def RJ1 : String := "java/lang/StringLatin1"
def TJ1 : u_T := fun k => match k with
  | _ => ("", "", "", false)
def tyJ1 : Nat → FieldType := fun k => match k with
  | _ => .int
abbrev wsJ10 : List Cond := u_ws RJ1 TJ1 0
theorem nmJ1 : ∀ a, a < 0 → ∀ b, b < 0 → a ≠ b → (TJ1 a).2.1 ≠ (TJ1 b).2.1 := by decide +kernel
theorem tyJ1_ok : ∀ k, k < 0 → parseFieldDescriptor (TJ1 k).2.2.1 = some (tyJ1 k) := by decide +kernel
abbrev cJ1_charAt_3b067 : ByteArray := prog_13_method_2_code
def yJ1_charAt_3b067 : MethodName := ⟨RJ1, "charAt", "([BI)C"⟩
def RJ2 : String := "java/lang/StringUTF16"
def TJ2 : u_T := fun k => match k with
  | _ => ("", "", "", false)
def tyJ2 : Nat → FieldType := fun k => match k with
  | _ => .int
abbrev wsJ20 : List Cond := u_ws RJ2 TJ2 0
theorem nmJ2 : ∀ a, a < 0 → ∀ b, b < 0 → a ≠ b → (TJ2 a).2.1 ≠ (TJ2 b).2.1 := by decide +kernel
theorem tyJ2_ok : ∀ k, k < 0 → parseFieldDescriptor (TJ2 k).2.2.1 = some (tyJ2 k) := by decide +kernel
abbrev cJ2_getChar_3b067 : ByteArray := prog_14_method_5_code
def yJ2_getChar_3b067 : MethodName := ⟨RJ2, "getChar", "([BI)C"⟩
abbrev cJ2_length_9d52b : ByteArray := prog_14_method_6_code
def yJ2_length_9d52b : MethodName := ⟨RJ2, "length", "([B)I"⟩
abbrev cJ2_charAt_3b067 : ByteArray := prog_14_method_83_code
def yJ2_charAt_3b067 : MethodName := ⟨RJ2, "charAt", "([BI)C"⟩
abbrev cJ2_checkIndex_2214a : ByteArray := prog_14_method_91_code
def yJ2_checkIndex_2214a : MethodName := ⟨RJ2, "checkIndex", "(I[B)V"⟩
def RJ3 : String := "jdk/internal/util/Preconditions"
def TJ3 : u_T := fun k => match k with
  | _ => ("", "", "", false)
def tyJ3 : Nat → FieldType := fun k => match k with
  | _ => .int
abbrev wsJ30 : List Cond := u_ws RJ3 TJ3 0
theorem nmJ3 : ∀ a, a < 0 → ∀ b, b < 0 → a ≠ b → (TJ3 a).2.1 ≠ (TJ3 b).2.1 := by decide +kernel
theorem tyJ3_ok : ∀ k, k < 0 → parseFieldDescriptor (TJ3 k).2.2.1 = some (tyJ3 k) := by decide +kernel
abbrev cJ3_checkIndex_8e157 : ByteArray := prog_15_method_11_code
def yJ3_checkIndex_8e157 : MethodName := ⟨RJ3, "checkIndex", "(IILjava/util/function/BiFunction;)I"⟩
def RL : String := "GasYardLaw"
abbrev cL_law : ByteArray := code
def yL_law : MethodName := ⟨RL, "law", "([I)Z"⟩
end
section
def gG : List Cond := lw_tbl.filter goodWord
theorem gG_mem {w : Cond} (h : w ∈ tables_1) (g : goodWord w = true) : w ∈ gG := List.mem_filter.mpr ⟨List.mem_append_right _ h, g⟩
theorem gG_sel {w : Cond} (h : w ∈ k2_sels lw_privs) (g : goodWord w = true) : w ∈ gG := List.mem_filter.mpr ⟨List.mem_append_left _ h, g⟩
theorem gG_good {w : Cond} (h : w ∈ gG) : (w.onTables && w.keeps) = true ∨ ∃ ty, w = .arrayClass ty := good_of_word (List.mem_filter.mp h).2
theorem gG_idx {ws : List Cond} (ps : List Nat) (hp : ws = ps.filterMap (fun i => tables_1[i]?)) (hg : ws.all goodWord = true) : ∀ w ∈ ws, w ∈ gG := by
  intro w hw
  refine gG_mem ?_ (List.all_eq_true.mp hg w hw)
  rw [hp] at hw
  obtain ⟨i, -, hi⟩ := List.mem_filterMap.mp hw
  exact List.mem_of_getElem? hi
theorem gm_0 : (Jvm.Cond.initialized "GasYardLaw") ∈ gG := gG_mem (List.mem_of_getElem? (i := 0) (by decide +kernel)) (by decide +kernel)
theorem gm_1 : (Jvm.Cond.initialized "GasYard") ∈ gG := gG_mem (List.mem_of_getElem? (i := 1) (by decide +kernel)) (by decide +kernel)
theorem gm_2 : (Jvm.Cond.initialized "GasYard$Tape") ∈ gG := gG_mem (List.mem_of_getElem? (i := 2) (by decide +kernel)) (by decide +kernel)
theorem gm_3 : (Jvm.Cond.initialized "GasYard$BookReader") ∈ gG := gG_mem (List.mem_of_getElem? (i := 3) (by decide +kernel)) (by decide +kernel)
theorem gm_4 : (Jvm.Cond.initialized "GasYard$Ledger") ∈ gG := gG_mem (List.mem_of_getElem? (i := 4) (by decide +kernel)) (by decide +kernel)
theorem gm_5 : (Jvm.Cond.initialized "GasYard$Planner") ∈ gG := gG_mem (List.mem_of_getElem? (i := 5) (by decide +kernel)) (by decide +kernel)
theorem gm_6 : (Jvm.Cond.initialized "GasYard$Car") ∈ gG := gG_mem (List.mem_of_getElem? (i := 6) (by decide +kernel)) (by decide +kernel)
theorem gm_7 : (Jvm.Cond.initialized "GasYard$Bank") ∈ gG := gG_mem (List.mem_of_getElem? (i := 7) (by decide +kernel)) (by decide +kernel)
theorem gm_8 : (Jvm.Cond.initialized "GasYard$Rules") ∈ gG := gG_mem (List.mem_of_getElem? (i := 8) (by decide +kernel)) (by decide +kernel)
theorem gm_9 : (Jvm.Cond.initialized "GasYardModel") ∈ gG := gG_mem (List.mem_of_getElem? (i := 9) (by decide +kernel)) (by decide +kernel)
theorem gm_10 : (Jvm.Cond.initialized "java/lang/String") ∈ gG := gG_mem (List.mem_of_getElem? (i := 10) (by decide +kernel)) (by decide +kernel)
theorem gm_11 : (Jvm.Cond.initialized "java/lang/StringLatin1") ∈ gG := gG_mem (List.mem_of_getElem? (i := 11) (by decide +kernel)) (by decide +kernel)
theorem gm_12 : (Jvm.Cond.initialized "jdk/internal/util/Preconditions") ∈ gG := gG_mem (List.mem_of_getElem? (i := 12) (by decide +kernel)) (by decide +kernel)
theorem gm_13 : (Jvm.Cond.initialized "java/lang/StringUTF16") ∈ gG := gG_mem (List.mem_of_getElem? (i := 13) (by decide +kernel)) (by decide +kernel)
theorem gm_14 : (Jvm.Cond.initialized "java/lang/Math") ∈ gG := gG_mem (List.mem_of_getElem? (i := 14) (by decide +kernel)) (by decide +kernel)
theorem gm_15 : (Jvm.Cond.classLink "GasYardLaw" (7 : Nat) "GasYard") ∈ gG := gG_mem (List.mem_of_getElem? (i := 15) (by decide +kernel)) (by decide +kernel)
theorem gm_16 : (Jvm.Cond.instantiable "GasYard" (18 : Nat)) ∈ gG := gG_mem (List.mem_of_getElem? (i := 16) (by decide +kernel)) (by decide +kernel)
theorem gm_17 : (Jvm.Cond.methodLink "GasYardLaw" (9 : Nat) ({ cls := "GasYard", name := "<init>", desc := "()V" } : Jvm.MethodName)) ∈ gG := gG_mem (List.mem_of_getElem? (i := 17) (by decide +kernel)) (by decide +kernel)
theorem gm_18 : (Jvm.Cond.instanceMethod ({ cls := "GasYard", name := "<init>", desc := "()V" } : Jvm.MethodName)) ∈ gG := gG_mem (List.mem_of_getElem? (i := 18) (by decide +kernel)) (by decide +kernel)
set_option maxRecDepth 20000 in
theorem gm_19 : (Jvm.Cond.code ({ cls := "GasYard", name := "<init>", desc := "()V" } : Jvm.MethodName) prog_1_method_1_code (2 : Nat) (Option.none : Option Jvm.ClassFile.FieldType)) ∈ gG := gG_mem (List.mem_of_getElem? (i := 19) (rfl)) (by decide +kernel)
theorem gm_20 : (Jvm.Cond.methodLink "GasYard" (1 : Nat) ({ cls := "java/lang/Object", name := "<init>", desc := "()V" } : Jvm.MethodName)) ∈ gG := gG_mem (List.mem_of_getElem? (i := 20) (by decide +kernel)) (by decide +kernel)
theorem gm_21 : (Jvm.Cond.instanceMethod ({ cls := "java/lang/Object", name := "<init>", desc := "()V" } : Jvm.MethodName)) ∈ gG := gG_mem (List.mem_of_getElem? (i := 21) (by decide +kernel)) (by decide +kernel)
set_option maxRecDepth 20000 in
theorem gm_22 : (Jvm.Cond.code ({ cls := "java/lang/Object", name := "<init>", desc := "()V" } : Jvm.MethodName) object_method_1_code (1 : Nat) (Option.none : Option Jvm.ClassFile.FieldType)) ∈ gG := gG_mem (List.mem_of_getElem? (i := 22) (rfl)) (by decide +kernel)
theorem gm_23 : (Jvm.Cond.classLink "GasYard" (9 : Nat) "GasYard$Bank") ∈ gG := gG_mem (List.mem_of_getElem? (i := 23) (by decide +kernel)) (by decide +kernel)
theorem gm_25 : (Jvm.Cond.classLink "GasYard" (19 : Nat) "GasYard$Car") ∈ gG := gG_mem (List.mem_of_getElem? (i := 25) (by decide +kernel)) (by decide +kernel)
theorem gm_27 : (Jvm.Cond.classLink "GasYard" (54 : Nat) "GasYard$Tape") ∈ gG := gG_mem (List.mem_of_getElem? (i := 27) (by decide +kernel)) (by decide +kernel)
theorem gm_28 : (Jvm.Cond.instantiable "GasYard$Tape" (2 : Nat)) ∈ gG := gG_mem (List.mem_of_getElem? (i := 28) (by decide +kernel)) (by decide +kernel)
theorem gm_30 : (Jvm.Cond.instanceMethod ({ cls := "GasYard$Tape", name := "<init>", desc := "()V" } : Jvm.MethodName)) ∈ gG := gG_mem (List.mem_of_getElem? (i := 30) (by decide +kernel)) (by decide +kernel)
set_option maxRecDepth 20000 in
theorem gm_31 : (Jvm.Cond.code ({ cls := "GasYard$Tape", name := "<init>", desc := "()V" } : Jvm.MethodName) prog_8_method_1_code (1 : Nat) (Option.none : Option Jvm.ClassFile.FieldType)) ∈ gG := gG_mem (List.mem_of_getElem? (i := 31) (rfl)) (by decide +kernel)
theorem gm_32 : (Jvm.Cond.methodLink "GasYard$Tape" (3 : Nat) ({ cls := "java/lang/Object", name := "<init>", desc := "()V" } : Jvm.MethodName)) ∈ gG := gG_mem (List.mem_of_getElem? (i := 32) (by decide +kernel)) (by decide +kernel)
theorem gm_33 : (Jvm.Cond.fieldLink "GasYard$Tape" (9 : Nat) "GasYard$Tape" "bytes" "[B") ∈ gG := gG_mem (List.mem_of_getElem? (i := 33) (by decide +kernel)) (by decide +kernel)
theorem gm_34 : (Jvm.Cond.fieldLink "GasYard$Tape" (15 : Nat) "GasYard$Tape" "length" "I") ∈ gG := gG_mem (List.mem_of_getElem? (i := 34) (by decide +kernel)) (by decide +kernel)
theorem gm_35 : (Jvm.Cond.fieldLink "GasYard" (115 : Nat) "GasYard$Tape" "length" "I") ∈ gG := gG_mem (List.mem_of_getElem? (i := 35) (by decide +kernel)) (by decide +kernel)
theorem gm_41 : (Jvm.Cond.arrayClass Jvm.ClassFile.FieldType.int) ∈ gG := gG_mem (List.mem_of_getElem? (i := 41) (by decide +kernel)) (by decide +kernel)
theorem gm_42 : (Jvm.Cond.arrayClass Jvm.ClassFile.FieldType.boolean) ∈ gG := gG_mem (List.mem_of_getElem? (i := 42) (by decide +kernel)) (by decide +kernel)
theorem gm_43 : (Jvm.Cond.arrayClass Jvm.ClassFile.FieldType.byte) ∈ gG := gG_mem (List.mem_of_getElem? (i := 43) (by decide +kernel)) (by decide +kernel)
theorem gm_44 : (Jvm.Cond.classLink "GasYard" (61 : Nat) "GasYard$BookReader") ∈ gG := gG_mem (List.mem_of_getElem? (i := 44) (by decide +kernel)) (by decide +kernel)
theorem gm_45 : (Jvm.Cond.instantiable "GasYard$BookReader" (4 : Nat)) ∈ gG := gG_mem (List.mem_of_getElem? (i := 45) (by decide +kernel)) (by decide +kernel)
theorem gm_46 : (Jvm.Cond.methodLink "GasYard" (63 : Nat) ({ cls := "GasYard$BookReader", name := "<init>", desc := "(LGasYard$Tape;)V" } : Jvm.MethodName)) ∈ gG := gG_mem (List.mem_of_getElem? (i := 46) (by decide +kernel)) (by decide +kernel)
theorem gm_47 : (Jvm.Cond.instanceMethod ({ cls := "GasYard$BookReader", name := "<init>", desc := "(LGasYard$Tape;)V" } : Jvm.MethodName)) ∈ gG := gG_mem (List.mem_of_getElem? (i := 47) (by decide +kernel)) (by decide +kernel)
set_option maxRecDepth 20000 in
theorem gm_48 : (Jvm.Cond.code ({ cls := "GasYard$BookReader", name := "<init>", desc := "(LGasYard$Tape;)V" } : Jvm.MethodName) prog_3_method_1_code (2 : Nat) (Option.none : Option Jvm.ClassFile.FieldType)) ∈ gG := gG_mem (List.mem_of_getElem? (i := 48) (rfl)) (by decide +kernel)
theorem gm_49 : (Jvm.Cond.methodLink "GasYard$BookReader" (3 : Nat) ({ cls := "java/lang/Object", name := "<init>", desc := "()V" } : Jvm.MethodName)) ∈ gG := gG_mem (List.mem_of_getElem? (i := 49) (by decide +kernel)) (by decide +kernel)
theorem gm_50 : (Jvm.Cond.fieldLink "GasYard$BookReader" (22 : Nat) "GasYard$BookReader" "text" "LGasYard$Tape;") ∈ gG := gG_mem (List.mem_of_getElem? (i := 50) (by decide +kernel)) (by decide +kernel)
theorem gm_51 : (Jvm.Cond.fieldLink "GasYard$BookReader" (9 : Nat) "GasYard$BookReader" "at" "I") ∈ gG := gG_mem (List.mem_of_getElem? (i := 51) (by decide +kernel)) (by decide +kernel)
theorem gm_52 : (Jvm.Cond.fieldLink "GasYard$BookReader" (15 : Nat) "GasYard$BookReader" "fault" "I") ∈ gG := gG_mem (List.mem_of_getElem? (i := 52) (by decide +kernel)) (by decide +kernel)
theorem gm_53 : (Jvm.Cond.fieldLink "GasYard$BookReader" (18 : Nat) "GasYard$BookReader" "seen" "[Z") ∈ gG := gG_mem (List.mem_of_getElem? (i := 53) (by decide +kernel)) (by decide +kernel)
theorem gm_63 : (Jvm.Cond.classLink "GasYard" (70 : Nat) "GasYard$Ledger") ∈ gG := gG_mem (List.mem_of_getElem? (i := 63) (by decide +kernel)) (by decide +kernel)
theorem gm_64 : (Jvm.Cond.instantiable "GasYard$Ledger" (5 : Nat)) ∈ gG := gG_mem (List.mem_of_getElem? (i := 64) (by decide +kernel)) (by decide +kernel)
theorem gm_66 : (Jvm.Cond.instanceMethod ({ cls := "GasYard$Ledger", name := "<init>", desc := "()V" } : Jvm.MethodName)) ∈ gG := gG_mem (List.mem_of_getElem? (i := 66) (by decide +kernel)) (by decide +kernel)
set_option maxRecDepth 20000 in
theorem gm_67 : (Jvm.Cond.code ({ cls := "GasYard$Ledger", name := "<init>", desc := "()V" } : Jvm.MethodName) prog_5_method_1_code (1 : Nat) (Option.none : Option Jvm.ClassFile.FieldType)) ∈ gG := gG_mem (List.mem_of_getElem? (i := 67) (rfl)) (by decide +kernel)
theorem gm_68 : (Jvm.Cond.methodLink "GasYard$Ledger" (1 : Nat) ({ cls := "java/lang/Object", name := "<init>", desc := "()V" } : Jvm.MethodName)) ∈ gG := gG_mem (List.mem_of_getElem? (i := 68) (by decide +kernel)) (by decide +kernel)
theorem gm_69 : (Jvm.Cond.fieldLink "GasYard$Ledger" (7 : Nat) "GasYard$Ledger" "told" "I") ∈ gG := gG_mem (List.mem_of_getElem? (i := 69) (by decide +kernel)) (by decide +kernel)
theorem gm_70 : (Jvm.Cond.fieldLink "GasYard" (108 : Nat) "GasYard$Ledger" "told" "I") ∈ gG := gG_mem (List.mem_of_getElem? (i := 70) (by decide +kernel)) (by decide +kernel)
theorem gm_71 : (Jvm.Cond.fieldLink "GasYard$Ledger" (13 : Nat) "GasYard$Ledger" "pressed" "I") ∈ gG := gG_mem (List.mem_of_getElem? (i := 71) (by decide +kernel)) (by decide +kernel)
theorem gm_72 : (Jvm.Cond.fieldLink "GasYard" (204 : Nat) "GasYard$Ledger" "pressed" "I") ∈ gG := gG_mem (List.mem_of_getElem? (i := 72) (by decide +kernel)) (by decide +kernel)
theorem gm_73 : (Jvm.Cond.fieldLink "GasYard$Ledger" (16 : Nat) "GasYard$Ledger" "coins" "I") ∈ gG := gG_mem (List.mem_of_getElem? (i := 73) (by decide +kernel)) (by decide +kernel)
theorem gm_74 : (Jvm.Cond.fieldLink "GasYard" (207 : Nat) "GasYard$Ledger" "coins" "I") ∈ gG := gG_mem (List.mem_of_getElem? (i := 74) (by decide +kernel)) (by decide +kernel)
theorem gm_75 : (Jvm.Cond.fieldLink "GasYard$Ledger" (19 : Nat) "GasYard$Ledger" "leaked" "I") ∈ gG := gG_mem (List.mem_of_getElem? (i := 75) (by decide +kernel)) (by decide +kernel)
theorem gm_76 : (Jvm.Cond.fieldLink "GasYard" (175 : Nat) "GasYard$Ledger" "leaked" "I") ∈ gG := gG_mem (List.mem_of_getElem? (i := 76) (by decide +kernel)) (by decide +kernel)
theorem gm_77 : (Jvm.Cond.fieldLink "GasYard$Ledger" (22 : Nat) "GasYard$Ledger" "found" "I") ∈ gG := gG_mem (List.mem_of_getElem? (i := 77) (by decide +kernel)) (by decide +kernel)
theorem gm_78 : (Jvm.Cond.fieldLink "GasYard" (178 : Nat) "GasYard$Ledger" "found" "I") ∈ gG := gG_mem (List.mem_of_getElem? (i := 78) (by decide +kernel)) (by decide +kernel)
theorem gm_90 : (Jvm.Cond.classLink "GasYard" (77 : Nat) "GasYard$Planner") ∈ gG := gG_mem (List.mem_of_getElem? (i := 90) (by decide +kernel)) (by decide +kernel)
theorem gm_91 : (Jvm.Cond.instantiable "GasYard$Planner" (13 : Nat)) ∈ gG := gG_mem (List.mem_of_getElem? (i := 91) (by decide +kernel)) (by decide +kernel)
theorem gm_92 : (Jvm.Cond.methodLink "GasYard" (79 : Nat) ({ cls := "GasYard$Planner", name := "<init>", desc := "()V" } : Jvm.MethodName)) ∈ gG := gG_mem (List.mem_of_getElem? (i := 92) (by decide +kernel)) (by decide +kernel)
theorem gm_93 : (Jvm.Cond.instanceMethod ({ cls := "GasYard$Planner", name := "<init>", desc := "()V" } : Jvm.MethodName)) ∈ gG := gG_mem (List.mem_of_getElem? (i := 93) (by decide +kernel)) (by decide +kernel)
set_option maxRecDepth 20000 in
theorem gm_94 : (Jvm.Cond.code ({ cls := "GasYard$Planner", name := "<init>", desc := "()V" } : Jvm.MethodName) prog_6_method_1_code (2 : Nat) (Option.none : Option Jvm.ClassFile.FieldType)) ∈ gG := gG_mem (List.mem_of_getElem? (i := 94) (rfl)) (by decide +kernel)
theorem gm_95 : (Jvm.Cond.methodLink "GasYard$Planner" (3 : Nat) ({ cls := "java/lang/Object", name := "<init>", desc := "()V" } : Jvm.MethodName)) ∈ gG := gG_mem (List.mem_of_getElem? (i := 95) (by decide +kernel)) (by decide +kernel)
theorem gm_96 : (Jvm.Cond.classLink "GasYard$Planner" (9 : Nat) "GasYard$Car") ∈ gG := gG_mem (List.mem_of_getElem? (i := 96) (by decide +kernel)) (by decide +kernel)
theorem gm_97 : (Jvm.Cond.instantiable "GasYard$Car" (10 : Nat)) ∈ gG := gG_mem (List.mem_of_getElem? (i := 97) (by decide +kernel)) (by decide +kernel)
theorem gm_99 : (Jvm.Cond.instanceMethod ({ cls := "GasYard$Car", name := "<init>", desc := "()V" } : Jvm.MethodName)) ∈ gG := gG_mem (List.mem_of_getElem? (i := 99) (by decide +kernel)) (by decide +kernel)
set_option maxRecDepth 20000 in
theorem gm_100 : (Jvm.Cond.code ({ cls := "GasYard$Car", name := "<init>", desc := "()V" } : Jvm.MethodName) prog_4_method_1_code (1 : Nat) (Option.none : Option Jvm.ClassFile.FieldType)) ∈ gG := gG_mem (List.mem_of_getElem? (i := 100) (rfl)) (by decide +kernel)
theorem gm_101 : (Jvm.Cond.methodLink "GasYard$Car" (3 : Nat) ({ cls := "java/lang/Object", name := "<init>", desc := "()V" } : Jvm.MethodName)) ∈ gG := gG_mem (List.mem_of_getElem? (i := 101) (by decide +kernel)) (by decide +kernel)
theorem gm_102 : (Jvm.Cond.fieldLink "GasYard$Car" (9 : Nat) "GasYard$Car" "volume" "I") ∈ gG := gG_mem (List.mem_of_getElem? (i := 102) (by decide +kernel)) (by decide +kernel)
theorem gm_103 : (Jvm.Cond.fieldLink "GasYard$Rules" (73 : Nat) "GasYard$Car" "volume" "I") ∈ gG := gG_mem (List.mem_of_getElem? (i := 103) (by decide +kernel)) (by decide +kernel)
theorem gm_104 : (Jvm.Cond.fieldLink "GasYard$Car" (15 : Nat) "GasYard$Car" "content" "I") ∈ gG := gG_mem (List.mem_of_getElem? (i := 104) (by decide +kernel)) (by decide +kernel)
theorem gm_105 : (Jvm.Cond.fieldLink "GasYard$Planner" (80 : Nat) "GasYard$Car" "content" "I") ∈ gG := gG_mem (List.mem_of_getElem? (i := 105) (by decide +kernel)) (by decide +kernel)
theorem gm_106 : (Jvm.Cond.fieldLink "GasYard$Rules" (76 : Nat) "GasYard$Car" "content" "I") ∈ gG := gG_mem (List.mem_of_getElem? (i := 106) (by decide +kernel)) (by decide +kernel)
theorem gm_107 : (Jvm.Cond.fieldLink "GasYard$Car" (18 : Nat) "GasYard$Car" "max" "I") ∈ gG := gG_mem (List.mem_of_getElem? (i := 107) (by decide +kernel)) (by decide +kernel)
theorem gm_108 : (Jvm.Cond.fieldLink "GasYard$Car" (21 : Nat) "GasYard$Car" "warmth" "I") ∈ gG := gG_mem (List.mem_of_getElem? (i := 108) (by decide +kernel)) (by decide +kernel)
theorem gm_109 : (Jvm.Cond.fieldLink "GasYard$Planner" (101 : Nat) "GasYard$Car" "warmth" "I") ∈ gG := gG_mem (List.mem_of_getElem? (i := 109) (by decide +kernel)) (by decide +kernel)
theorem gm_110 : (Jvm.Cond.fieldLink "GasYard$Rules" (78 : Nat) "GasYard$Car" "warmth" "I") ∈ gG := gG_mem (List.mem_of_getElem? (i := 110) (by decide +kernel)) (by decide +kernel)
theorem gm_111 : (Jvm.Cond.fieldLink "GasYard$Car" (24 : Nat) "GasYard$Car" "state" "I") ∈ gG := gG_mem (List.mem_of_getElem? (i := 111) (by decide +kernel)) (by decide +kernel)
theorem gm_112 : (Jvm.Cond.fieldLink "GasYard" (236 : Nat) "GasYard$Car" "state" "I") ∈ gG := gG_mem (List.mem_of_getElem? (i := 112) (by decide +kernel)) (by decide +kernel)
theorem gm_113 : (Jvm.Cond.fieldLink "GasYard$Car" (27 : Nat) "GasYard$Car" "source" "I") ∈ gG := gG_mem (List.mem_of_getElem? (i := 113) (by decide +kernel)) (by decide +kernel)
theorem gm_114 : (Jvm.Cond.fieldLink "GasYard" (239 : Nat) "GasYard$Car" "source" "I") ∈ gG := gG_mem (List.mem_of_getElem? (i := 114) (by decide +kernel)) (by decide +kernel)
theorem gm_115 : (Jvm.Cond.fieldLink "GasYard$Car" (30 : Nat) "GasYard$Car" "cameAt" "I") ∈ gG := gG_mem (List.mem_of_getElem? (i := 115) (by decide +kernel)) (by decide +kernel)
theorem gm_116 : (Jvm.Cond.fieldLink "GasYard" (242 : Nat) "GasYard$Car" "cameAt" "I") ∈ gG := gG_mem (List.mem_of_getElem? (i := 116) (by decide +kernel)) (by decide +kernel)
theorem gm_117 : (Jvm.Cond.fieldLink "GasYard$Car" (33 : Nat) "GasYard$Car" "wentAt" "I") ∈ gG := gG_mem (List.mem_of_getElem? (i := 117) (by decide +kernel)) (by decide +kernel)
theorem gm_118 : (Jvm.Cond.fieldLink "GasYard" (249 : Nat) "GasYard$Car" "wentAt" "I") ∈ gG := gG_mem (List.mem_of_getElem? (i := 118) (by decide +kernel)) (by decide +kernel)
theorem gm_119 : (Jvm.Cond.fieldLink "GasYard$Car" (36 : Nat) "GasYard$Car" "drawn" "I") ∈ gG := gG_mem (List.mem_of_getElem? (i := 119) (by decide +kernel)) (by decide +kernel)
theorem gm_120 : (Jvm.Cond.fieldLink "GasYard$Rules" (84 : Nat) "GasYard$Car" "drawn" "I") ∈ gG := gG_mem (List.mem_of_getElem? (i := 120) (by decide +kernel)) (by decide +kernel)
theorem gm_121 : (Jvm.Cond.fieldLink "GasYard$Car" (39 : Nat) "GasYard$Car" "lost" "Z") ∈ gG := gG_mem (List.mem_of_getElem? (i := 121) (by decide +kernel)) (by decide +kernel)
theorem gm_122 : (Jvm.Cond.fieldLink "GasYard" (235 : Nat) "GasYard$Car" "lost" "Z") ∈ gG := gG_mem (List.mem_of_getElem? (i := 122) (by decide +kernel)) (by decide +kernel)
theorem gm_144 : (Jvm.Cond.classLink "GasYard$Planner" (18 : Nat) "GasYard$Bank") ∈ gG := gG_mem (List.mem_of_getElem? (i := 144) (by decide +kernel)) (by decide +kernel)
theorem gm_145 : (Jvm.Cond.instantiable "GasYard$Bank" (6 : Nat)) ∈ gG := gG_mem (List.mem_of_getElem? (i := 145) (by decide +kernel)) (by decide +kernel)
theorem gm_147 : (Jvm.Cond.instanceMethod ({ cls := "GasYard$Bank", name := "<init>", desc := "()V" } : Jvm.MethodName)) ∈ gG := gG_mem (List.mem_of_getElem? (i := 147) (by decide +kernel)) (by decide +kernel)
set_option maxRecDepth 20000 in
theorem gm_148 : (Jvm.Cond.code ({ cls := "GasYard$Bank", name := "<init>", desc := "()V" } : Jvm.MethodName) prog_2_method_1_code (1 : Nat) (Option.none : Option Jvm.ClassFile.FieldType)) ∈ gG := gG_mem (List.mem_of_getElem? (i := 148) (rfl)) (by decide +kernel)
theorem gm_149 : (Jvm.Cond.methodLink "GasYard$Bank" (3 : Nat) ({ cls := "java/lang/Object", name := "<init>", desc := "()V" } : Jvm.MethodName)) ∈ gG := gG_mem (List.mem_of_getElem? (i := 149) (by decide +kernel)) (by decide +kernel)
theorem gm_150 : (Jvm.Cond.fieldLink "GasYard$Bank" (9 : Nat) "GasYard$Bank" "volume" "I") ∈ gG := gG_mem (List.mem_of_getElem? (i := 150) (by decide +kernel)) (by decide +kernel)
theorem gm_151 : (Jvm.Cond.fieldLink "GasYard" (99 : Nat) "GasYard$Bank" "volume" "I") ∈ gG := gG_mem (List.mem_of_getElem? (i := 151) (by decide +kernel)) (by decide +kernel)
theorem gm_152 : (Jvm.Cond.fieldLink "GasYard$Rules" (77 : Nat) "GasYard$Bank" "volume" "I") ∈ gG := gG_mem (List.mem_of_getElem? (i := 152) (by decide +kernel)) (by decide +kernel)
theorem gm_153 : (Jvm.Cond.fieldLink "GasYard$Bank" (15 : Nat) "GasYard$Bank" "content" "I") ∈ gG := gG_mem (List.mem_of_getElem? (i := 153) (by decide +kernel)) (by decide +kernel)
theorem gm_154 : (Jvm.Cond.fieldLink "GasYard" (102 : Nat) "GasYard$Bank" "content" "I") ∈ gG := gG_mem (List.mem_of_getElem? (i := 154) (by decide +kernel)) (by decide +kernel)
theorem gm_155 : (Jvm.Cond.fieldLink "GasYard$Rules" (70 : Nat) "GasYard$Bank" "content" "I") ∈ gG := gG_mem (List.mem_of_getElem? (i := 155) (by decide +kernel)) (by decide +kernel)
theorem gm_156 : (Jvm.Cond.fieldLink "GasYard$Bank" (18 : Nat) "GasYard$Bank" "goal" "I") ∈ gG := gG_mem (List.mem_of_getElem? (i := 156) (by decide +kernel)) (by decide +kernel)
theorem gm_157 : (Jvm.Cond.fieldLink "GasYard" (105 : Nat) "GasYard$Bank" "goal" "I") ∈ gG := gG_mem (List.mem_of_getElem? (i := 157) (by decide +kernel)) (by decide +kernel)
theorem gm_158 : (Jvm.Cond.fieldLink "GasYard$Bank" (21 : Nat) "GasYard$Bank" "drawn" "I") ∈ gG := gG_mem (List.mem_of_getElem? (i := 158) (by decide +kernel)) (by decide +kernel)
theorem gm_159 : (Jvm.Cond.fieldLink "GasYard$Planner" (116 : Nat) "GasYard$Bank" "drawn" "I") ∈ gG := gG_mem (List.mem_of_getElem? (i := 159) (by decide +kernel)) (by decide +kernel)
theorem gm_160 : (Jvm.Cond.fieldLink "GasYard$Rules" (81 : Nat) "GasYard$Bank" "drawn" "I") ∈ gG := gG_mem (List.mem_of_getElem? (i := 160) (by decide +kernel)) (by decide +kernel)
theorem gm_161 : (Jvm.Cond.fieldLink "GasYard$Bank" (24 : Nat) "GasYard$Bank" "pressed" "I") ∈ gG := gG_mem (List.mem_of_getElem? (i := 161) (by decide +kernel)) (by decide +kernel)
theorem gm_162 : (Jvm.Cond.fieldLink "GasYard" (271 : Nat) "GasYard$Bank" "pressed" "I") ∈ gG := gG_mem (List.mem_of_getElem? (i := 162) (by decide +kernel)) (by decide +kernel)
theorem gm_163 : (Jvm.Cond.fieldLink "GasYard$Bank" (27 : Nat) "GasYard$Bank" "lost" "Z") ∈ gG := gG_mem (List.mem_of_getElem? (i := 163) (by decide +kernel)) (by decide +kernel)
theorem gm_164 : (Jvm.Cond.fieldLink "GasYard$Planner" (93 : Nat) "GasYard$Bank" "lost" "Z") ∈ gG := gG_mem (List.mem_of_getElem? (i := 164) (by decide +kernel)) (by decide +kernel)
theorem gm_165 : (Jvm.Cond.fieldLink "GasYard" (228 : Nat) "GasYard$Bank" "lost" "Z") ∈ gG := gG_mem (List.mem_of_getElem? (i := 165) (by decide +kernel)) (by decide +kernel)
theorem gm_179 : (Jvm.Cond.fieldLink "GasYard$Planner" (12 : Nat) "GasYard$Planner" "guest" "LGasYard$Car;") ∈ gG := gG_mem (List.mem_of_getElem? (i := 179) (by decide +kernel)) (by decide +kernel)
theorem gm_180 : (Jvm.Cond.fieldLink "GasYard" (185 : Nat) "GasYard$Planner" "guest" "LGasYard$Car;") ∈ gG := gG_mem (List.mem_of_getElem? (i := 180) (by decide +kernel)) (by decide +kernel)
theorem gm_181 : (Jvm.Cond.fieldLink "GasYard$Planner" (20 : Nat) "GasYard$Planner" "stock" "[LGasYard$Bank;") ∈ gG := gG_mem (List.mem_of_getElem? (i := 181) (by decide +kernel)) (by decide +kernel)
theorem gm_182 : (Jvm.Cond.fieldLink "GasYard$Planner" (24 : Nat) "GasYard$Planner" "stockSize" "I") ∈ gG := gG_mem (List.mem_of_getElem? (i := 182) (by decide +kernel)) (by decide +kernel)
theorem gm_183 : (Jvm.Cond.fieldLink "GasYard$Planner" (28 : Nat) "GasYard$Planner" "airTenths" "I") ∈ gG := gG_mem (List.mem_of_getElem? (i := 183) (by decide +kernel)) (by decide +kernel)
theorem gm_184 : (Jvm.Cond.fieldLink "GasYard$Planner" (31 : Nat) "GasYard$Planner" "rowLength" "I") ∈ gG := gG_mem (List.mem_of_getElem? (i := 184) (by decide +kernel)) (by decide +kernel)
theorem gm_185 : (Jvm.Cond.fieldLink "GasYard$Planner" (34 : Nat) "GasYard$Planner" "flowTop" "I") ∈ gG := gG_mem (List.mem_of_getElem? (i := 185) (by decide +kernel)) (by decide +kernel)
theorem gm_186 : (Jvm.Cond.fieldLink "GasYard$Planner" (37 : Nat) "GasYard$Planner" "row" "[I") ∈ gG := gG_mem (List.mem_of_getElem? (i := 186) (by decide +kernel)) (by decide +kernel)
theorem gm_187 : (Jvm.Cond.fieldLink "GasYard$Planner" (41 : Nat) "GasYard$Planner" "rowUnits" "[I") ∈ gG := gG_mem (List.mem_of_getElem? (i := 187) (by decide +kernel)) (by decide +kernel)
theorem gm_188 : (Jvm.Cond.fieldLink "GasYard$Planner" (44 : Nat) "GasYard$Planner" "keptRow" "[I") ∈ gG := gG_mem (List.mem_of_getElem? (i := 188) (by decide +kernel)) (by decide +kernel)
theorem gm_189 : (Jvm.Cond.fieldLink "GasYard$Planner" (47 : Nat) "GasYard$Planner" "keptUnits" "[I") ∈ gG := gG_mem (List.mem_of_getElem? (i := 189) (by decide +kernel)) (by decide +kernel)
theorem gm_190 : (Jvm.Cond.fieldLink "GasYard$Planner" (50 : Nat) "GasYard$Planner" "keptDrawn" "[I") ∈ gG := gG_mem (List.mem_of_getElem? (i := 190) (by decide +kernel)) (by decide +kernel)
theorem gm_191 : (Jvm.Cond.fieldLink "GasYard$Planner" (53 : Nat) "GasYard$Planner" "keptLength" "I") ∈ gG := gG_mem (List.mem_of_getElem? (i := 191) (by decide +kernel)) (by decide +kernel)
theorem gm_192 : (Jvm.Cond.fieldLink "GasYard$Planner" (56 : Nat) "GasYard$Planner" "keptContent" "I") ∈ gG := gG_mem (List.mem_of_getElem? (i := 192) (by decide +kernel)) (by decide +kernel)
theorem gm_220 : (Jvm.Cond.classLink "GasYard" (84 : Nat) "GasYard$Rules") ∈ gG := gG_mem (List.mem_of_getElem? (i := 220) (by decide +kernel)) (by decide +kernel)
theorem gm_221 : (Jvm.Cond.instantiable "GasYard$Rules" (8 : Nat)) ∈ gG := gG_mem (List.mem_of_getElem? (i := 221) (by decide +kernel)) (by decide +kernel)
theorem gm_223 : (Jvm.Cond.instanceMethod ({ cls := "GasYard$Rules", name := "<init>", desc := "()V" } : Jvm.MethodName)) ∈ gG := gG_mem (List.mem_of_getElem? (i := 223) (by decide +kernel)) (by decide +kernel)
set_option maxRecDepth 20000 in
theorem gm_224 : (Jvm.Cond.code ({ cls := "GasYard$Rules", name := "<init>", desc := "()V" } : Jvm.MethodName) prog_7_method_1_code (1 : Nat) (Option.none : Option Jvm.ClassFile.FieldType)) ∈ gG := gG_mem (List.mem_of_getElem? (i := 224) (rfl)) (by decide +kernel)
theorem gm_225 : (Jvm.Cond.methodLink "GasYard$Rules" (3 : Nat) ({ cls := "java/lang/Object", name := "<init>", desc := "()V" } : Jvm.MethodName)) ∈ gG := gG_mem (List.mem_of_getElem? (i := 225) (by decide +kernel)) (by decide +kernel)
theorem gm_226 : (Jvm.Cond.fieldLink "GasYard$Rules" (9 : Nat) "GasYard$Rules" "warm" "I") ∈ gG := gG_mem (List.mem_of_getElem? (i := 226) (by decide +kernel)) (by decide +kernel)
theorem gm_227 : (Jvm.Cond.fieldLink "GasYard$BookReader" (75 : Nat) "GasYard$Rules" "warm" "I") ∈ gG := gG_mem (List.mem_of_getElem? (i := 227) (by decide +kernel)) (by decide +kernel)
theorem gm_228 : (Jvm.Cond.fieldLink "GasYard" (213 : Nat) "GasYard$Rules" "warm" "I") ∈ gG := gG_mem (List.mem_of_getElem? (i := 228) (by decide +kernel)) (by decide +kernel)
theorem gm_229 : (Jvm.Cond.fieldLink "GasYard$Rules" (15 : Nat) "GasYard$Rules" "cool" "I") ∈ gG := gG_mem (List.mem_of_getElem? (i := 229) (by decide +kernel)) (by decide +kernel)
theorem gm_230 : (Jvm.Cond.fieldLink "GasYard$BookReader" (78 : Nat) "GasYard$Rules" "cool" "I") ∈ gG := gG_mem (List.mem_of_getElem? (i := 230) (by decide +kernel)) (by decide +kernel)
theorem gm_231 : (Jvm.Cond.fieldLink "GasYard" (216 : Nat) "GasYard$Rules" "cool" "I") ∈ gG := gG_mem (List.mem_of_getElem? (i := 231) (by decide +kernel)) (by decide +kernel)
theorem gm_232 : (Jvm.Cond.fieldLink "GasYard$Rules" (18 : Nat) "GasYard$Rules" "limit" "I") ∈ gG := gG_mem (List.mem_of_getElem? (i := 232) (by decide +kernel)) (by decide +kernel)
theorem gm_233 : (Jvm.Cond.fieldLink "GasYard$BookReader" (81 : Nat) "GasYard$Rules" "limit" "I") ∈ gG := gG_mem (List.mem_of_getElem? (i := 233) (by decide +kernel)) (by decide +kernel)
theorem gm_234 : (Jvm.Cond.fieldLink "GasYard" (219 : Nat) "GasYard$Rules" "limit" "I") ∈ gG := gG_mem (List.mem_of_getElem? (i := 234) (by decide +kernel)) (by decide +kernel)
theorem gm_235 : (Jvm.Cond.fieldLink "GasYard$Rules" (21 : Nat) "GasYard$Rules" "press" "I") ∈ gG := gG_mem (List.mem_of_getElem? (i := 235) (by decide +kernel)) (by decide +kernel)
theorem gm_236 : (Jvm.Cond.fieldLink "GasYard$BookReader" (84 : Nat) "GasYard$Rules" "press" "I") ∈ gG := gG_mem (List.mem_of_getElem? (i := 236) (by decide +kernel)) (by decide +kernel)
theorem gm_237 : (Jvm.Cond.fieldLink "GasYard" (222 : Nat) "GasYard$Rules" "press" "I") ∈ gG := gG_mem (List.mem_of_getElem? (i := 237) (by decide +kernel)) (by decide +kernel)
theorem gm_238 : (Jvm.Cond.fieldLink "GasYard$Rules" (24 : Nat) "GasYard$Rules" "least" "I") ∈ gG := gG_mem (List.mem_of_getElem? (i := 238) (by decide +kernel)) (by decide +kernel)
theorem gm_239 : (Jvm.Cond.fieldLink "GasYard$BookReader" (87 : Nat) "GasYard$Rules" "least" "I") ∈ gG := gG_mem (List.mem_of_getElem? (i := 239) (by decide +kernel)) (by decide +kernel)
theorem gm_240 : (Jvm.Cond.fieldLink "GasYard" (225 : Nat) "GasYard$Rules" "least" "I") ∈ gG := gG_mem (List.mem_of_getElem? (i := 240) (by decide +kernel)) (by decide +kernel)
theorem gm_241 : (Jvm.Cond.fieldLink "GasYard$Rules" (27 : Nat) "GasYard$Rules" "flowFrom" "[I") ∈ gG := gG_mem (List.mem_of_getElem? (i := 241) (by decide +kernel)) (by decide +kernel)
theorem gm_242 : (Jvm.Cond.fieldLink "GasYard$Rules" (31 : Nat) "GasYard$Rules" "flowUnits" "[I") ∈ gG := gG_mem (List.mem_of_getElem? (i := 242) (by decide +kernel)) (by decide +kernel)
theorem gm_243 : (Jvm.Cond.fieldLink "GasYard$Rules" (34 : Nat) "GasYard$Rules" "flows" "I") ∈ gG := gG_mem (List.mem_of_getElem? (i := 243) (by decide +kernel)) (by decide +kernel)
theorem gm_244 : (Jvm.Cond.fieldLink "GasYard$BookReader" (55 : Nat) "GasYard$Rules" "flows" "I") ∈ gG := gG_mem (List.mem_of_getElem? (i := 244) (by decide +kernel)) (by decide +kernel)
theorem gm_262 : (Jvm.Cond.fieldLink "GasYard" (11 : Nat) "GasYard" "rack" "[LGasYard$Bank;") ∈ gG := gG_mem (List.mem_of_getElem? (i := 262) (by decide +kernel)) (by decide +kernel)
theorem gm_263 : (Jvm.Cond.fieldLink "GasYard" (15 : Nat) "GasYard" "rackSize" "I") ∈ gG := gG_mem (List.mem_of_getElem? (i := 263) (by decide +kernel)) (by decide +kernel)
theorem gm_264 : (Jvm.Cond.fieldLink "GasYard" (21 : Nat) "GasYard" "fleet" "[LGasYard$Car;") ∈ gG := gG_mem (List.mem_of_getElem? (i := 264) (by decide +kernel)) (by decide +kernel)
theorem gm_265 : (Jvm.Cond.fieldLink "GasYard" (25 : Nat) "GasYard" "fleetSize" "I") ∈ gG := gG_mem (List.mem_of_getElem? (i := 265) (by decide +kernel)) (by decide +kernel)
theorem gm_266 : (Jvm.Cond.fieldLink "GasYard" (28 : Nat) "GasYard" "lineHead" "I") ∈ gG := gG_mem (List.mem_of_getElem? (i := 266) (by decide +kernel)) (by decide +kernel)
theorem gm_267 : (Jvm.Cond.fieldLink "GasYard" (31 : Nat) "GasYard" "hoseCars" "[LGasYard$Car;") ∈ gG := gG_mem (List.mem_of_getElem? (i := 267) (by decide +kernel)) (by decide +kernel)
theorem gm_268 : (Jvm.Cond.fieldLink "GasYard" (34 : Nat) "GasYard" "hoseCount" "I") ∈ gG := gG_mem (List.mem_of_getElem? (i := 268) (by decide +kernel)) (by decide +kernel)
theorem gm_269 : (Jvm.Cond.fieldLink "GasYard" (37 : Nat) "GasYard" "degrees" "I") ∈ gG := gG_mem (List.mem_of_getElem? (i := 269) (by decide +kernel)) (by decide +kernel)
theorem gm_270 : (Jvm.Cond.fieldLink "GasYard" (40 : Nat) "GasYard" "now" "I") ∈ gG := gG_mem (List.mem_of_getElem? (i := 270) (by decide +kernel)) (by decide +kernel)
theorem gm_271 : (Jvm.Cond.fieldLink "GasYard" (43 : Nat) "GasYard" "slack" "I") ∈ gG := gG_mem (List.mem_of_getElem? (i := 271) (by decide +kernel)) (by decide +kernel)
theorem gm_272 : (Jvm.Cond.fieldLink "GasYard" (46 : Nat) "GasYard" "prices" "[I") ∈ gG := gG_mem (List.mem_of_getElem? (i := 272) (by decide +kernel)) (by decide +kernel)
theorem gm_273 : (Jvm.Cond.fieldLink "GasYard" (50 : Nat) "GasYard" "shut" "[Z") ∈ gG := gG_mem (List.mem_of_getElem? (i := 273) (by decide +kernel)) (by decide +kernel)
theorem gm_274 : (Jvm.Cond.fieldLink "GasYard" (57 : Nat) "GasYard" "tape" "LGasYard$Tape;") ∈ gG := gG_mem (List.mem_of_getElem? (i := 274) (by decide +kernel)) (by decide +kernel)
theorem gm_275 : (Jvm.Cond.fieldLink "GasYard" (66 : Nat) "GasYard" "reader" "LGasYard$BookReader;") ∈ gG := gG_mem (List.mem_of_getElem? (i := 275) (by decide +kernel)) (by decide +kernel)
theorem gm_276 : (Jvm.Cond.fieldLink "GasYard" (73 : Nat) "GasYard" "ledger" "LGasYard$Ledger;") ∈ gG := gG_mem (List.mem_of_getElem? (i := 276) (by decide +kernel)) (by decide +kernel)
theorem gm_277 : (Jvm.Cond.fieldLink "GasYard" (80 : Nat) "GasYard" "planner" "LGasYard$Planner;") ∈ gG := gG_mem (List.mem_of_getElem? (i := 277) (by decide +kernel)) (by decide +kernel)
theorem gm_278 : (Jvm.Cond.fieldLink "GasYard" (87 : Nat) "GasYard" "rules" "LGasYard$Rules;") ∈ gG := gG_mem (List.mem_of_getElem? (i := 278) (by decide +kernel)) (by decide +kernel)
theorem gm_279 : (Jvm.Cond.fieldLink "GasYard" (91 : Nat) "GasYard" "draft" "LGasYard$Rules;") ∈ gG := gG_mem (List.mem_of_getElem? (i := 279) (by decide +kernel)) (by decide +kernel)
theorem gm_317 : (Jvm.Cond.methodLink "GasYardLaw" (13 : Nat) ({ cls := "GasYard", name := "bank", desc := "(III)I" } : Jvm.MethodName)) ∈ gG := gG_mem (List.mem_of_getElem? (i := 317) (by decide +kernel)) (by decide +kernel)
theorem gm_318 : (Jvm.Cond.instanceMethod ({ cls := "GasYard", name := "bank", desc := "(III)I" } : Jvm.MethodName)) ∈ gG := gG_mem (List.mem_of_getElem? (i := 318) (by decide +kernel)) (by decide +kernel)
theorem gm_319 : (Jvm.Cond.selects "GasYard" ({ cls := "GasYard", name := "bank", desc := "(III)I" } : Jvm.MethodName) ({ cls := "GasYard", name := "bank", desc := "(III)I" } : Jvm.MethodName)) ∈ gG := gG_mem (List.mem_of_getElem? (i := 319) (by decide +kernel)) (by decide +kernel)
set_option maxRecDepth 20000 in
theorem gm_320 : (Jvm.Cond.code ({ cls := "GasYard", name := "bank", desc := "(III)I" } : Jvm.MethodName) prog_1_method_2_code (5 : Nat) (Option.some Jvm.ClassFile.FieldType.int)) ∈ gG := gG_mem (List.mem_of_getElem? (i := 320) (rfl)) (by decide +kernel)
theorem gm_321 : (Jvm.Cond.methodLink "GasYard" (94 : Nat) ({ cls := "GasYard", name := "within", desc := "(III)Z" } : Jvm.MethodName)) ∈ gG := gG_mem (List.mem_of_getElem? (i := 321) (by decide +kernel)) (by decide +kernel)
theorem gm_322 : (Jvm.Cond.static ({ cls := "GasYard", name := "within", desc := "(III)Z" } : Jvm.MethodName)) ∈ gG := gG_mem (List.mem_of_getElem? (i := 322) (by decide +kernel)) (by decide +kernel)
set_option maxRecDepth 20000 in
theorem gm_323 : (Jvm.Cond.code ({ cls := "GasYard", name := "within", desc := "(III)Z" } : Jvm.MethodName) prog_1_method_22_code (3 : Nat) (Option.some Jvm.ClassFile.FieldType.boolean)) ∈ gG := gG_mem (List.mem_of_getElem? (i := 323) (rfl)) (by decide +kernel)
theorem gm_325 : (Jvm.Cond.methodLink "GasYardLaw" (18 : Nat) ({ cls := "GasYard", name := "target", desc := "(II)I" } : Jvm.MethodName)) ∈ gG := gG_mem (List.mem_of_getElem? (i := 325) (by decide +kernel)) (by decide +kernel)
theorem gm_326 : (Jvm.Cond.instanceMethod ({ cls := "GasYard", name := "target", desc := "(II)I" } : Jvm.MethodName)) ∈ gG := gG_mem (List.mem_of_getElem? (i := 326) (by decide +kernel)) (by decide +kernel)
theorem gm_327 : (Jvm.Cond.selects "GasYard" ({ cls := "GasYard", name := "target", desc := "(II)I" } : Jvm.MethodName) ({ cls := "GasYard", name := "target", desc := "(II)I" } : Jvm.MethodName)) ∈ gG := gG_mem (List.mem_of_getElem? (i := 327) (by decide +kernel)) (by decide +kernel)
set_option maxRecDepth 20000 in
theorem gm_328 : (Jvm.Cond.code ({ cls := "GasYard", name := "target", desc := "(II)I" } : Jvm.MethodName) prog_1_method_3_code (5 : Nat) (Option.some Jvm.ClassFile.FieldType.int)) ∈ gG := gG_mem (List.mem_of_getElem? (i := 328) (rfl)) (by decide +kernel)
theorem gm_329 : (Jvm.Cond.methodLink "GasYard" (111 : Nat) ({ cls := "GasYard", name := "bankAt", desc := "(I)LGasYard$Bank;" } : Jvm.MethodName)) ∈ gG := gG_mem (List.mem_of_getElem? (i := 329) (by decide +kernel)) (by decide +kernel)
theorem gm_331 : (Jvm.Cond.instanceMethod ({ cls := "GasYard", name := "bankAt", desc := "(I)LGasYard$Bank;" } : Jvm.MethodName)) ∈ gG := gG_mem (List.mem_of_getElem? (i := 331) (by decide +kernel)) (by decide +kernel)
set_option maxRecDepth 20000 in
theorem gm_332 : (Jvm.Cond.code ({ cls := "GasYard", name := "bankAt", desc := "(I)LGasYard$Bank;" } : Jvm.MethodName) prog_1_method_25_code (2 : Nat) (Option.some (Jvm.ClassFile.FieldType.object "GasYard$Bank"))) ∈ gG := gG_mem (List.mem_of_getElem? (i := 332) (rfl)) (by decide +kernel)
theorem gm_333 : (Jvm.Cond.methodLink "GasYardLaw" (23 : Nat) ({ cls := "GasYard", name := "air", desc := "(I)I" } : Jvm.MethodName)) ∈ gG := gG_mem (List.mem_of_getElem? (i := 333) (by decide +kernel)) (by decide +kernel)
theorem gm_334 : (Jvm.Cond.instanceMethod ({ cls := "GasYard", name := "air", desc := "(I)I" } : Jvm.MethodName)) ∈ gG := gG_mem (List.mem_of_getElem? (i := 334) (by decide +kernel)) (by decide +kernel)
theorem gm_335 : (Jvm.Cond.selects "GasYard" ({ cls := "GasYard", name := "air", desc := "(I)I" } : Jvm.MethodName) ({ cls := "GasYard", name := "air", desc := "(I)I" } : Jvm.MethodName)) ∈ gG := gG_mem (List.mem_of_getElem? (i := 335) (by decide +kernel)) (by decide +kernel)
set_option maxRecDepth 20000 in
theorem gm_336 : (Jvm.Cond.code ({ cls := "GasYard", name := "air", desc := "(I)I" } : Jvm.MethodName) prog_1_method_4_code (3 : Nat) (Option.some Jvm.ClassFile.FieldType.int)) ∈ gG := gG_mem (List.mem_of_getElem? (i := 336) (rfl)) (by decide +kernel)
theorem gm_337 : (Jvm.Cond.methodLink "GasYardLaw" (28 : Nat) ({ cls := "GasYard", name := "hoses", desc := "(I)I" } : Jvm.MethodName)) ∈ gG := gG_mem (List.mem_of_getElem? (i := 337) (by decide +kernel)) (by decide +kernel)
theorem gm_338 : (Jvm.Cond.instanceMethod ({ cls := "GasYard", name := "hoses", desc := "(I)I" } : Jvm.MethodName)) ∈ gG := gG_mem (List.mem_of_getElem? (i := 338) (by decide +kernel)) (by decide +kernel)
theorem gm_339 : (Jvm.Cond.selects "GasYard" ({ cls := "GasYard", name := "hoses", desc := "(I)I" } : Jvm.MethodName) ({ cls := "GasYard", name := "hoses", desc := "(I)I" } : Jvm.MethodName)) ∈ gG := gG_mem (List.mem_of_getElem? (i := 339) (by decide +kernel)) (by decide +kernel)
set_option maxRecDepth 20000 in
theorem gm_340 : (Jvm.Cond.code ({ cls := "GasYard", name := "hoses", desc := "(I)I" } : Jvm.MethodName) prog_1_method_5_code (3 : Nat) (Option.some Jvm.ClassFile.FieldType.int)) ∈ gG := gG_mem (List.mem_of_getElem? (i := 340) (rfl)) (by decide +kernel)
theorem gm_341 : (Jvm.Cond.methodLink "GasYardLaw" (32 : Nat) ({ cls := "GasYard", name := "feed", desc := "(IIIII)I" } : Jvm.MethodName)) ∈ gG := gG_mem (List.mem_of_getElem? (i := 341) (by decide +kernel)) (by decide +kernel)
theorem gm_342 : (Jvm.Cond.instanceMethod ({ cls := "GasYard", name := "feed", desc := "(IIIII)I" } : Jvm.MethodName)) ∈ gG := gG_mem (List.mem_of_getElem? (i := 342) (by decide +kernel)) (by decide +kernel)
theorem gm_343 : (Jvm.Cond.selects "GasYard" ({ cls := "GasYard", name := "feed", desc := "(IIIII)I" } : Jvm.MethodName) ({ cls := "GasYard", name := "feed", desc := "(IIIII)I" } : Jvm.MethodName)) ∈ gG := gG_mem (List.mem_of_getElem? (i := 343) (by decide +kernel)) (by decide +kernel)
set_option maxRecDepth 20000 in
theorem gm_344 : (Jvm.Cond.code ({ cls := "GasYard", name := "feed", desc := "(IIIII)I" } : Jvm.MethodName) prog_1_method_6_code (6 : Nat) (Option.some Jvm.ClassFile.FieldType.int)) ∈ gG := gG_mem (List.mem_of_getElem? (i := 344) (rfl)) (by decide +kernel)
theorem gm_345 : (Jvm.Cond.methodLink "GasYard" (118 : Nat) ({ cls := "GasYard$Tape", name := "append", desc := "(I)V" } : Jvm.MethodName)) ∈ gG := gG_mem (List.mem_of_getElem? (i := 345) (by decide +kernel)) (by decide +kernel)
theorem gm_346 : (Jvm.Cond.instanceMethod ({ cls := "GasYard$Tape", name := "append", desc := "(I)V" } : Jvm.MethodName)) ∈ gG := gG_mem (List.mem_of_getElem? (i := 346) (by decide +kernel)) (by decide +kernel)
theorem gm_347 : (Jvm.Cond.selects "GasYard$Tape" ({ cls := "GasYard$Tape", name := "append", desc := "(I)V" } : Jvm.MethodName) ({ cls := "GasYard$Tape", name := "append", desc := "(I)V" } : Jvm.MethodName)) ∈ gG := gG_mem (List.mem_of_getElem? (i := 347) (by decide +kernel)) (by decide +kernel)
set_option maxRecDepth 20000 in
theorem gm_348 : (Jvm.Cond.code ({ cls := "GasYard$Tape", name := "append", desc := "(I)V" } : Jvm.MethodName) prog_8_method_2_code (3 : Nat) (Option.none : Option Jvm.ClassFile.FieldType)) ∈ gG := gG_mem (List.mem_of_getElem? (i := 348) (rfl)) (by decide +kernel)
theorem gm_349 : (Jvm.Cond.methodLink "GasYardLaw" (37 : Nat) ({ cls := "GasYard", name := "end", desc := "(I)I" } : Jvm.MethodName)) ∈ gG := gG_mem (List.mem_of_getElem? (i := 349) (by decide +kernel)) (by decide +kernel)
theorem gm_350 : (Jvm.Cond.instanceMethod ({ cls := "GasYard", name := "end", desc := "(I)I" } : Jvm.MethodName)) ∈ gG := gG_mem (List.mem_of_getElem? (i := 350) (by decide +kernel)) (by decide +kernel)
theorem gm_351 : (Jvm.Cond.selects "GasYard" ({ cls := "GasYard", name := "end", desc := "(I)I" } : Jvm.MethodName) ({ cls := "GasYard", name := "end", desc := "(I)I" } : Jvm.MethodName)) ∈ gG := gG_mem (List.mem_of_getElem? (i := 351) (by decide +kernel)) (by decide +kernel)
set_option maxRecDepth 20000 in
theorem gm_352 : (Jvm.Cond.code ({ cls := "GasYard", name := "end", desc := "(I)I" } : Jvm.MethodName) prog_1_method_7_code (2 : Nat) (Option.some Jvm.ClassFile.FieldType.int)) ∈ gG := gG_mem (List.mem_of_getElem? (i := 352) (rfl)) (by decide +kernel)
theorem gm_353 : (Jvm.Cond.methodLink "GasYardLaw" (41 : Nat) ({ cls := "GasYard", name := "book", desc := "()I" } : Jvm.MethodName)) ∈ gG := gG_mem (List.mem_of_getElem? (i := 353) (by decide +kernel)) (by decide +kernel)
theorem gm_354 : (Jvm.Cond.instanceMethod ({ cls := "GasYard", name := "book", desc := "()I" } : Jvm.MethodName)) ∈ gG := gG_mem (List.mem_of_getElem? (i := 354) (by decide +kernel)) (by decide +kernel)
theorem gm_355 : (Jvm.Cond.selects "GasYard" ({ cls := "GasYard", name := "book", desc := "()I" } : Jvm.MethodName) ({ cls := "GasYard", name := "book", desc := "()I" } : Jvm.MethodName)) ∈ gG := gG_mem (List.mem_of_getElem? (i := 355) (by decide +kernel)) (by decide +kernel)
set_option maxRecDepth 20000 in
theorem gm_356 : (Jvm.Cond.code ({ cls := "GasYard", name := "book", desc := "()I" } : Jvm.MethodName) prog_1_method_8_code (3 : Nat) (Option.some Jvm.ClassFile.FieldType.int)) ∈ gG := gG_mem (List.mem_of_getElem? (i := 356) (rfl)) (by decide +kernel)
theorem gm_357 : (Jvm.Cond.methodLink "GasYard" (122 : Nat) ({ cls := "GasYard$BookReader", name := "readInto", desc := "(LGasYard$Rules;)I" } : Jvm.MethodName)) ∈ gG := gG_mem (List.mem_of_getElem? (i := 357) (by decide +kernel)) (by decide +kernel)
theorem gm_358 : (Jvm.Cond.instanceMethod ({ cls := "GasYard$BookReader", name := "readInto", desc := "(LGasYard$Rules;)I" } : Jvm.MethodName)) ∈ gG := gG_mem (List.mem_of_getElem? (i := 358) (by decide +kernel)) (by decide +kernel)
theorem gm_359 : (Jvm.Cond.selects "GasYard$BookReader" ({ cls := "GasYard$BookReader", name := "readInto", desc := "(LGasYard$Rules;)I" } : Jvm.MethodName) ({ cls := "GasYard$BookReader", name := "readInto", desc := "(LGasYard$Rules;)I" } : Jvm.MethodName)) ∈ gG := gG_mem (List.mem_of_getElem? (i := 359) (by decide +kernel)) (by decide +kernel)
set_option maxRecDepth 20000 in
theorem gm_360 : (Jvm.Cond.code ({ cls := "GasYard$BookReader", name := "readInto", desc := "(LGasYard$Rules;)I" } : Jvm.MethodName) prog_3_method_2_code (3 : Nat) (Option.some Jvm.ClassFile.FieldType.int)) ∈ gG := gG_mem (List.mem_of_getElem? (i := 360) (rfl)) (by decide +kernel)
theorem gm_361 : (Jvm.Cond.methodLink "GasYard$BookReader" (26 : Nat) ({ cls := "GasYard$Rules", name := "asWithout", desc := "()V" } : Jvm.MethodName)) ∈ gG := gG_mem (List.mem_of_getElem? (i := 361) (by decide +kernel)) (by decide +kernel)
theorem gm_362 : (Jvm.Cond.instanceMethod ({ cls := "GasYard$Rules", name := "asWithout", desc := "()V" } : Jvm.MethodName)) ∈ gG := gG_mem (List.mem_of_getElem? (i := 362) (by decide +kernel)) (by decide +kernel)
theorem gm_363 : (Jvm.Cond.selects "GasYard$Rules" ({ cls := "GasYard$Rules", name := "asWithout", desc := "()V" } : Jvm.MethodName) ({ cls := "GasYard$Rules", name := "asWithout", desc := "()V" } : Jvm.MethodName)) ∈ gG := gG_mem (List.mem_of_getElem? (i := 363) (by decide +kernel)) (by decide +kernel)
set_option maxRecDepth 20000 in
theorem gm_364 : (Jvm.Cond.code ({ cls := "GasYard$Rules", name := "asWithout", desc := "()V" } : Jvm.MethodName) prog_7_method_2_code (1 : Nat) (Option.none : Option Jvm.ClassFile.FieldType)) ∈ gG := gG_mem (List.mem_of_getElem? (i := 364) (rfl)) (by decide +kernel)
theorem gm_365 : (Jvm.Cond.methodLink "GasYard$BookReader" (31 : Nat) ({ cls := "GasYard$BookReader", name := "skipBlanks", desc := "()V" } : Jvm.MethodName)) ∈ gG := gG_mem (List.mem_of_getElem? (i := 365) (by decide +kernel)) (by decide +kernel)
theorem gm_367 : (Jvm.Cond.instanceMethod ({ cls := "GasYard$BookReader", name := "skipBlanks", desc := "()V" } : Jvm.MethodName)) ∈ gG := gG_mem (List.mem_of_getElem? (i := 367) (by decide +kernel)) (by decide +kernel)
set_option maxRecDepth 20000 in
theorem gm_368 : (Jvm.Cond.code ({ cls := "GasYard$BookReader", name := "skipBlanks", desc := "()V" } : Jvm.MethodName) prog_3_method_11_code (2 : Nat) (Option.none : Option Jvm.ClassFile.FieldType)) ∈ gG := gG_mem (List.mem_of_getElem? (i := 368) (rfl)) (by decide +kernel)
theorem gm_369 : (Jvm.Cond.methodLink "GasYard$BookReader" (34 : Nat) ({ cls := "GasYard$Tape", name := "at", desc := "(I)I" } : Jvm.MethodName)) ∈ gG := gG_mem (List.mem_of_getElem? (i := 369) (by decide +kernel)) (by decide +kernel)
theorem gm_370 : (Jvm.Cond.instanceMethod ({ cls := "GasYard$Tape", name := "at", desc := "(I)I" } : Jvm.MethodName)) ∈ gG := gG_mem (List.mem_of_getElem? (i := 370) (by decide +kernel)) (by decide +kernel)
theorem gm_371 : (Jvm.Cond.selects "GasYard$Tape" ({ cls := "GasYard$Tape", name := "at", desc := "(I)I" } : Jvm.MethodName) ({ cls := "GasYard$Tape", name := "at", desc := "(I)I" } : Jvm.MethodName)) ∈ gG := gG_mem (List.mem_of_getElem? (i := 371) (by decide +kernel)) (by decide +kernel)
set_option maxRecDepth 20000 in
theorem gm_372 : (Jvm.Cond.code ({ cls := "GasYard$Tape", name := "at", desc := "(I)I" } : Jvm.MethodName) prog_8_method_3_code (2 : Nat) (Option.some Jvm.ClassFile.FieldType.int)) ∈ gG := gG_mem (List.mem_of_getElem? (i := 372) (rfl)) (by decide +kernel)
theorem gm_373 : (Jvm.Cond.methodLink "GasYard$BookReader" (39 : Nat) ({ cls := "GasYard$BookReader", name := "readClauses", desc := "(LGasYard$Rules;)I" } : Jvm.MethodName)) ∈ gG := gG_mem (List.mem_of_getElem? (i := 373) (by decide +kernel)) (by decide +kernel)
theorem gm_375 : (Jvm.Cond.instanceMethod ({ cls := "GasYard$BookReader", name := "readClauses", desc := "(LGasYard$Rules;)I" } : Jvm.MethodName)) ∈ gG := gG_mem (List.mem_of_getElem? (i := 375) (by decide +kernel)) (by decide +kernel)
set_option maxRecDepth 20000 in
theorem gm_376 : (Jvm.Cond.code ({ cls := "GasYard$BookReader", name := "readClauses", desc := "(LGasYard$Rules;)I" } : Jvm.MethodName) prog_3_method_3_code (4 : Nat) (Option.some Jvm.ClassFile.FieldType.int)) ∈ gG := gG_mem (List.mem_of_getElem? (i := 376) (rfl)) (by decide +kernel)
theorem gm_377 : (Jvm.Cond.methodLink "GasYard$BookReader" (43 : Nat) ({ cls := "GasYard$BookReader", name := "readClause", desc := "(LGasYard$Rules;)V" } : Jvm.MethodName)) ∈ gG := gG_mem (List.mem_of_getElem? (i := 377) (by decide +kernel)) (by decide +kernel)
theorem gm_379 : (Jvm.Cond.instanceMethod ({ cls := "GasYard$BookReader", name := "readClause", desc := "(LGasYard$Rules;)V" } : Jvm.MethodName)) ∈ gG := gG_mem (List.mem_of_getElem? (i := 379) (by decide +kernel)) (by decide +kernel)
set_option maxRecDepth 20000 in
theorem gm_380 : (Jvm.Cond.code ({ cls := "GasYard$BookReader", name := "readClause", desc := "(LGasYard$Rules;)V" } : Jvm.MethodName) prog_3_method_4_code (4 : Nat) (Option.none : Option Jvm.ClassFile.FieldType)) ∈ gG := gG_mem (List.mem_of_getElem? (i := 380) (rfl)) (by decide +kernel)
theorem gm_381 : (Jvm.Cond.methodLink "GasYard$BookReader" (51 : Nat) ({ cls := "GasYard$BookReader", name := "readWord", desc := "()I" } : Jvm.MethodName)) ∈ gG := gG_mem (List.mem_of_getElem? (i := 381) (by decide +kernel)) (by decide +kernel)
theorem gm_383 : (Jvm.Cond.instanceMethod ({ cls := "GasYard$BookReader", name := "readWord", desc := "()I" } : Jvm.MethodName)) ∈ gG := gG_mem (List.mem_of_getElem? (i := 383) (by decide +kernel)) (by decide +kernel)
set_option maxRecDepth 20000 in
theorem gm_384 : (Jvm.Cond.code ({ cls := "GasYard$BookReader", name := "readWord", desc := "()I" } : Jvm.MethodName) prog_3_method_7_code (3 : Nat) (Option.some Jvm.ClassFile.FieldType.int)) ∈ gG := gG_mem (List.mem_of_getElem? (i := 384) (rfl)) (by decide +kernel)
theorem gm_385 : (Jvm.Cond.methodLink "GasYard$BookReader" (90 : Nat) ({ cls := "GasYard$BookReader", name := "isBetween", desc := "(ICC)Z" } : Jvm.MethodName)) ∈ gG := gG_mem (List.mem_of_getElem? (i := 385) (by decide +kernel)) (by decide +kernel)
theorem gm_386 : (Jvm.Cond.static ({ cls := "GasYard$BookReader", name := "isBetween", desc := "(ICC)Z" } : Jvm.MethodName)) ∈ gG := gG_mem (List.mem_of_getElem? (i := 386) (by decide +kernel)) (by decide +kernel)
set_option maxRecDepth 20000 in
theorem gm_387 : (Jvm.Cond.code ({ cls := "GasYard$BookReader", name := "isBetween", desc := "(ICC)Z" } : Jvm.MethodName) prog_3_method_13_code (3 : Nat) (Option.some Jvm.ClassFile.FieldType.boolean)) ∈ gG := gG_mem (List.mem_of_getElem? (i := 387) (rfl)) (by decide +kernel)
theorem gm_388 : (Jvm.Cond.methodLink "GasYard$BookReader" (94 : Nat) ({ cls := "GasYard$BookReader", name := "wordText", desc := "(I)Ljava/lang/String;" } : Jvm.MethodName)) ∈ gG := gG_mem (List.mem_of_getElem? (i := 388) (by decide +kernel)) (by decide +kernel)
theorem gm_389 : (Jvm.Cond.static ({ cls := "GasYard$BookReader", name := "wordText", desc := "(I)Ljava/lang/String;" } : Jvm.MethodName)) ∈ gG := gG_mem (List.mem_of_getElem? (i := 389) (by decide +kernel)) (by decide +kernel)
set_option maxRecDepth 20000 in
theorem gm_390 : (Jvm.Cond.code ({ cls := "GasYard$BookReader", name := "wordText", desc := "(I)Ljava/lang/String;" } : Jvm.MethodName) prog_3_method_9_code (1 : Nat) (Option.some (Jvm.ClassFile.FieldType.object "java/lang/String"))) ∈ gG := gG_mem (List.mem_of_getElem? (i := 390) (rfl)) (by decide +kernel)
theorem gm_397 : (Jvm.Cond.methodLink "GasYard$BookReader" (98 : Nat) ({ cls := "GasYard$BookReader", name := "isWord", desc := "(Ljava/lang/String;I)Z" } : Jvm.MethodName)) ∈ gG := gG_mem (List.mem_of_getElem? (i := 397) (by decide +kernel)) (by decide +kernel)
theorem gm_399 : (Jvm.Cond.instanceMethod ({ cls := "GasYard$BookReader", name := "isWord", desc := "(Ljava/lang/String;I)Z" } : Jvm.MethodName)) ∈ gG := gG_mem (List.mem_of_getElem? (i := 399) (by decide +kernel)) (by decide +kernel)
set_option maxRecDepth 20000 in
theorem gm_400 : (Jvm.Cond.code ({ cls := "GasYard$BookReader", name := "isWord", desc := "(Ljava/lang/String;I)Z" } : Jvm.MethodName) prog_3_method_8_code (4 : Nat) (Option.some Jvm.ClassFile.FieldType.boolean)) ∈ gG := gG_mem (List.mem_of_getElem? (i := 400) (rfl)) (by decide +kernel)
theorem gm_401 : (Jvm.Cond.methodLink "GasYard$BookReader" (102 : Nat) ({ cls := "java/lang/String", name := "length", desc := "()I" } : Jvm.MethodName)) ∈ gG := gG_mem (List.mem_of_getElem? (i := 401) (by decide +kernel)) (by decide +kernel)
theorem gm_402 : (Jvm.Cond.instanceMethod ({ cls := "java/lang/String", name := "length", desc := "()I" } : Jvm.MethodName)) ∈ gG := gG_mem (List.mem_of_getElem? (i := 402) (by decide +kernel)) (by decide +kernel)
theorem gm_403 : (Jvm.Cond.selects "java/lang/String" ({ cls := "java/lang/String", name := "length", desc := "()I" } : Jvm.MethodName) ({ cls := "java/lang/String", name := "length", desc := "()I" } : Jvm.MethodName)) ∈ gG := gG_mem (List.mem_of_getElem? (i := 403) (by decide +kernel)) (by decide +kernel)
set_option maxRecDepth 20000 in
theorem gm_404 : (Jvm.Cond.code ({ cls := "java/lang/String", name := "length", desc := "()I" } : Jvm.MethodName) prog_12_method_54_code (1 : Nat) (Option.some Jvm.ClassFile.FieldType.int)) ∈ gG := gG_mem (List.mem_of_getElem? (i := 404) (rfl)) (by decide +kernel)
theorem gm_405 : (Jvm.Cond.methodLink "java/lang/String" (335 : Nat) ({ cls := "java/lang/String", name := "coder", desc := "()B" } : Jvm.MethodName)) ∈ gG := gG_mem (List.mem_of_getElem? (i := 405) (by decide +kernel)) (by decide +kernel)
theorem gm_406 : (Jvm.Cond.instanceMethod ({ cls := "java/lang/String", name := "coder", desc := "()B" } : Jvm.MethodName)) ∈ gG := gG_mem (List.mem_of_getElem? (i := 406) (by decide +kernel)) (by decide +kernel)
theorem gm_407 : (Jvm.Cond.selects "java/lang/String" ({ cls := "java/lang/String", name := "coder", desc := "()B" } : Jvm.MethodName) ({ cls := "java/lang/String", name := "coder", desc := "()B" } : Jvm.MethodName)) ∈ gG := gG_mem (List.mem_of_getElem? (i := 407) (by decide +kernel)) (by decide +kernel)
set_option maxRecDepth 20000 in
theorem gm_408 : (Jvm.Cond.code ({ cls := "java/lang/String", name := "coder", desc := "()B" } : Jvm.MethodName) prog_12_method_152_code (1 : Nat) (Option.some Jvm.ClassFile.FieldType.byte)) ∈ gG := gG_mem (List.mem_of_getElem? (i := 408) (rfl)) (by decide +kernel)
theorem gm_409 : (Jvm.Cond.fieldLink "java/lang/String" (38 : Nat) "java/lang/String" "COMPACT_STRINGS" "Z") ∈ gG := gG_mem (List.mem_of_getElem? (i := 409) (by decide +kernel)) (by decide +kernel)
theorem gm_411 : (Jvm.Cond.methodLink "GasYard$BookReader" (107 : Nat) ({ cls := "java/lang/String", name := "charAt", desc := "(I)C" } : Jvm.MethodName)) ∈ gG := gG_mem (List.mem_of_getElem? (i := 411) (by decide +kernel)) (by decide +kernel)
theorem gm_412 : (Jvm.Cond.instanceMethod ({ cls := "java/lang/String", name := "charAt", desc := "(I)C" } : Jvm.MethodName)) ∈ gG := gG_mem (List.mem_of_getElem? (i := 412) (by decide +kernel)) (by decide +kernel)
theorem gm_413 : (Jvm.Cond.selects "java/lang/String" ({ cls := "java/lang/String", name := "charAt", desc := "(I)C" } : Jvm.MethodName) ({ cls := "java/lang/String", name := "charAt", desc := "(I)C" } : Jvm.MethodName)) ∈ gG := gG_mem (List.mem_of_getElem? (i := 413) (by decide +kernel)) (by decide +kernel)
set_option maxRecDepth 20000 in
theorem gm_414 : (Jvm.Cond.code ({ cls := "java/lang/String", name := "charAt", desc := "(I)C" } : Jvm.MethodName) prog_12_method_56_code (2 : Nat) (Option.some Jvm.ClassFile.FieldType.char)) ∈ gG := gG_mem (List.mem_of_getElem? (i := 414) (rfl)) (by decide +kernel)
theorem gm_415 : (Jvm.Cond.methodLink "java/lang/String" (492 : Nat) ({ cls := "java/lang/String", name := "isLatin1", desc := "()Z" } : Jvm.MethodName)) ∈ gG := gG_mem (List.mem_of_getElem? (i := 415) (by decide +kernel)) (by decide +kernel)
theorem gm_416 : (Jvm.Cond.instanceMethod ({ cls := "java/lang/String", name := "isLatin1", desc := "()Z" } : Jvm.MethodName)) ∈ gG := gG_mem (List.mem_of_getElem? (i := 416) (by decide +kernel)) (by decide +kernel)
theorem gm_417 : (Jvm.Cond.selects "java/lang/String" ({ cls := "java/lang/String", name := "isLatin1", desc := "()Z" } : Jvm.MethodName) ({ cls := "java/lang/String", name := "isLatin1", desc := "()Z" } : Jvm.MethodName)) ∈ gG := gG_mem (List.mem_of_getElem? (i := 417) (by decide +kernel)) (by decide +kernel)
set_option maxRecDepth 20000 in
theorem gm_418 : (Jvm.Cond.code ({ cls := "java/lang/String", name := "isLatin1", desc := "()Z" } : Jvm.MethodName) prog_12_method_154_code (1 : Nat) (Option.some Jvm.ClassFile.FieldType.boolean)) ∈ gG := gG_mem (List.mem_of_getElem? (i := 418) (rfl)) (by decide +kernel)
theorem gm_419 : (Jvm.Cond.methodLink "java/lang/String" (495 : Nat) ({ cls := "java/lang/StringLatin1", name := "charAt", desc := "([BI)C" } : Jvm.MethodName)) ∈ gG := gG_mem (List.mem_of_getElem? (i := 419) (by decide +kernel)) (by decide +kernel)
theorem gm_420 : (Jvm.Cond.static ({ cls := "java/lang/StringLatin1", name := "charAt", desc := "([BI)C" } : Jvm.MethodName)) ∈ gG := gG_mem (List.mem_of_getElem? (i := 420) (by decide +kernel)) (by decide +kernel)
set_option maxRecDepth 20000 in
theorem gm_421 : (Jvm.Cond.code ({ cls := "java/lang/StringLatin1", name := "charAt", desc := "([BI)C" } : Jvm.MethodName) prog_13_method_2_code (2 : Nat) (Option.some Jvm.ClassFile.FieldType.char)) ∈ gG := gG_mem (List.mem_of_getElem? (i := 421) (rfl)) (by decide +kernel)
theorem gm_422 : (Jvm.Cond.methodLink "java/lang/StringLatin1" (9 : Nat) ({ cls := "java/lang/String", name := "checkIndex", desc := "(II)V" } : Jvm.MethodName)) ∈ gG := gG_mem (List.mem_of_getElem? (i := 422) (by decide +kernel)) (by decide +kernel)
theorem gm_423 : (Jvm.Cond.static ({ cls := "java/lang/String", name := "checkIndex", desc := "(II)V" } : Jvm.MethodName)) ∈ gG := gG_mem (List.mem_of_getElem? (i := 423) (by decide +kernel)) (by decide +kernel)
set_option maxRecDepth 20000 in
theorem gm_424 : (Jvm.Cond.code ({ cls := "java/lang/String", name := "checkIndex", desc := "(II)V" } : Jvm.MethodName) prog_12_method_155_code (2 : Nat) (Option.none : Option Jvm.ClassFile.FieldType)) ∈ gG := gG_mem (List.mem_of_getElem? (i := 424) (rfl)) (by decide +kernel)
theorem gm_425 : (Jvm.Cond.fieldLink "java/lang/String" (1053 : Nat) "jdk/internal/util/Preconditions" "SIOOBE_FORMATTER" "Ljava/util/function/BiFunction;") ∈ gG := gG_mem (List.mem_of_getElem? (i := 425) (by decide +kernel)) (by decide +kernel)
theorem gm_427 : (Jvm.Cond.methodLink "java/lang/String" (1059 : Nat) ({ cls := "jdk/internal/util/Preconditions", name := "checkIndex", desc := "(IILjava/util/function/BiFunction;)I" } : Jvm.MethodName)) ∈ gG := gG_mem (List.mem_of_getElem? (i := 427) (by decide +kernel)) (by decide +kernel)
theorem gm_428 : (Jvm.Cond.static ({ cls := "jdk/internal/util/Preconditions", name := "checkIndex", desc := "(IILjava/util/function/BiFunction;)I" } : Jvm.MethodName)) ∈ gG := gG_mem (List.mem_of_getElem? (i := 428) (by decide +kernel)) (by decide +kernel)
set_option maxRecDepth 20000 in
theorem gm_429 : (Jvm.Cond.code ({ cls := "jdk/internal/util/Preconditions", name := "checkIndex", desc := "(IILjava/util/function/BiFunction;)I" } : Jvm.MethodName) prog_15_method_11_code (3 : Nat) (Option.some Jvm.ClassFile.FieldType.int)) ∈ gG := gG_mem (List.mem_of_getElem? (i := 429) (rfl)) (by decide +kernel)
theorem gm_430 : (Jvm.Cond.methodLink "java/lang/String" (498 : Nat) ({ cls := "java/lang/StringUTF16", name := "charAt", desc := "([BI)C" } : Jvm.MethodName)) ∈ gG := gG_mem (List.mem_of_getElem? (i := 430) (by decide +kernel)) (by decide +kernel)
theorem gm_431 : (Jvm.Cond.static ({ cls := "java/lang/StringUTF16", name := "charAt", desc := "([BI)C" } : Jvm.MethodName)) ∈ gG := gG_mem (List.mem_of_getElem? (i := 431) (by decide +kernel)) (by decide +kernel)
set_option maxRecDepth 20000 in
theorem gm_432 : (Jvm.Cond.code ({ cls := "java/lang/StringUTF16", name := "charAt", desc := "([BI)C" } : Jvm.MethodName) prog_14_method_83_code (2 : Nat) (Option.some Jvm.ClassFile.FieldType.char)) ∈ gG := gG_mem (List.mem_of_getElem? (i := 432) (rfl)) (by decide +kernel)
theorem gm_433 : (Jvm.Cond.methodLink "java/lang/StringUTF16" (67 : Nat) ({ cls := "java/lang/StringUTF16", name := "checkIndex", desc := "(I[B)V" } : Jvm.MethodName)) ∈ gG := gG_mem (List.mem_of_getElem? (i := 433) (by decide +kernel)) (by decide +kernel)
theorem gm_434 : (Jvm.Cond.static ({ cls := "java/lang/StringUTF16", name := "checkIndex", desc := "(I[B)V" } : Jvm.MethodName)) ∈ gG := gG_mem (List.mem_of_getElem? (i := 434) (by decide +kernel)) (by decide +kernel)
set_option maxRecDepth 20000 in
theorem gm_435 : (Jvm.Cond.code ({ cls := "java/lang/StringUTF16", name := "checkIndex", desc := "(I[B)V" } : Jvm.MethodName) prog_14_method_91_code (2 : Nat) (Option.none : Option Jvm.ClassFile.FieldType)) ∈ gG := gG_mem (List.mem_of_getElem? (i := 435) (rfl)) (by decide +kernel)
theorem gm_436 : (Jvm.Cond.methodLink "java/lang/StringUTF16" (48 : Nat) ({ cls := "java/lang/StringUTF16", name := "length", desc := "([B)I" } : Jvm.MethodName)) ∈ gG := gG_mem (List.mem_of_getElem? (i := 436) (by decide +kernel)) (by decide +kernel)
theorem gm_437 : (Jvm.Cond.static ({ cls := "java/lang/StringUTF16", name := "length", desc := "([B)I" } : Jvm.MethodName)) ∈ gG := gG_mem (List.mem_of_getElem? (i := 437) (by decide +kernel)) (by decide +kernel)
set_option maxRecDepth 20000 in
theorem gm_438 : (Jvm.Cond.code ({ cls := "java/lang/StringUTF16", name := "length", desc := "([B)I" } : Jvm.MethodName) prog_14_method_6_code (1 : Nat) (Option.some Jvm.ClassFile.FieldType.int)) ∈ gG := gG_mem (List.mem_of_getElem? (i := 438) (rfl)) (by decide +kernel)
theorem gm_439 : (Jvm.Cond.methodLink "java/lang/StringUTF16" (414 : Nat) ({ cls := "java/lang/String", name := "checkIndex", desc := "(II)V" } : Jvm.MethodName)) ∈ gG := gG_mem (List.mem_of_getElem? (i := 439) (by decide +kernel)) (by decide +kernel)
theorem gm_440 : (Jvm.Cond.methodLink "java/lang/StringUTF16" (71 : Nat) ({ cls := "java/lang/StringUTF16", name := "getChar", desc := "([BI)C" } : Jvm.MethodName)) ∈ gG := gG_mem (List.mem_of_getElem? (i := 440) (by decide +kernel)) (by decide +kernel)
theorem gm_441 : (Jvm.Cond.static ({ cls := "java/lang/StringUTF16", name := "getChar", desc := "([BI)C" } : Jvm.MethodName)) ∈ gG := gG_mem (List.mem_of_getElem? (i := 441) (by decide +kernel)) (by decide +kernel)
set_option maxRecDepth 20000 in
theorem gm_442 : (Jvm.Cond.code ({ cls := "java/lang/StringUTF16", name := "getChar", desc := "([BI)C" } : Jvm.MethodName) prog_14_method_5_code (2 : Nat) (Option.some Jvm.ClassFile.FieldType.char)) ∈ gG := gG_mem (List.mem_of_getElem? (i := 442) (rfl)) (by decide +kernel)
theorem gm_443 : (Jvm.Cond.fieldLink "java/lang/StringUTF16" (44 : Nat) "java/lang/StringUTF16" "$assertionsDisabled" "Z") ∈ gG := gG_mem (List.mem_of_getElem? (i := 443) (by decide +kernel)) (by decide +kernel)
theorem gm_445 : (Jvm.Cond.fieldLink "java/lang/StringUTF16" (59 : Nat) "java/lang/StringUTF16" "HI_BYTE_SHIFT" "I") ∈ gG := gG_mem (List.mem_of_getElem? (i := 445) (by decide +kernel)) (by decide +kernel)
theorem gm_447 : (Jvm.Cond.fieldLink "java/lang/StringUTF16" (63 : Nat) "java/lang/StringUTF16" "LO_BYTE_SHIFT" "I") ∈ gG := gG_mem (List.mem_of_getElem? (i := 447) (by decide +kernel)) (by decide +kernel)
theorem gm_449 : (Jvm.Cond.methodLink "GasYard$BookReader" (47 : Nat) ({ cls := "GasYard$BookReader", name := "blame", desc := "(II)V" } : Jvm.MethodName)) ∈ gG := gG_mem (List.mem_of_getElem? (i := 449) (by decide +kernel)) (by decide +kernel)
theorem gm_451 : (Jvm.Cond.instanceMethod ({ cls := "GasYard$BookReader", name := "blame", desc := "(II)V" } : Jvm.MethodName)) ∈ gG := gG_mem (List.mem_of_getElem? (i := 451) (by decide +kernel)) (by decide +kernel)
set_option maxRecDepth 20000 in
theorem gm_452 : (Jvm.Cond.code ({ cls := "GasYard$BookReader", name := "blame", desc := "(II)V" } : Jvm.MethodName) prog_3_method_12_code (3 : Nat) (Option.none : Option Jvm.ClassFile.FieldType)) ∈ gG := gG_mem (List.mem_of_getElem? (i := 452) (rfl)) (by decide +kernel)
theorem gm_453 : (Jvm.Cond.methodLink "GasYard$BookReader" (58 : Nat) ({ cls := "GasYard$BookReader", name := "readFlow", desc := "(LGasYard$Rules;)V" } : Jvm.MethodName)) ∈ gG := gG_mem (List.mem_of_getElem? (i := 453) (by decide +kernel)) (by decide +kernel)
theorem gm_455 : (Jvm.Cond.instanceMethod ({ cls := "GasYard$BookReader", name := "readFlow", desc := "(LGasYard$Rules;)V" } : Jvm.MethodName)) ∈ gG := gG_mem (List.mem_of_getElem? (i := 455) (by decide +kernel)) (by decide +kernel)
set_option maxRecDepth 20000 in
theorem gm_456 : (Jvm.Cond.code ({ cls := "GasYard$BookReader", name := "readFlow", desc := "(LGasYard$Rules;)V" } : Jvm.MethodName) prog_3_method_5_code (4 : Nat) (Option.none : Option Jvm.ClassFile.FieldType)) ∈ gG := gG_mem (List.mem_of_getElem? (i := 456) (rfl)) (by decide +kernel)
theorem gm_457 : (Jvm.Cond.methodLink "GasYard$BookReader" (65 : Nat) ({ cls := "GasYard$Rules", name := "nextFrom", desc := "()I" } : Jvm.MethodName)) ∈ gG := gG_mem (List.mem_of_getElem? (i := 457) (by decide +kernel)) (by decide +kernel)
theorem gm_458 : (Jvm.Cond.instanceMethod ({ cls := "GasYard$Rules", name := "nextFrom", desc := "()I" } : Jvm.MethodName)) ∈ gG := gG_mem (List.mem_of_getElem? (i := 458) (by decide +kernel)) (by decide +kernel)
theorem gm_459 : (Jvm.Cond.selects "GasYard$Rules" ({ cls := "GasYard$Rules", name := "nextFrom", desc := "()I" } : Jvm.MethodName) ({ cls := "GasYard$Rules", name := "nextFrom", desc := "()I" } : Jvm.MethodName)) ∈ gG := gG_mem (List.mem_of_getElem? (i := 459) (by decide +kernel)) (by decide +kernel)
set_option maxRecDepth 20000 in
theorem gm_460 : (Jvm.Cond.code ({ cls := "GasYard$Rules", name := "nextFrom", desc := "()I" } : Jvm.MethodName) prog_7_method_4_code (1 : Nat) (Option.some Jvm.ClassFile.FieldType.int)) ∈ gG := gG_mem (List.mem_of_getElem? (i := 460) (rfl)) (by decide +kernel)
theorem gm_461 : (Jvm.Cond.methodLink "GasYard$BookReader" (68 : Nat) ({ cls := "GasYard$BookReader", name := "readNumber", desc := "(II)I" } : Jvm.MethodName)) ∈ gG := gG_mem (List.mem_of_getElem? (i := 461) (by decide +kernel)) (by decide +kernel)
theorem gm_463 : (Jvm.Cond.instanceMethod ({ cls := "GasYard$BookReader", name := "readNumber", desc := "(II)I" } : Jvm.MethodName)) ∈ gG := gG_mem (List.mem_of_getElem? (i := 463) (by decide +kernel)) (by decide +kernel)
set_option maxRecDepth 20000 in
theorem gm_464 : (Jvm.Cond.code ({ cls := "GasYard$BookReader", name := "readNumber", desc := "(II)I" } : Jvm.MethodName) prog_3_method_10_code (6 : Nat) (Option.some Jvm.ClassFile.FieldType.int)) ∈ gG := gG_mem (List.mem_of_getElem? (i := 464) (rfl)) (by decide +kernel)
theorem gm_466 : (Jvm.Cond.methodLink "GasYard$BookReader" (72 : Nat) ({ cls := "GasYard$Rules", name := "addFlow", desc := "(II)V" } : Jvm.MethodName)) ∈ gG := gG_mem (List.mem_of_getElem? (i := 466) (by decide +kernel)) (by decide +kernel)
theorem gm_467 : (Jvm.Cond.instanceMethod ({ cls := "GasYard$Rules", name := "addFlow", desc := "(II)V" } : Jvm.MethodName)) ∈ gG := gG_mem (List.mem_of_getElem? (i := 467) (by decide +kernel)) (by decide +kernel)
theorem gm_468 : (Jvm.Cond.selects "GasYard$Rules" ({ cls := "GasYard$Rules", name := "addFlow", desc := "(II)V" } : Jvm.MethodName) ({ cls := "GasYard$Rules", name := "addFlow", desc := "(II)V" } : Jvm.MethodName)) ∈ gG := gG_mem (List.mem_of_getElem? (i := 468) (by decide +kernel)) (by decide +kernel)
set_option maxRecDepth 20000 in
theorem gm_469 : (Jvm.Cond.code ({ cls := "GasYard$Rules", name := "addFlow", desc := "(II)V" } : Jvm.MethodName) prog_7_method_3_code (3 : Nat) (Option.none : Option Jvm.ClassFile.FieldType)) ∈ gG := gG_mem (List.mem_of_getElem? (i := 469) (rfl)) (by decide +kernel)
theorem gm_470 : (Jvm.Cond.methodLink "GasYard$BookReader" (61 : Nat) ({ cls := "GasYard$BookReader", name := "readSetting", desc := "(ILGasYard$Rules;)V" } : Jvm.MethodName)) ∈ gG := gG_mem (List.mem_of_getElem? (i := 470) (by decide +kernel)) (by decide +kernel)
theorem gm_472 : (Jvm.Cond.instanceMethod ({ cls := "GasYard$BookReader", name := "readSetting", desc := "(ILGasYard$Rules;)V" } : Jvm.MethodName)) ∈ gG := gG_mem (List.mem_of_getElem? (i := 472) (by decide +kernel)) (by decide +kernel)
set_option maxRecDepth 20000 in
theorem gm_473 : (Jvm.Cond.code ({ cls := "GasYard$BookReader", name := "readSetting", desc := "(ILGasYard$Rules;)V" } : Jvm.MethodName) prog_3_method_6_code (3 : Nat) (Option.none : Option Jvm.ClassFile.FieldType)) ∈ gG := gG_mem (List.mem_of_getElem? (i := 473) (rfl)) (by decide +kernel)
theorem gm_474 : (Jvm.Cond.methodLink "GasYardLaw" (46 : Nat) ({ cls := "GasYard", name := "flow", desc := "(I)I" } : Jvm.MethodName)) ∈ gG := gG_mem (List.mem_of_getElem? (i := 474) (by decide +kernel)) (by decide +kernel)
theorem gm_475 : (Jvm.Cond.instanceMethod ({ cls := "GasYard", name := "flow", desc := "(I)I" } : Jvm.MethodName)) ∈ gG := gG_mem (List.mem_of_getElem? (i := 475) (by decide +kernel)) (by decide +kernel)
theorem gm_476 : (Jvm.Cond.selects "GasYard" ({ cls := "GasYard", name := "flow", desc := "(I)I" } : Jvm.MethodName) ({ cls := "GasYard", name := "flow", desc := "(I)I" } : Jvm.MethodName)) ∈ gG := gG_mem (List.mem_of_getElem? (i := 476) (by decide +kernel)) (by decide +kernel)
set_option maxRecDepth 20000 in
theorem gm_477 : (Jvm.Cond.code ({ cls := "GasYard", name := "flow", desc := "(I)I" } : Jvm.MethodName) prog_1_method_9_code (2 : Nat) (Option.some Jvm.ClassFile.FieldType.int)) ∈ gG := gG_mem (List.mem_of_getElem? (i := 477) (rfl)) (by decide +kernel)
theorem gm_478 : (Jvm.Cond.methodLink "GasYard" (126 : Nat) ({ cls := "GasYard$Rules", name := "flowAt", desc := "(I)I" } : Jvm.MethodName)) ∈ gG := gG_mem (List.mem_of_getElem? (i := 478) (by decide +kernel)) (by decide +kernel)
theorem gm_479 : (Jvm.Cond.instanceMethod ({ cls := "GasYard$Rules", name := "flowAt", desc := "(I)I" } : Jvm.MethodName)) ∈ gG := gG_mem (List.mem_of_getElem? (i := 479) (by decide +kernel)) (by decide +kernel)
theorem gm_480 : (Jvm.Cond.selects "GasYard$Rules" ({ cls := "GasYard$Rules", name := "flowAt", desc := "(I)I" } : Jvm.MethodName) ({ cls := "GasYard$Rules", name := "flowAt", desc := "(I)I" } : Jvm.MethodName)) ∈ gG := gG_mem (List.mem_of_getElem? (i := 480) (by decide +kernel)) (by decide +kernel)
set_option maxRecDepth 20000 in
theorem gm_481 : (Jvm.Cond.code ({ cls := "GasYard$Rules", name := "flowAt", desc := "(I)I" } : Jvm.MethodName) prog_7_method_5_code (4 : Nat) (Option.some Jvm.ClassFile.FieldType.int)) ∈ gG := gG_mem (List.mem_of_getElem? (i := 481) (rfl)) (by decide +kernel)
theorem gm_482 : (Jvm.Cond.methodLink "GasYardLaw" (50 : Nat) ({ cls := "GasYard", name := "price", desc := "(II)I" } : Jvm.MethodName)) ∈ gG := gG_mem (List.mem_of_getElem? (i := 482) (by decide +kernel)) (by decide +kernel)
theorem gm_483 : (Jvm.Cond.instanceMethod ({ cls := "GasYard", name := "price", desc := "(II)I" } : Jvm.MethodName)) ∈ gG := gG_mem (List.mem_of_getElem? (i := 483) (by decide +kernel)) (by decide +kernel)
theorem gm_484 : (Jvm.Cond.selects "GasYard" ({ cls := "GasYard", name := "price", desc := "(II)I" } : Jvm.MethodName) ({ cls := "GasYard", name := "price", desc := "(II)I" } : Jvm.MethodName)) ∈ gG := gG_mem (List.mem_of_getElem? (i := 484) (by decide +kernel)) (by decide +kernel)
set_option maxRecDepth 20000 in
theorem gm_485 : (Jvm.Cond.code ({ cls := "GasYard", name := "price", desc := "(II)I" } : Jvm.MethodName) prog_1_method_10_code (4 : Nat) (Option.some Jvm.ClassFile.FieldType.int)) ∈ gG := gG_mem (List.mem_of_getElem? (i := 485) (rfl)) (by decide +kernel)
theorem gm_486 : (Jvm.Cond.methodLink "GasYardLaw" (54 : Nat) ({ cls := "GasYard", name := "closed", desc := "(IZ)Z" } : Jvm.MethodName)) ∈ gG := gG_mem (List.mem_of_getElem? (i := 486) (by decide +kernel)) (by decide +kernel)
theorem gm_487 : (Jvm.Cond.instanceMethod ({ cls := "GasYard", name := "closed", desc := "(IZ)Z" } : Jvm.MethodName)) ∈ gG := gG_mem (List.mem_of_getElem? (i := 487) (by decide +kernel)) (by decide +kernel)
theorem gm_488 : (Jvm.Cond.selects "GasYard" ({ cls := "GasYard", name := "closed", desc := "(IZ)Z" } : Jvm.MethodName) ({ cls := "GasYard", name := "closed", desc := "(IZ)Z" } : Jvm.MethodName)) ∈ gG := gG_mem (List.mem_of_getElem? (i := 488) (by decide +kernel)) (by decide +kernel)
set_option maxRecDepth 20000 in
theorem gm_489 : (Jvm.Cond.code ({ cls := "GasYard", name := "closed", desc := "(IZ)Z" } : Jvm.MethodName) prog_1_method_11_code (3 : Nat) (Option.some Jvm.ClassFile.FieldType.boolean)) ∈ gG := gG_mem (List.mem_of_getElem? (i := 489) (rfl)) (by decide +kernel)
theorem gm_490 : (Jvm.Cond.methodLink "GasYardLaw" (59 : Nat) ({ cls := "GasYard", name := "sensor", desc := "(IIZ)Z" } : Jvm.MethodName)) ∈ gG := gG_mem (List.mem_of_getElem? (i := 490) (by decide +kernel)) (by decide +kernel)
theorem gm_491 : (Jvm.Cond.instanceMethod ({ cls := "GasYard", name := "sensor", desc := "(IIZ)Z" } : Jvm.MethodName)) ∈ gG := gG_mem (List.mem_of_getElem? (i := 491) (by decide +kernel)) (by decide +kernel)
theorem gm_492 : (Jvm.Cond.selects "GasYard" ({ cls := "GasYard", name := "sensor", desc := "(IIZ)Z" } : Jvm.MethodName) ({ cls := "GasYard", name := "sensor", desc := "(IIZ)Z" } : Jvm.MethodName)) ∈ gG := gG_mem (List.mem_of_getElem? (i := 492) (by decide +kernel)) (by decide +kernel)
set_option maxRecDepth 20000 in
theorem gm_493 : (Jvm.Cond.code ({ cls := "GasYard", name := "sensor", desc := "(IIZ)Z" } : Jvm.MethodName) prog_1_method_12_code (4 : Nat) (Option.some Jvm.ClassFile.FieldType.boolean)) ∈ gG := gG_mem (List.mem_of_getElem? (i := 493) (rfl)) (by decide +kernel)
theorem gm_494 : (Jvm.Cond.methodLink "GasYard" (130 : Nat) ({ cls := "GasYard", name := "loseOfBank", desc := "(LGasYard$Bank;Z)Z" } : Jvm.MethodName)) ∈ gG := gG_mem (List.mem_of_getElem? (i := 494) (by decide +kernel)) (by decide +kernel)
theorem gm_495 : (Jvm.Cond.static ({ cls := "GasYard", name := "loseOfBank", desc := "(LGasYard$Bank;Z)Z" } : Jvm.MethodName)) ∈ gG := gG_mem (List.mem_of_getElem? (i := 495) (by decide +kernel)) (by decide +kernel)
set_option maxRecDepth 20000 in
theorem gm_496 : (Jvm.Cond.code ({ cls := "GasYard", name := "loseOfBank", desc := "(LGasYard$Bank;Z)Z" } : Jvm.MethodName) prog_1_method_28_code (2 : Nat) (Option.some Jvm.ClassFile.FieldType.boolean)) ∈ gG := gG_mem (List.mem_of_getElem? (i := 496) (rfl)) (by decide +kernel)
theorem gm_497 : (Jvm.Cond.methodLink "GasYard" (134 : Nat) ({ cls := "GasYard", name := "carAt", desc := "(I)LGasYard$Car;" } : Jvm.MethodName)) ∈ gG := gG_mem (List.mem_of_getElem? (i := 497) (by decide +kernel)) (by decide +kernel)
theorem gm_499 : (Jvm.Cond.instanceMethod ({ cls := "GasYard", name := "carAt", desc := "(I)LGasYard$Car;" } : Jvm.MethodName)) ∈ gG := gG_mem (List.mem_of_getElem? (i := 499) (by decide +kernel)) (by decide +kernel)
set_option maxRecDepth 20000 in
theorem gm_500 : (Jvm.Cond.code ({ cls := "GasYard", name := "carAt", desc := "(I)LGasYard$Car;" } : Jvm.MethodName) prog_1_method_26_code (2 : Nat) (Option.some (Jvm.ClassFile.FieldType.object "GasYard$Car"))) ∈ gG := gG_mem (List.mem_of_getElem? (i := 500) (rfl)) (by decide +kernel)
theorem gm_501 : (Jvm.Cond.methodLink "GasYard" (138 : Nat) ({ cls := "GasYard", name := "loseOfCar", desc := "(LGasYard$Car;Z)Z" } : Jvm.MethodName)) ∈ gG := gG_mem (List.mem_of_getElem? (i := 501) (by decide +kernel)) (by decide +kernel)
theorem gm_502 : (Jvm.Cond.static ({ cls := "GasYard", name := "loseOfCar", desc := "(LGasYard$Car;Z)Z" } : Jvm.MethodName)) ∈ gG := gG_mem (List.mem_of_getElem? (i := 502) (by decide +kernel)) (by decide +kernel)
set_option maxRecDepth 20000 in
theorem gm_503 : (Jvm.Cond.code ({ cls := "GasYard", name := "loseOfCar", desc := "(LGasYard$Car;Z)Z" } : Jvm.MethodName) prog_1_method_29_code (2 : Nat) (Option.some Jvm.ClassFile.FieldType.boolean)) ∈ gG := gG_mem (List.mem_of_getElem? (i := 503) (rfl)) (by decide +kernel)
theorem gm_504 : (Jvm.Cond.methodLink "GasYard" (232 : Nat) ({ cls := "GasYard$Car", name := "isHere", desc := "()Z" } : Jvm.MethodName)) ∈ gG := gG_mem (List.mem_of_getElem? (i := 504) (by decide +kernel)) (by decide +kernel)
theorem gm_505 : (Jvm.Cond.instanceMethod ({ cls := "GasYard$Car", name := "isHere", desc := "()Z" } : Jvm.MethodName)) ∈ gG := gG_mem (List.mem_of_getElem? (i := 505) (by decide +kernel)) (by decide +kernel)
theorem gm_506 : (Jvm.Cond.selects "GasYard$Car" ({ cls := "GasYard$Car", name := "isHere", desc := "()Z" } : Jvm.MethodName) ({ cls := "GasYard$Car", name := "isHere", desc := "()Z" } : Jvm.MethodName)) ∈ gG := gG_mem (List.mem_of_getElem? (i := 506) (by decide +kernel)) (by decide +kernel)
set_option maxRecDepth 20000 in
theorem gm_507 : (Jvm.Cond.code ({ cls := "GasYard$Car", name := "isHere", desc := "()Z" } : Jvm.MethodName) prog_4_method_3_code (1 : Nat) (Option.some Jvm.ClassFile.FieldType.boolean)) ∈ gG := gG_mem (List.mem_of_getElem? (i := 507) (rfl)) (by decide +kernel)
theorem gm_508 : (Jvm.Cond.methodLink "GasYardLaw" (64 : Nat) ({ cls := "GasYard", name := "car", desc := "(III)I" } : Jvm.MethodName)) ∈ gG := gG_mem (List.mem_of_getElem? (i := 508) (by decide +kernel)) (by decide +kernel)
theorem gm_509 : (Jvm.Cond.instanceMethod ({ cls := "GasYard", name := "car", desc := "(III)I" } : Jvm.MethodName)) ∈ gG := gG_mem (List.mem_of_getElem? (i := 509) (by decide +kernel)) (by decide +kernel)
theorem gm_510 : (Jvm.Cond.selects "GasYard" ({ cls := "GasYard", name := "car", desc := "(III)I" } : Jvm.MethodName) ({ cls := "GasYard", name := "car", desc := "(III)I" } : Jvm.MethodName)) ∈ gG := gG_mem (List.mem_of_getElem? (i := 510) (by decide +kernel)) (by decide +kernel)
set_option maxRecDepth 20000 in
theorem gm_511 : (Jvm.Cond.code ({ cls := "GasYard", name := "car", desc := "(III)I" } : Jvm.MethodName) prog_1_method_13_code (5 : Nat) (Option.some Jvm.ClassFile.FieldType.int)) ∈ gG := gG_mem (List.mem_of_getElem? (i := 511) (rfl)) (by decide +kernel)
theorem gm_512 : (Jvm.Cond.methodLink "GasYard" (142 : Nat) ({ cls := "GasYard", name := "carAsTold", desc := "(III)Z" } : Jvm.MethodName)) ∈ gG := gG_mem (List.mem_of_getElem? (i := 512) (by decide +kernel)) (by decide +kernel)
theorem gm_513 : (Jvm.Cond.static ({ cls := "GasYard", name := "carAsTold", desc := "(III)Z" } : Jvm.MethodName)) ∈ gG := gG_mem (List.mem_of_getElem? (i := 513) (by decide +kernel)) (by decide +kernel)
set_option maxRecDepth 20000 in
theorem gm_514 : (Jvm.Cond.code ({ cls := "GasYard", name := "carAsTold", desc := "(III)Z" } : Jvm.MethodName) prog_1_method_23_code (3 : Nat) (Option.some Jvm.ClassFile.FieldType.boolean)) ∈ gG := gG_mem (List.mem_of_getElem? (i := 514) (rfl)) (by decide +kernel)
theorem gm_516 : (Jvm.Cond.methodLink "GasYard" (146 : Nat) ({ cls := "GasYard", name := "airTenths", desc := "()I" } : Jvm.MethodName)) ∈ gG := gG_mem (List.mem_of_getElem? (i := 516) (by decide +kernel)) (by decide +kernel)
theorem gm_518 : (Jvm.Cond.instanceMethod ({ cls := "GasYard", name := "airTenths", desc := "()I" } : Jvm.MethodName)) ∈ gG := gG_mem (List.mem_of_getElem? (i := 518) (by decide +kernel)) (by decide +kernel)
set_option maxRecDepth 20000 in
theorem gm_519 : (Jvm.Cond.code ({ cls := "GasYard", name := "airTenths", desc := "()I" } : Jvm.MethodName) prog_1_method_24_code (1 : Nat) (Option.some Jvm.ClassFile.FieldType.int)) ∈ gG := gG_mem (List.mem_of_getElem? (i := 519) (rfl)) (by decide +kernel)
theorem gm_520 : (Jvm.Cond.methodLink "GasYard" (150 : Nat) ({ cls := "GasYard$Car", name := "comeWith", desc := "(IIII)V" } : Jvm.MethodName)) ∈ gG := gG_mem (List.mem_of_getElem? (i := 520) (by decide +kernel)) (by decide +kernel)
theorem gm_521 : (Jvm.Cond.instanceMethod ({ cls := "GasYard$Car", name := "comeWith", desc := "(IIII)V" } : Jvm.MethodName)) ∈ gG := gG_mem (List.mem_of_getElem? (i := 521) (by decide +kernel)) (by decide +kernel)
theorem gm_522 : (Jvm.Cond.selects "GasYard$Car" ({ cls := "GasYard$Car", name := "comeWith", desc := "(IIII)V" } : Jvm.MethodName) ({ cls := "GasYard$Car", name := "comeWith", desc := "(IIII)V" } : Jvm.MethodName)) ∈ gG := gG_mem (List.mem_of_getElem? (i := 522) (by decide +kernel)) (by decide +kernel)
set_option maxRecDepth 20000 in
theorem gm_523 : (Jvm.Cond.code ({ cls := "GasYard$Car", name := "comeWith", desc := "(IIII)V" } : Jvm.MethodName) prog_4_method_2_code (5 : Nat) (Option.none : Option Jvm.ClassFile.FieldType)) ∈ gG := gG_mem (List.mem_of_getElem? (i := 523) (rfl)) (by decide +kernel)
theorem gm_524 : (Jvm.Cond.methodLink "GasYardLaw" (68 : Nat) ({ cls := "GasYard", name := "pass", desc := "(I)I" } : Jvm.MethodName)) ∈ gG := gG_mem (List.mem_of_getElem? (i := 524) (by decide +kernel)) (by decide +kernel)
theorem gm_525 : (Jvm.Cond.instanceMethod ({ cls := "GasYard", name := "pass", desc := "(I)I" } : Jvm.MethodName)) ∈ gG := gG_mem (List.mem_of_getElem? (i := 525) (by decide +kernel)) (by decide +kernel)
theorem gm_526 : (Jvm.Cond.selects "GasYard" ({ cls := "GasYard", name := "pass", desc := "(I)I" } : Jvm.MethodName) ({ cls := "GasYard", name := "pass", desc := "(I)I" } : Jvm.MethodName)) ∈ gG := gG_mem (List.mem_of_getElem? (i := 526) (by decide +kernel)) (by decide +kernel)
set_option maxRecDepth 20000 in
theorem gm_527 : (Jvm.Cond.code ({ cls := "GasYard", name := "pass", desc := "(I)I" } : Jvm.MethodName) prog_1_method_14_code (3 : Nat) (Option.some Jvm.ClassFile.FieldType.int)) ∈ gG := gG_mem (List.mem_of_getElem? (i := 527) (rfl)) (by decide +kernel)
theorem gm_528 : (Jvm.Cond.methodLink "GasYard" (154 : Nat) ({ cls := "GasYard", name := "takeFromLine", desc := "()V" } : Jvm.MethodName)) ∈ gG := gG_mem (List.mem_of_getElem? (i := 528) (by decide +kernel)) (by decide +kernel)
theorem gm_530 : (Jvm.Cond.instanceMethod ({ cls := "GasYard", name := "takeFromLine", desc := "()V" } : Jvm.MethodName)) ∈ gG := gG_mem (List.mem_of_getElem? (i := 530) (by decide +kernel)) (by decide +kernel)
set_option maxRecDepth 20000 in
theorem gm_531 : (Jvm.Cond.code ({ cls := "GasYard", name := "takeFromLine", desc := "()V" } : Jvm.MethodName) prog_1_method_30_code (3 : Nat) (Option.none : Option Jvm.ClassFile.FieldType)) ∈ gG := gG_mem (List.mem_of_getElem? (i := 531) (rfl)) (by decide +kernel)
theorem gm_532 : (Jvm.Cond.methodLink "GasYard" (157 : Nat) ({ cls := "GasYard", name := "serveHoses", desc := "()V" } : Jvm.MethodName)) ∈ gG := gG_mem (List.mem_of_getElem? (i := 532) (by decide +kernel)) (by decide +kernel)
theorem gm_534 : (Jvm.Cond.instanceMethod ({ cls := "GasYard", name := "serveHoses", desc := "()V" } : Jvm.MethodName)) ∈ gG := gG_mem (List.mem_of_getElem? (i := 534) (by decide +kernel)) (by decide +kernel)
set_option maxRecDepth 20000 in
theorem gm_535 : (Jvm.Cond.code ({ cls := "GasYard", name := "serveHoses", desc := "()V" } : Jvm.MethodName) prog_1_method_31_code (3 : Nat) (Option.none : Option Jvm.ClassFile.FieldType)) ∈ gG := gG_mem (List.mem_of_getElem? (i := 535) (rfl)) (by decide +kernel)
theorem gm_536 : (Jvm.Cond.methodLink "GasYard" (245 : Nat) ({ cls := "GasYard", name := "drawsOn", desc := "(LGasYard$Car;)Z" } : Jvm.MethodName)) ∈ gG := gG_mem (List.mem_of_getElem? (i := 536) (by decide +kernel)) (by decide +kernel)
theorem gm_538 : (Jvm.Cond.instanceMethod ({ cls := "GasYard", name := "drawsOn", desc := "(LGasYard$Car;)Z" } : Jvm.MethodName)) ∈ gG := gG_mem (List.mem_of_getElem? (i := 538) (by decide +kernel)) (by decide +kernel)
set_option maxRecDepth 20000 in
theorem gm_539 : (Jvm.Cond.code ({ cls := "GasYard", name := "drawsOn", desc := "(LGasYard$Car;)Z" } : Jvm.MethodName) prog_1_method_32_code (5 : Nat) (Option.some Jvm.ClassFile.FieldType.boolean)) ∈ gG := gG_mem (List.mem_of_getElem? (i := 539) (rfl)) (by decide +kernel)
theorem gm_540 : (Jvm.Cond.methodLink "GasYard" (252 : Nat) ({ cls := "GasYard$Rules", name := "unitsOver", desc := "(LGasYard$Bank;LGasYard$Car;)I" } : Jvm.MethodName)) ∈ gG := gG_mem (List.mem_of_getElem? (i := 540) (by decide +kernel)) (by decide +kernel)
theorem gm_541 : (Jvm.Cond.instanceMethod ({ cls := "GasYard$Rules", name := "unitsOver", desc := "(LGasYard$Bank;LGasYard$Car;)I" } : Jvm.MethodName)) ∈ gG := gG_mem (List.mem_of_getElem? (i := 541) (by decide +kernel)) (by decide +kernel)
theorem gm_542 : (Jvm.Cond.selects "GasYard$Rules" ({ cls := "GasYard$Rules", name := "unitsOver", desc := "(LGasYard$Bank;LGasYard$Car;)I" } : Jvm.MethodName) ({ cls := "GasYard$Rules", name := "unitsOver", desc := "(LGasYard$Bank;LGasYard$Car;)I" } : Jvm.MethodName)) ∈ gG := gG_mem (List.mem_of_getElem? (i := 542) (by decide +kernel)) (by decide +kernel)
set_option maxRecDepth 20000 in
theorem gm_543 : (Jvm.Cond.code ({ cls := "GasYard$Rules", name := "unitsOver", desc := "(LGasYard$Bank;LGasYard$Car;)I" } : Jvm.MethodName) prog_7_method_7_code (4 : Nat) (Option.some Jvm.ClassFile.FieldType.int)) ∈ gG := gG_mem (List.mem_of_getElem? (i := 543) (rfl)) (by decide +kernel)
theorem gm_544 : (Jvm.Cond.methodLink "GasYard$Rules" (43 : Nat) ({ cls := "GasYard$Bank", name := "pressure", desc := "()I" } : Jvm.MethodName)) ∈ gG := gG_mem (List.mem_of_getElem? (i := 544) (by decide +kernel)) (by decide +kernel)
theorem gm_545 : (Jvm.Cond.instanceMethod ({ cls := "GasYard$Bank", name := "pressure", desc := "()I" } : Jvm.MethodName)) ∈ gG := gG_mem (List.mem_of_getElem? (i := 545) (by decide +kernel)) (by decide +kernel)
theorem gm_546 : (Jvm.Cond.selects "GasYard$Bank" ({ cls := "GasYard$Bank", name := "pressure", desc := "()I" } : Jvm.MethodName) ({ cls := "GasYard$Bank", name := "pressure", desc := "()I" } : Jvm.MethodName)) ∈ gG := gG_mem (List.mem_of_getElem? (i := 546) (by decide +kernel)) (by decide +kernel)
set_option maxRecDepth 20000 in
theorem gm_547 : (Jvm.Cond.code ({ cls := "GasYard$Bank", name := "pressure", desc := "()I" } : Jvm.MethodName) prog_2_method_2_code (1 : Nat) (Option.some Jvm.ClassFile.FieldType.int)) ∈ gG := gG_mem (List.mem_of_getElem? (i := 547) (rfl)) (by decide +kernel)
theorem gm_548 : (Jvm.Cond.methodLink "GasYard$Rules" (49 : Nat) ({ cls := "GasYard$Car", name := "pressure", desc := "()I" } : Jvm.MethodName)) ∈ gG := gG_mem (List.mem_of_getElem? (i := 548) (by decide +kernel)) (by decide +kernel)
theorem gm_549 : (Jvm.Cond.instanceMethod ({ cls := "GasYard$Car", name := "pressure", desc := "()I" } : Jvm.MethodName)) ∈ gG := gG_mem (List.mem_of_getElem? (i := 549) (by decide +kernel)) (by decide +kernel)
theorem gm_550 : (Jvm.Cond.selects "GasYard$Car" ({ cls := "GasYard$Car", name := "pressure", desc := "()I" } : Jvm.MethodName) ({ cls := "GasYard$Car", name := "pressure", desc := "()I" } : Jvm.MethodName)) ∈ gG := gG_mem (List.mem_of_getElem? (i := 550) (by decide +kernel)) (by decide +kernel)
set_option maxRecDepth 20000 in
theorem gm_551 : (Jvm.Cond.code ({ cls := "GasYard$Car", name := "pressure", desc := "()I" } : Jvm.MethodName) prog_4_method_4_code (1 : Nat) (Option.some Jvm.ClassFile.FieldType.int)) ∈ gG := gG_mem (List.mem_of_getElem? (i := 551) (rfl)) (by decide +kernel)
theorem gm_552 : (Jvm.Cond.methodLink "GasYard$Rules" (52 : Nat) ({ cls := "GasYard$Rules", name := "flowAt", desc := "(I)I" } : Jvm.MethodName)) ∈ gG := gG_mem (List.mem_of_getElem? (i := 552) (by decide +kernel)) (by decide +kernel)
theorem gm_553 : (Jvm.Cond.methodLink "GasYard$Rules" (56 : Nat) ({ cls := "GasYard$Rules", name := "unitsToEven", desc := "(LGasYard$Bank;LGasYard$Car;)I" } : Jvm.MethodName)) ∈ gG := gG_mem (List.mem_of_getElem? (i := 553) (by decide +kernel)) (by decide +kernel)
theorem gm_555 : (Jvm.Cond.instanceMethod ({ cls := "GasYard$Rules", name := "unitsToEven", desc := "(LGasYard$Bank;LGasYard$Car;)I" } : Jvm.MethodName)) ∈ gG := gG_mem (List.mem_of_getElem? (i := 555) (by decide +kernel)) (by decide +kernel)
set_option maxRecDepth 20000 in
theorem gm_556 : (Jvm.Cond.code ({ cls := "GasYard$Rules", name := "unitsToEven", desc := "(LGasYard$Bank;LGasYard$Car;)I" } : Jvm.MethodName) prog_7_method_8_code (5 : Nat) (Option.some Jvm.ClassFile.FieldType.int)) ∈ gG := gG_mem (List.mem_of_getElem? (i := 556) (rfl)) (by decide +kernel)
theorem gm_557 : (Jvm.Cond.methodLink "GasYard$Rules" (60 : Nat) ({ cls := "java/lang/Math", name := "min", desc := "(II)I" } : Jvm.MethodName)) ∈ gG := gG_mem (List.mem_of_getElem? (i := 557) (by decide +kernel)) (by decide +kernel)
theorem gm_558 : (Jvm.Cond.static ({ cls := "java/lang/Math", name := "min", desc := "(II)I" } : Jvm.MethodName)) ∈ gG := gG_mem (List.mem_of_getElem? (i := 558) (by decide +kernel)) (by decide +kernel)
set_option maxRecDepth 20000 in
theorem gm_559 : (Jvm.Cond.code ({ cls := "java/lang/Math", name := "min", desc := "(II)I" } : Jvm.MethodName) prog_11_method_69_code (2 : Nat) (Option.some Jvm.ClassFile.FieldType.int)) ∈ gG := gG_mem (List.mem_of_getElem? (i := 559) (rfl)) (by decide +kernel)
theorem gm_560 : (Jvm.Cond.methodLink "GasYard$Rules" (63 : Nat) ({ cls := "GasYard$Car", name := "lacks", desc := "()I" } : Jvm.MethodName)) ∈ gG := gG_mem (List.mem_of_getElem? (i := 560) (by decide +kernel)) (by decide +kernel)
theorem gm_561 : (Jvm.Cond.instanceMethod ({ cls := "GasYard$Car", name := "lacks", desc := "()I" } : Jvm.MethodName)) ∈ gG := gG_mem (List.mem_of_getElem? (i := 561) (by decide +kernel)) (by decide +kernel)
theorem gm_562 : (Jvm.Cond.selects "GasYard$Car" ({ cls := "GasYard$Car", name := "lacks", desc := "()I" } : Jvm.MethodName) ({ cls := "GasYard$Car", name := "lacks", desc := "()I" } : Jvm.MethodName)) ∈ gG := gG_mem (List.mem_of_getElem? (i := 562) (by decide +kernel)) (by decide +kernel)
set_option maxRecDepth 20000 in
theorem gm_563 : (Jvm.Cond.code ({ cls := "GasYard$Car", name := "lacks", desc := "()I" } : Jvm.MethodName) prog_4_method_5_code (1 : Nat) (Option.some Jvm.ClassFile.FieldType.int)) ∈ gG := gG_mem (List.mem_of_getElem? (i := 563) (rfl)) (by decide +kernel)
theorem gm_564 : (Jvm.Cond.methodLink "GasYard$Car" (43 : Nat) ({ cls := "java/lang/Math", name := "max", desc := "(II)I" } : Jvm.MethodName)) ∈ gG := gG_mem (List.mem_of_getElem? (i := 564) (by decide +kernel)) (by decide +kernel)
theorem gm_565 : (Jvm.Cond.static ({ cls := "java/lang/Math", name := "max", desc := "(II)I" } : Jvm.MethodName)) ∈ gG := gG_mem (List.mem_of_getElem? (i := 565) (by decide +kernel)) (by decide +kernel)
set_option maxRecDepth 20000 in
theorem gm_566 : (Jvm.Cond.code ({ cls := "java/lang/Math", name := "max", desc := "(II)I" } : Jvm.MethodName) prog_11_method_65_code (2 : Nat) (Option.some Jvm.ClassFile.FieldType.int)) ∈ gG := gG_mem (List.mem_of_getElem? (i := 566) (rfl)) (by decide +kernel)
theorem gm_567 : (Jvm.Cond.methodLink "GasYard$Rules" (66 : Nat) ({ cls := "GasYard$Rules", name := "unitsToLimit", desc := "(LGasYard$Car;)I" } : Jvm.MethodName)) ∈ gG := gG_mem (List.mem_of_getElem? (i := 567) (by decide +kernel)) (by decide +kernel)
theorem gm_569 : (Jvm.Cond.instanceMethod ({ cls := "GasYard$Rules", name := "unitsToLimit", desc := "(LGasYard$Car;)I" } : Jvm.MethodName)) ∈ gG := gG_mem (List.mem_of_getElem? (i := 569) (by decide +kernel)) (by decide +kernel)
set_option maxRecDepth 20000 in
theorem gm_570 : (Jvm.Cond.code ({ cls := "GasYard$Rules", name := "unitsToLimit", desc := "(LGasYard$Car;)I" } : Jvm.MethodName) prog_7_method_9_code (3 : Nat) (Option.some Jvm.ClassFile.FieldType.int)) ∈ gG := gG_mem (List.mem_of_getElem? (i := 570) (rfl)) (by decide +kernel)
theorem gm_571 : (Jvm.Cond.methodLink "GasYard" (256 : Nat) ({ cls := "GasYard$Rules", name := "moveOver", desc := "(LGasYard$Bank;LGasYard$Car;I)V" } : Jvm.MethodName)) ∈ gG := gG_mem (List.mem_of_getElem? (i := 571) (by decide +kernel)) (by decide +kernel)
theorem gm_572 : (Jvm.Cond.instanceMethod ({ cls := "GasYard$Rules", name := "moveOver", desc := "(LGasYard$Bank;LGasYard$Car;I)V" } : Jvm.MethodName)) ∈ gG := gG_mem (List.mem_of_getElem? (i := 572) (by decide +kernel)) (by decide +kernel)
theorem gm_573 : (Jvm.Cond.selects "GasYard$Rules" ({ cls := "GasYard$Rules", name := "moveOver", desc := "(LGasYard$Bank;LGasYard$Car;I)V" } : Jvm.MethodName) ({ cls := "GasYard$Rules", name := "moveOver", desc := "(LGasYard$Bank;LGasYard$Car;I)V" } : Jvm.MethodName)) ∈ gG := gG_mem (List.mem_of_getElem? (i := 573) (by decide +kernel)) (by decide +kernel)
set_option maxRecDepth 20000 in
theorem gm_574 : (Jvm.Cond.code ({ cls := "GasYard$Rules", name := "moveOver", desc := "(LGasYard$Bank;LGasYard$Car;I)V" } : Jvm.MethodName) prog_7_method_10_code (4 : Nat) (Option.none : Option Jvm.ClassFile.FieldType)) ∈ gG := gG_mem (List.mem_of_getElem? (i := 574) (rfl)) (by decide +kernel)
theorem gm_575 : (Jvm.Cond.methodLink "GasYard" (260 : Nat) ({ cls := "GasYard$Car", name := "lacks", desc := "()I" } : Jvm.MethodName)) ∈ gG := gG_mem (List.mem_of_getElem? (i := 575) (by decide +kernel)) (by decide +kernel)
theorem gm_576 : (Jvm.Cond.methodLink "GasYard" (160 : Nat) ({ cls := "GasYard", name := "coolCars", desc := "()V" } : Jvm.MethodName)) ∈ gG := gG_mem (List.mem_of_getElem? (i := 576) (by decide +kernel)) (by decide +kernel)
theorem gm_578 : (Jvm.Cond.instanceMethod ({ cls := "GasYard", name := "coolCars", desc := "()V" } : Jvm.MethodName)) ∈ gG := gG_mem (List.mem_of_getElem? (i := 578) (by decide +kernel)) (by decide +kernel)
set_option maxRecDepth 20000 in
theorem gm_579 : (Jvm.Cond.code ({ cls := "GasYard", name := "coolCars", desc := "()V" } : Jvm.MethodName) prog_1_method_33_code (3 : Nat) (Option.none : Option Jvm.ClassFile.FieldType)) ∈ gG := gG_mem (List.mem_of_getElem? (i := 579) (rfl)) (by decide +kernel)
theorem gm_580 : (Jvm.Cond.methodLink "GasYard" (263 : Nat) ({ cls := "GasYard$Rules", name := "coolDown", desc := "(LGasYard$Car;I)V" } : Jvm.MethodName)) ∈ gG := gG_mem (List.mem_of_getElem? (i := 580) (by decide +kernel)) (by decide +kernel)
theorem gm_581 : (Jvm.Cond.instanceMethod ({ cls := "GasYard$Rules", name := "coolDown", desc := "(LGasYard$Car;I)V" } : Jvm.MethodName)) ∈ gG := gG_mem (List.mem_of_getElem? (i := 581) (by decide +kernel)) (by decide +kernel)
theorem gm_582 : (Jvm.Cond.selects "GasYard$Rules" ({ cls := "GasYard$Rules", name := "coolDown", desc := "(LGasYard$Car;I)V" } : Jvm.MethodName) ({ cls := "GasYard$Rules", name := "coolDown", desc := "(LGasYard$Car;I)V" } : Jvm.MethodName)) ∈ gG := gG_mem (List.mem_of_getElem? (i := 582) (by decide +kernel)) (by decide +kernel)
set_option maxRecDepth 20000 in
theorem gm_583 : (Jvm.Cond.code ({ cls := "GasYard$Rules", name := "coolDown", desc := "(LGasYard$Car;I)V" } : Jvm.MethodName) prog_7_method_11_code (3 : Nat) (Option.none : Option Jvm.ClassFile.FieldType)) ∈ gG := gG_mem (List.mem_of_getElem? (i := 583) (rfl)) (by decide +kernel)
theorem gm_584 : (Jvm.Cond.methodLink "GasYard" (163 : Nat) ({ cls := "GasYard", name := "runPress", desc := "()V" } : Jvm.MethodName)) ∈ gG := gG_mem (List.mem_of_getElem? (i := 584) (by decide +kernel)) (by decide +kernel)
theorem gm_586 : (Jvm.Cond.instanceMethod ({ cls := "GasYard", name := "runPress", desc := "()V" } : Jvm.MethodName)) ∈ gG := gG_mem (List.mem_of_getElem? (i := 586) (by decide +kernel)) (by decide +kernel)
set_option maxRecDepth 20000 in
theorem gm_587 : (Jvm.Cond.code ({ cls := "GasYard", name := "runPress", desc := "()V" } : Jvm.MethodName) prog_1_method_34_code (6 : Nat) (Option.none : Option Jvm.ClassFile.FieldType)) ∈ gG := gG_mem (List.mem_of_getElem? (i := 587) (rfl)) (by decide +kernel)
theorem gm_588 : (Jvm.Cond.methodLink "GasYard" (267 : Nat) ({ cls := "GasYard$Bank", name := "lacks", desc := "()I" } : Jvm.MethodName)) ∈ gG := gG_mem (List.mem_of_getElem? (i := 588) (by decide +kernel)) (by decide +kernel)
theorem gm_589 : (Jvm.Cond.instanceMethod ({ cls := "GasYard$Bank", name := "lacks", desc := "()I" } : Jvm.MethodName)) ∈ gG := gG_mem (List.mem_of_getElem? (i := 589) (by decide +kernel)) (by decide +kernel)
theorem gm_590 : (Jvm.Cond.selects "GasYard$Bank" ({ cls := "GasYard$Bank", name := "lacks", desc := "()I" } : Jvm.MethodName) ({ cls := "GasYard$Bank", name := "lacks", desc := "()I" } : Jvm.MethodName)) ∈ gG := gG_mem (List.mem_of_getElem? (i := 590) (by decide +kernel)) (by decide +kernel)
set_option maxRecDepth 20000 in
theorem gm_591 : (Jvm.Cond.code ({ cls := "GasYard$Bank", name := "lacks", desc := "()I" } : Jvm.MethodName) prog_2_method_3_code (1 : Nat) (Option.some Jvm.ClassFile.FieldType.int)) ∈ gG := gG_mem (List.mem_of_getElem? (i := 591) (rfl)) (by decide +kernel)
theorem gm_592 : (Jvm.Cond.methodLink "GasYard$Bank" (31 : Nat) ({ cls := "java/lang/Math", name := "max", desc := "(II)I" } : Jvm.MethodName)) ∈ gG := gG_mem (List.mem_of_getElem? (i := 592) (by decide +kernel)) (by decide +kernel)
theorem gm_593 : (Jvm.Cond.methodLink "GasYard" (268 : Nat) ({ cls := "java/lang/Math", name := "min", desc := "(II)I" } : Jvm.MethodName)) ∈ gG := gG_mem (List.mem_of_getElem? (i := 593) (by decide +kernel)) (by decide +kernel)
theorem gm_594 : (Jvm.Cond.methodLink "GasYard" (272 : Nat) ({ cls := "GasYard$Ledger", name := "press", desc := "(II)V" } : Jvm.MethodName)) ∈ gG := gG_mem (List.mem_of_getElem? (i := 594) (by decide +kernel)) (by decide +kernel)
theorem gm_595 : (Jvm.Cond.instanceMethod ({ cls := "GasYard$Ledger", name := "press", desc := "(II)V" } : Jvm.MethodName)) ∈ gG := gG_mem (List.mem_of_getElem? (i := 595) (by decide +kernel)) (by decide +kernel)
theorem gm_596 : (Jvm.Cond.selects "GasYard$Ledger" ({ cls := "GasYard$Ledger", name := "press", desc := "(II)V" } : Jvm.MethodName) ({ cls := "GasYard$Ledger", name := "press", desc := "(II)V" } : Jvm.MethodName)) ∈ gG := gG_mem (List.mem_of_getElem? (i := 596) (by decide +kernel)) (by decide +kernel)
set_option maxRecDepth 20000 in
theorem gm_597 : (Jvm.Cond.code ({ cls := "GasYard$Ledger", name := "press", desc := "(II)V" } : Jvm.MethodName) prog_5_method_2_code (3 : Nat) (Option.none : Option Jvm.ClassFile.FieldType)) ∈ gG := gG_mem (List.mem_of_getElem? (i := 597) (rfl)) (by decide +kernel)
theorem gm_598 : (Jvm.Cond.methodLink "GasYardLaw" (72 : Nat) ({ cls := "GasYard", name := "reading", desc := "(II)I" } : Jvm.MethodName)) ∈ gG := gG_mem (List.mem_of_getElem? (i := 598) (by decide +kernel)) (by decide +kernel)
theorem gm_599 : (Jvm.Cond.instanceMethod ({ cls := "GasYard", name := "reading", desc := "(II)I" } : Jvm.MethodName)) ∈ gG := gG_mem (List.mem_of_getElem? (i := 599) (by decide +kernel)) (by decide +kernel)
theorem gm_600 : (Jvm.Cond.selects "GasYard" ({ cls := "GasYard", name := "reading", desc := "(II)I" } : Jvm.MethodName) ({ cls := "GasYard", name := "reading", desc := "(II)I" } : Jvm.MethodName)) ∈ gG := gG_mem (List.mem_of_getElem? (i := 600) (by decide +kernel)) (by decide +kernel)
set_option maxRecDepth 20000 in
theorem gm_601 : (Jvm.Cond.code ({ cls := "GasYard", name := "reading", desc := "(II)I" } : Jvm.MethodName) prog_1_method_15_code (6 : Nat) (Option.some Jvm.ClassFile.FieldType.int)) ∈ gG := gG_mem (List.mem_of_getElem? (i := 601) (rfl)) (by decide +kernel)
theorem gm_602 : (Jvm.Cond.constant "GasYard" (166 : Nat) (-1000000 : Int32)) ∈ gG := gG_mem (List.mem_of_getElem? (i := 602) (by decide +kernel)) (by decide +kernel)
theorem gm_603 : (Jvm.Cond.methodLink "GasYard" (167 : Nat) ({ cls := "GasYard$Bank", name := "pressure", desc := "()I" } : Jvm.MethodName)) ∈ gG := gG_mem (List.mem_of_getElem? (i := 603) (by decide +kernel)) (by decide +kernel)
theorem gm_604 : (Jvm.Cond.methodLink "GasYard" (170 : Nat) ({ cls := "java/lang/Math", name := "abs", desc := "(I)I" } : Jvm.MethodName)) ∈ gG := gG_mem (List.mem_of_getElem? (i := 604) (by decide +kernel)) (by decide +kernel)
theorem gm_605 : (Jvm.Cond.static ({ cls := "java/lang/Math", name := "abs", desc := "(I)I" } : Jvm.MethodName)) ∈ gG := gG_mem (List.mem_of_getElem? (i := 605) (by decide +kernel)) (by decide +kernel)
set_option maxRecDepth 20000 in
theorem gm_606 : (Jvm.Cond.code ({ cls := "java/lang/Math", name := "abs", desc := "(I)I" } : Jvm.MethodName) prog_11_method_59_code (1 : Nat) (Option.some Jvm.ClassFile.FieldType.int)) ∈ gG := gG_mem (List.mem_of_getElem? (i := 606) (rfl)) (by decide +kernel)
theorem gm_607 : (Jvm.Cond.methodLink "GasYardLaw" (76 : Nat) ({ cls := "GasYard", name := "slip", desc := "(I)I" } : Jvm.MethodName)) ∈ gG := gG_mem (List.mem_of_getElem? (i := 607) (by decide +kernel)) (by decide +kernel)
theorem gm_608 : (Jvm.Cond.instanceMethod ({ cls := "GasYard", name := "slip", desc := "(I)I" } : Jvm.MethodName)) ∈ gG := gG_mem (List.mem_of_getElem? (i := 608) (by decide +kernel)) (by decide +kernel)
theorem gm_609 : (Jvm.Cond.selects "GasYard" ({ cls := "GasYard", name := "slip", desc := "(I)I" } : Jvm.MethodName) ({ cls := "GasYard", name := "slip", desc := "(I)I" } : Jvm.MethodName)) ∈ gG := gG_mem (List.mem_of_getElem? (i := 609) (by decide +kernel)) (by decide +kernel)
set_option maxRecDepth 20000 in
theorem gm_610 : (Jvm.Cond.code ({ cls := "GasYard", name := "slip", desc := "(I)I" } : Jvm.MethodName) prog_1_method_16_code (3 : Nat) (Option.some Jvm.ClassFile.FieldType.int)) ∈ gG := gG_mem (List.mem_of_getElem? (i := 610) (rfl)) (by decide +kernel)
theorem gm_611 : (Jvm.Cond.methodLink "GasYardLaw" (80 : Nat) ({ cls := "GasYard", name := "best", desc := "(IIII)I" } : Jvm.MethodName)) ∈ gG := gG_mem (List.mem_of_getElem? (i := 611) (by decide +kernel)) (by decide +kernel)
theorem gm_612 : (Jvm.Cond.instanceMethod ({ cls := "GasYard", name := "best", desc := "(IIII)I" } : Jvm.MethodName)) ∈ gG := gG_mem (List.mem_of_getElem? (i := 612) (by decide +kernel)) (by decide +kernel)
theorem gm_613 : (Jvm.Cond.selects "GasYard" ({ cls := "GasYard", name := "best", desc := "(IIII)I" } : Jvm.MethodName) ({ cls := "GasYard", name := "best", desc := "(IIII)I" } : Jvm.MethodName)) ∈ gG := gG_mem (List.mem_of_getElem? (i := 613) (by decide +kernel)) (by decide +kernel)
set_option maxRecDepth 20000 in
theorem gm_614 : (Jvm.Cond.code ({ cls := "GasYard", name := "best", desc := "(IIII)I" } : Jvm.MethodName) prog_1_method_17_code (5 : Nat) (Option.some Jvm.ClassFile.FieldType.int)) ∈ gG := gG_mem (List.mem_of_getElem? (i := 614) (rfl)) (by decide +kernel)
theorem gm_615 : (Jvm.Cond.methodLink "GasYard" (181 : Nat) ({ cls := "GasYard", name := "anyBankSensed", desc := "()Z" } : Jvm.MethodName)) ∈ gG := gG_mem (List.mem_of_getElem? (i := 615) (by decide +kernel)) (by decide +kernel)
theorem gm_617 : (Jvm.Cond.instanceMethod ({ cls := "GasYard", name := "anyBankSensed", desc := "()Z" } : Jvm.MethodName)) ∈ gG := gG_mem (List.mem_of_getElem? (i := 617) (by decide +kernel)) (by decide +kernel)
set_option maxRecDepth 20000 in
theorem gm_618 : (Jvm.Cond.code ({ cls := "GasYard", name := "anyBankSensed", desc := "()Z" } : Jvm.MethodName) prog_1_method_27_code (3 : Nat) (Option.some Jvm.ClassFile.FieldType.boolean)) ∈ gG := gG_mem (List.mem_of_getElem? (i := 618) (rfl)) (by decide +kernel)
theorem gm_619 : (Jvm.Cond.methodLink "GasYard" (189 : Nat) ({ cls := "GasYard$Planner", name := "copyBanks", desc := "([LGasYard$Bank;I)V" } : Jvm.MethodName)) ∈ gG := gG_mem (List.mem_of_getElem? (i := 619) (by decide +kernel)) (by decide +kernel)
theorem gm_620 : (Jvm.Cond.instanceMethod ({ cls := "GasYard$Planner", name := "copyBanks", desc := "([LGasYard$Bank;I)V" } : Jvm.MethodName)) ∈ gG := gG_mem (List.mem_of_getElem? (i := 620) (by decide +kernel)) (by decide +kernel)
theorem gm_621 : (Jvm.Cond.selects "GasYard$Planner" ({ cls := "GasYard$Planner", name := "copyBanks", desc := "([LGasYard$Bank;I)V" } : Jvm.MethodName) ({ cls := "GasYard$Planner", name := "copyBanks", desc := "([LGasYard$Bank;I)V" } : Jvm.MethodName)) ∈ gG := gG_mem (List.mem_of_getElem? (i := 621) (by decide +kernel)) (by decide +kernel)
set_option maxRecDepth 20000 in
theorem gm_622 : (Jvm.Cond.code ({ cls := "GasYard$Planner", name := "copyBanks", desc := "([LGasYard$Bank;I)V" } : Jvm.MethodName) prog_6_method_2_code (4 : Nat) (Option.none : Option Jvm.ClassFile.FieldType)) ∈ gG := gG_mem (List.mem_of_getElem? (i := 622) (rfl)) (by decide +kernel)
theorem gm_623 : (Jvm.Cond.methodLink "GasYard$Planner" (60 : Nat) ({ cls := "GasYard$Bank", name := "copyFrom", desc := "(LGasYard$Bank;)V" } : Jvm.MethodName)) ∈ gG := gG_mem (List.mem_of_getElem? (i := 623) (by decide +kernel)) (by decide +kernel)
theorem gm_624 : (Jvm.Cond.instanceMethod ({ cls := "GasYard$Bank", name := "copyFrom", desc := "(LGasYard$Bank;)V" } : Jvm.MethodName)) ∈ gG := gG_mem (List.mem_of_getElem? (i := 624) (by decide +kernel)) (by decide +kernel)
theorem gm_625 : (Jvm.Cond.selects "GasYard$Bank" ({ cls := "GasYard$Bank", name := "copyFrom", desc := "(LGasYard$Bank;)V" } : Jvm.MethodName) ({ cls := "GasYard$Bank", name := "copyFrom", desc := "(LGasYard$Bank;)V" } : Jvm.MethodName)) ∈ gG := gG_mem (List.mem_of_getElem? (i := 625) (by decide +kernel)) (by decide +kernel)
set_option maxRecDepth 20000 in
theorem gm_626 : (Jvm.Cond.code ({ cls := "GasYard$Bank", name := "copyFrom", desc := "(LGasYard$Bank;)V" } : Jvm.MethodName) prog_2_method_4_code (2 : Nat) (Option.none : Option Jvm.ClassFile.FieldType)) ∈ gG := gG_mem (List.mem_of_getElem? (i := 626) (rfl)) (by decide +kernel)
theorem gm_627 : (Jvm.Cond.methodLink "GasYard" (193 : Nat) ({ cls := "GasYard$Planner", name := "plan", desc := "(LGasYard$Rules;II)I" } : Jvm.MethodName)) ∈ gG := gG_mem (List.mem_of_getElem? (i := 627) (by decide +kernel)) (by decide +kernel)
theorem gm_628 : (Jvm.Cond.instanceMethod ({ cls := "GasYard$Planner", name := "plan", desc := "(LGasYard$Rules;II)I" } : Jvm.MethodName)) ∈ gG := gG_mem (List.mem_of_getElem? (i := 628) (by decide +kernel)) (by decide +kernel)
theorem gm_629 : (Jvm.Cond.selects "GasYard$Planner" ({ cls := "GasYard$Planner", name := "plan", desc := "(LGasYard$Rules;II)I" } : Jvm.MethodName) ({ cls := "GasYard$Planner", name := "plan", desc := "(LGasYard$Rules;II)I" } : Jvm.MethodName)) ∈ gG := gG_mem (List.mem_of_getElem? (i := 629) (by decide +kernel)) (by decide +kernel)
set_option maxRecDepth 20000 in
theorem gm_630 : (Jvm.Cond.code ({ cls := "GasYard$Planner", name := "plan", desc := "(LGasYard$Rules;II)I" } : Jvm.MethodName) prog_6_method_3_code (4 : Nat) (Option.some Jvm.ClassFile.FieldType.int)) ∈ gG := gG_mem (List.mem_of_getElem? (i := 630) (rfl)) (by decide +kernel)
theorem gm_631 : (Jvm.Cond.methodLink "GasYard$Planner" (64 : Nat) ({ cls := "java/lang/Math", name := "min", desc := "(II)I" } : Jvm.MethodName)) ∈ gG := gG_mem (List.mem_of_getElem? (i := 631) (by decide +kernel)) (by decide +kernel)
theorem gm_632 : (Jvm.Cond.methodLink "GasYard$Planner" (70 : Nat) ({ cls := "GasYard$Rules", name := "mostFlow", desc := "()I" } : Jvm.MethodName)) ∈ gG := gG_mem (List.mem_of_getElem? (i := 632) (by decide +kernel)) (by decide +kernel)
theorem gm_633 : (Jvm.Cond.instanceMethod ({ cls := "GasYard$Rules", name := "mostFlow", desc := "()I" } : Jvm.MethodName)) ∈ gG := gG_mem (List.mem_of_getElem? (i := 633) (by decide +kernel)) (by decide +kernel)
theorem gm_634 : (Jvm.Cond.selects "GasYard$Rules" ({ cls := "GasYard$Rules", name := "mostFlow", desc := "()I" } : Jvm.MethodName) ({ cls := "GasYard$Rules", name := "mostFlow", desc := "()I" } : Jvm.MethodName)) ∈ gG := gG_mem (List.mem_of_getElem? (i := 634) (by decide +kernel)) (by decide +kernel)
set_option maxRecDepth 20000 in
theorem gm_635 : (Jvm.Cond.code ({ cls := "GasYard$Rules", name := "mostFlow", desc := "()I" } : Jvm.MethodName) prog_7_method_6_code (3 : Nat) (Option.some Jvm.ClassFile.FieldType.int)) ∈ gG := gG_mem (List.mem_of_getElem? (i := 635) (rfl)) (by decide +kernel)
theorem gm_636 : (Jvm.Cond.methodLink "GasYard$Rules" (37 : Nat) ({ cls := "java/lang/Math", name := "max", desc := "(II)I" } : Jvm.MethodName)) ∈ gG := gG_mem (List.mem_of_getElem? (i := 636) (by decide +kernel)) (by decide +kernel)
theorem gm_637 : (Jvm.Cond.methodLink "GasYard$Planner" (76 : Nat) ({ cls := "GasYard$Planner", name := "search", desc := "(LGasYard$Rules;I)V" } : Jvm.MethodName)) ∈ gG := gG_mem (List.mem_of_getElem? (i := 637) (by decide +kernel)) (by decide +kernel)
theorem gm_639 : (Jvm.Cond.instanceMethod ({ cls := "GasYard$Planner", name := "search", desc := "(LGasYard$Rules;I)V" } : Jvm.MethodName)) ∈ gG := gG_mem (List.mem_of_getElem? (i := 639) (by decide +kernel)) (by decide +kernel)
set_option maxRecDepth 20000 in
theorem gm_640 : (Jvm.Cond.code ({ cls := "GasYard$Planner", name := "search", desc := "(LGasYard$Rules;I)V" } : Jvm.MethodName) prog_6_method_5_code (5 : Nat) (Option.none : Option Jvm.ClassFile.FieldType)) ∈ gG := gG_mem (List.mem_of_getElem? (i := 640) (rfl)) (by decide +kernel)
theorem gm_641 : (Jvm.Cond.methodLink "GasYard$Planner" (83 : Nat) ({ cls := "GasYard$Car", name := "lacks", desc := "()I" } : Jvm.MethodName)) ∈ gG := gG_mem (List.mem_of_getElem? (i := 641) (by decide +kernel)) (by decide +kernel)
theorem gm_642 : (Jvm.Cond.methodLink "GasYard$Planner" (86 : Nat) ({ cls := "GasYard$Planner", name := "isBetter", desc := "(I)Z" } : Jvm.MethodName)) ∈ gG := gG_mem (List.mem_of_getElem? (i := 642) (by decide +kernel)) (by decide +kernel)
theorem gm_644 : (Jvm.Cond.instanceMethod ({ cls := "GasYard$Planner", name := "isBetter", desc := "(I)Z" } : Jvm.MethodName)) ∈ gG := gG_mem (List.mem_of_getElem? (i := 644) (by decide +kernel)) (by decide +kernel)
set_option maxRecDepth 20000 in
theorem gm_645 : (Jvm.Cond.code ({ cls := "GasYard$Planner", name := "isBetter", desc := "(I)Z" } : Jvm.MethodName) prog_6_method_7_code (3 : Nat) (Option.some Jvm.ClassFile.FieldType.boolean)) ∈ gG := gG_mem (List.mem_of_getElem? (i := 645) (rfl)) (by decide +kernel)
theorem gm_646 : (Jvm.Cond.methodLink "GasYard$Planner" (90 : Nat) ({ cls := "GasYard$Planner", name := "keepRow", desc := "()V" } : Jvm.MethodName)) ∈ gG := gG_mem (List.mem_of_getElem? (i := 646) (by decide +kernel)) (by decide +kernel)
theorem gm_648 : (Jvm.Cond.instanceMethod ({ cls := "GasYard$Planner", name := "keepRow", desc := "()V" } : Jvm.MethodName)) ∈ gG := gG_mem (List.mem_of_getElem? (i := 648) (by decide +kernel)) (by decide +kernel)
set_option maxRecDepth 20000 in
theorem gm_649 : (Jvm.Cond.code ({ cls := "GasYard$Planner", name := "keepRow", desc := "()V" } : Jvm.MethodName) prog_6_method_8_code (2 : Nat) (Option.none : Option Jvm.ClassFile.FieldType)) ∈ gG := gG_mem (List.mem_of_getElem? (i := 649) (rfl)) (by decide +kernel)
theorem gm_650 : (Jvm.Cond.methodLink "GasYard$Planner" (97 : Nat) ({ cls := "GasYard$Planner", name := "drawAndGoOn", desc := "(LGasYard$Rules;II)V" } : Jvm.MethodName)) ∈ gG := gG_mem (List.mem_of_getElem? (i := 650) (by decide +kernel)) (by decide +kernel)
theorem gm_652 : (Jvm.Cond.instanceMethod ({ cls := "GasYard$Planner", name := "drawAndGoOn", desc := "(LGasYard$Rules;II)V" } : Jvm.MethodName)) ∈ gG := gG_mem (List.mem_of_getElem? (i := 652) (by decide +kernel)) (by decide +kernel)
set_option maxRecDepth 20000 in
theorem gm_653 : (Jvm.Cond.code ({ cls := "GasYard$Planner", name := "drawAndGoOn", desc := "(LGasYard$Rules;II)V" } : Jvm.MethodName) prog_6_method_6_code (6 : Nat) (Option.none : Option Jvm.ClassFile.FieldType)) ∈ gG := gG_mem (List.mem_of_getElem? (i := 653) (rfl)) (by decide +kernel)
theorem gm_654 : (Jvm.Cond.methodLink "GasYard$Planner" (104 : Nat) ({ cls := "GasYard$Rules", name := "unitsOver", desc := "(LGasYard$Bank;LGasYard$Car;)I" } : Jvm.MethodName)) ∈ gG := gG_mem (List.mem_of_getElem? (i := 654) (by decide +kernel)) (by decide +kernel)
theorem gm_655 : (Jvm.Cond.methodLink "GasYard$Planner" (108 : Nat) ({ cls := "GasYard$Rules", name := "moveOver", desc := "(LGasYard$Bank;LGasYard$Car;I)V" } : Jvm.MethodName)) ∈ gG := gG_mem (List.mem_of_getElem? (i := 655) (by decide +kernel)) (by decide +kernel)
theorem gm_656 : (Jvm.Cond.methodLink "GasYard$Planner" (112 : Nat) ({ cls := "GasYard$Rules", name := "coolDown", desc := "(LGasYard$Car;I)V" } : Jvm.MethodName)) ∈ gG := gG_mem (List.mem_of_getElem? (i := 656) (by decide +kernel)) (by decide +kernel)
theorem gm_657 : (Jvm.Cond.methodLink "GasYardLaw" (85 : Nat) ({ cls := "GasYard", name := "bestOf", desc := "(II)I" } : Jvm.MethodName)) ∈ gG := gG_mem (List.mem_of_getElem? (i := 657) (by decide +kernel)) (by decide +kernel)
theorem gm_658 : (Jvm.Cond.instanceMethod ({ cls := "GasYard", name := "bestOf", desc := "(II)I" } : Jvm.MethodName)) ∈ gG := gG_mem (List.mem_of_getElem? (i := 658) (by decide +kernel)) (by decide +kernel)
theorem gm_659 : (Jvm.Cond.selects "GasYard" ({ cls := "GasYard", name := "bestOf", desc := "(II)I" } : Jvm.MethodName) ({ cls := "GasYard", name := "bestOf", desc := "(II)I" } : Jvm.MethodName)) ∈ gG := gG_mem (List.mem_of_getElem? (i := 659) (by decide +kernel)) (by decide +kernel)
set_option maxRecDepth 20000 in
theorem gm_660 : (Jvm.Cond.code ({ cls := "GasYard", name := "bestOf", desc := "(II)I" } : Jvm.MethodName) prog_1_method_18_code (3 : Nat) (Option.some Jvm.ClassFile.FieldType.int)) ∈ gG := gG_mem (List.mem_of_getElem? (i := 660) (rfl)) (by decide +kernel)
theorem gm_661 : (Jvm.Cond.methodLink "GasYard" (197 : Nat) ({ cls := "GasYard$Planner", name := "answer", desc := "(II)I" } : Jvm.MethodName)) ∈ gG := gG_mem (List.mem_of_getElem? (i := 661) (by decide +kernel)) (by decide +kernel)
theorem gm_662 : (Jvm.Cond.instanceMethod ({ cls := "GasYard$Planner", name := "answer", desc := "(II)I" } : Jvm.MethodName)) ∈ gG := gG_mem (List.mem_of_getElem? (i := 662) (by decide +kernel)) (by decide +kernel)
theorem gm_663 : (Jvm.Cond.selects "GasYard$Planner" ({ cls := "GasYard$Planner", name := "answer", desc := "(II)I" } : Jvm.MethodName) ({ cls := "GasYard$Planner", name := "answer", desc := "(II)I" } : Jvm.MethodName)) ∈ gG := gG_mem (List.mem_of_getElem? (i := 663) (by decide +kernel)) (by decide +kernel)
set_option maxRecDepth 20000 in
theorem gm_664 : (Jvm.Cond.code ({ cls := "GasYard$Planner", name := "answer", desc := "(II)I" } : Jvm.MethodName) prog_6_method_4_code (3 : Nat) (Option.some Jvm.ClassFile.FieldType.int)) ∈ gG := gG_mem (List.mem_of_getElem? (i := 664) (rfl)) (by decide +kernel)
theorem gm_665 : (Jvm.Cond.methodLink "GasYardLaw" (89 : Nat) ({ cls := "GasYard", name := "banks", desc := "(II)I" } : Jvm.MethodName)) ∈ gG := gG_mem (List.mem_of_getElem? (i := 665) (by decide +kernel)) (by decide +kernel)
theorem gm_666 : (Jvm.Cond.instanceMethod ({ cls := "GasYard", name := "banks", desc := "(II)I" } : Jvm.MethodName)) ∈ gG := gG_mem (List.mem_of_getElem? (i := 666) (by decide +kernel)) (by decide +kernel)
theorem gm_667 : (Jvm.Cond.selects "GasYard" ({ cls := "GasYard", name := "banks", desc := "(II)I" } : Jvm.MethodName) ({ cls := "GasYard", name := "banks", desc := "(II)I" } : Jvm.MethodName)) ∈ gG := gG_mem (List.mem_of_getElem? (i := 667) (by decide +kernel)) (by decide +kernel)
set_option maxRecDepth 20000 in
theorem gm_668 : (Jvm.Cond.code ({ cls := "GasYard", name := "banks", desc := "(II)I" } : Jvm.MethodName) prog_1_method_19_code (4 : Nat) (Option.some Jvm.ClassFile.FieldType.int)) ∈ gG := gG_mem (List.mem_of_getElem? (i := 668) (rfl)) (by decide +kernel)
theorem gm_669 : (Jvm.Cond.methodLink "GasYard" (201 : Nat) ({ cls := "GasYard$Bank", name := "answer", desc := "(I)I" } : Jvm.MethodName)) ∈ gG := gG_mem (List.mem_of_getElem? (i := 669) (by decide +kernel)) (by decide +kernel)
theorem gm_670 : (Jvm.Cond.instanceMethod ({ cls := "GasYard$Bank", name := "answer", desc := "(I)I" } : Jvm.MethodName)) ∈ gG := gG_mem (List.mem_of_getElem? (i := 670) (by decide +kernel)) (by decide +kernel)
theorem gm_671 : (Jvm.Cond.selects "GasYard$Bank" ({ cls := "GasYard$Bank", name := "answer", desc := "(I)I" } : Jvm.MethodName) ({ cls := "GasYard$Bank", name := "answer", desc := "(I)I" } : Jvm.MethodName)) ∈ gG := gG_mem (List.mem_of_getElem? (i := 671) (by decide +kernel)) (by decide +kernel)
set_option maxRecDepth 20000 in
theorem gm_672 : (Jvm.Cond.code ({ cls := "GasYard$Bank", name := "answer", desc := "(I)I" } : Jvm.MethodName) prog_2_method_5_code (2 : Nat) (Option.some Jvm.ClassFile.FieldType.int)) ∈ gG := gG_mem (List.mem_of_getElem? (i := 672) (rfl)) (by decide +kernel)
theorem gm_673 : (Jvm.Cond.methodLink "GasYard$Bank" (37 : Nat) ({ cls := "GasYard$Bank", name := "pressure", desc := "()I" } : Jvm.MethodName)) ∈ gG := gG_mem (List.mem_of_getElem? (i := 673) (by decide +kernel)) (by decide +kernel)
theorem gm_674 : (Jvm.Cond.methodLink "GasYardLaw" (93 : Nat) ({ cls := "GasYard", name := "cars", desc := "(II)I" } : Jvm.MethodName)) ∈ gG := gG_mem (List.mem_of_getElem? (i := 674) (by decide +kernel)) (by decide +kernel)
theorem gm_675 : (Jvm.Cond.instanceMethod ({ cls := "GasYard", name := "cars", desc := "(II)I" } : Jvm.MethodName)) ∈ gG := gG_mem (List.mem_of_getElem? (i := 675) (by decide +kernel)) (by decide +kernel)
theorem gm_676 : (Jvm.Cond.selects "GasYard" ({ cls := "GasYard", name := "cars", desc := "(II)I" } : Jvm.MethodName) ({ cls := "GasYard", name := "cars", desc := "(II)I" } : Jvm.MethodName)) ∈ gG := gG_mem (List.mem_of_getElem? (i := 676) (by decide +kernel)) (by decide +kernel)
set_option maxRecDepth 20000 in
theorem gm_677 : (Jvm.Cond.code ({ cls := "GasYard", name := "cars", desc := "(II)I" } : Jvm.MethodName) prog_1_method_20_code (4 : Nat) (Option.some Jvm.ClassFile.FieldType.int)) ∈ gG := gG_mem (List.mem_of_getElem? (i := 677) (rfl)) (by decide +kernel)
theorem gm_678 : (Jvm.Cond.methodLink "GasYard" (203 : Nat) ({ cls := "GasYard$Car", name := "answer", desc := "(I)I" } : Jvm.MethodName)) ∈ gG := gG_mem (List.mem_of_getElem? (i := 678) (by decide +kernel)) (by decide +kernel)
theorem gm_679 : (Jvm.Cond.instanceMethod ({ cls := "GasYard$Car", name := "answer", desc := "(I)I" } : Jvm.MethodName)) ∈ gG := gG_mem (List.mem_of_getElem? (i := 679) (by decide +kernel)) (by decide +kernel)
theorem gm_680 : (Jvm.Cond.selects "GasYard$Car" ({ cls := "GasYard$Car", name := "answer", desc := "(I)I" } : Jvm.MethodName) ({ cls := "GasYard$Car", name := "answer", desc := "(I)I" } : Jvm.MethodName)) ∈ gG := gG_mem (List.mem_of_getElem? (i := 680) (by decide +kernel)) (by decide +kernel)
set_option maxRecDepth 20000 in
theorem gm_681 : (Jvm.Cond.code ({ cls := "GasYard$Car", name := "answer", desc := "(I)I" } : Jvm.MethodName) prog_4_method_6_code (2 : Nat) (Option.some Jvm.ClassFile.FieldType.int)) ∈ gG := gG_mem (List.mem_of_getElem? (i := 681) (rfl)) (by decide +kernel)
theorem gm_682 : (Jvm.Cond.methodLink "GasYard$Car" (48 : Nat) ({ cls := "GasYard$Car", name := "pressure", desc := "()I" } : Jvm.MethodName)) ∈ gG := gG_mem (List.mem_of_getElem? (i := 682) (by decide +kernel)) (by decide +kernel)
theorem gm_683 : (Jvm.Cond.methodLink "GasYardLaw" (97 : Nat) ({ cls := "GasYard", name := "count", desc := "(I)I" } : Jvm.MethodName)) ∈ gG := gG_mem (List.mem_of_getElem? (i := 683) (by decide +kernel)) (by decide +kernel)
theorem gm_684 : (Jvm.Cond.instanceMethod ({ cls := "GasYard", name := "count", desc := "(I)I" } : Jvm.MethodName)) ∈ gG := gG_mem (List.mem_of_getElem? (i := 684) (by decide +kernel)) (by decide +kernel)
theorem gm_685 : (Jvm.Cond.selects "GasYard" ({ cls := "GasYard", name := "count", desc := "(I)I" } : Jvm.MethodName) ({ cls := "GasYard", name := "count", desc := "(I)I" } : Jvm.MethodName)) ∈ gG := gG_mem (List.mem_of_getElem? (i := 685) (by decide +kernel)) (by decide +kernel)
set_option maxRecDepth 20000 in
theorem gm_686 : (Jvm.Cond.code ({ cls := "GasYard", name := "count", desc := "(I)I" } : Jvm.MethodName) prog_1_method_21_code (2 : Nat) (Option.some Jvm.ClassFile.FieldType.int)) ∈ gG := gG_mem (List.mem_of_getElem? (i := 686) (rfl)) (by decide +kernel)
theorem gm_687 : (Jvm.Cond.methodLink "GasYard" (210 : Nat) ({ cls := "GasYard$Ledger", name := "allGas", desc := "()I" } : Jvm.MethodName)) ∈ gG := gG_mem (List.mem_of_getElem? (i := 687) (by decide +kernel)) (by decide +kernel)
theorem gm_688 : (Jvm.Cond.instanceMethod ({ cls := "GasYard$Ledger", name := "allGas", desc := "()I" } : Jvm.MethodName)) ∈ gG := gG_mem (List.mem_of_getElem? (i := 688) (by decide +kernel)) (by decide +kernel)
theorem gm_689 : (Jvm.Cond.selects "GasYard$Ledger" ({ cls := "GasYard$Ledger", name := "allGas", desc := "()I" } : Jvm.MethodName) ({ cls := "GasYard$Ledger", name := "allGas", desc := "()I" } : Jvm.MethodName)) ∈ gG := gG_mem (List.mem_of_getElem? (i := 689) (by decide +kernel)) (by decide +kernel)
set_option maxRecDepth 20000 in
theorem gm_690 : (Jvm.Cond.code ({ cls := "GasYard$Ledger", name := "allGas", desc := "()I" } : Jvm.MethodName) prog_5_method_3_code (1 : Nat) (Option.some Jvm.ClassFile.FieldType.int)) ∈ gG := gG_mem (List.mem_of_getElem? (i := 690) (rfl)) (by decide +kernel)
theorem gm_691 : (Jvm.Cond.classLink "GasYardLaw" (10 : Nat) "GasYardModel") ∈ gG := gG_mem (List.mem_of_getElem? (i := 691) (by decide +kernel)) (by decide +kernel)
theorem gm_692 : (Jvm.Cond.instantiable "GasYardModel" (56 : Nat)) ∈ gG := gG_mem (List.mem_of_getElem? (i := 692) (by decide +kernel)) (by decide +kernel)
theorem gm_693 : (Jvm.Cond.methodLink "GasYardLaw" (12 : Nat) ({ cls := "GasYardModel", name := "<init>", desc := "()V" } : Jvm.MethodName)) ∈ gG := gG_mem (List.mem_of_getElem? (i := 693) (by decide +kernel)) (by decide +kernel)
theorem gm_694 : (Jvm.Cond.instanceMethod ({ cls := "GasYardModel", name := "<init>", desc := "()V" } : Jvm.MethodName)) ∈ gG := gG_mem (List.mem_of_getElem? (i := 694) (by decide +kernel)) (by decide +kernel)
set_option maxRecDepth 20000 in
theorem gm_695 : (Jvm.Cond.code ({ cls := "GasYardModel", name := "<init>", desc := "()V" } : Jvm.MethodName) prog_10_method_1_code (2 : Nat) (Option.none : Option Jvm.ClassFile.FieldType)) ∈ gG := gG_mem (List.mem_of_getElem? (i := 695) (rfl)) (by decide +kernel)
theorem gm_696 : (Jvm.Cond.methodLink "GasYardModel" (1 : Nat) ({ cls := "java/lang/Object", name := "<init>", desc := "()V" } : Jvm.MethodName)) ∈ gG := gG_mem (List.mem_of_getElem? (i := 696) (by decide +kernel)) (by decide +kernel)
theorem gm_697 : (Jvm.Cond.methodLink "GasYardModel" (127 : Nat) ({ cls := "GasYardModel", name := "without", desc := "(I)I" } : Jvm.MethodName)) ∈ gG := gG_mem (List.mem_of_getElem? (i := 697) (by decide +kernel)) (by decide +kernel)
theorem gm_698 : (Jvm.Cond.static ({ cls := "GasYardModel", name := "without", desc := "(I)I" } : Jvm.MethodName)) ∈ gG := gG_mem (List.mem_of_getElem? (i := 698) (by decide +kernel)) (by decide +kernel)
set_option maxRecDepth 20000 in
theorem gm_699 : (Jvm.Cond.code ({ cls := "GasYardModel", name := "without", desc := "(I)I" } : Jvm.MethodName) prog_10_method_8_code (1 : Nat) (Option.some Jvm.ClassFile.FieldType.int)) ∈ gG := gG_mem (List.mem_of_getElem? (i := 699) (rfl)) (by decide +kernel)
theorem gm_700 : (Jvm.Cond.fieldLink "GasYardModel" (197 : Nat) "GasYardModel" "now" "I") ∈ gG := gG_mem (List.mem_of_getElem? (i := 700) (by decide +kernel)) (by decide +kernel)
theorem gm_701 : (Jvm.Cond.fieldLink "GasYardModel" (7 : Nat) "GasYardModel" "air" "I") ∈ gG := gG_mem (List.mem_of_getElem? (i := 701) (by decide +kernel)) (by decide +kernel)
theorem gm_702 : (Jvm.Cond.fieldLink "GasYardModel" (131 : Nat) "GasYardModel" "banks" "I") ∈ gG := gG_mem (List.mem_of_getElem? (i := 702) (by decide +kernel)) (by decide +kernel)
theorem gm_703 : (Jvm.Cond.fieldLink "GasYardModel" (13 : Nat) "GasYardModel" "volume" "[I") ∈ gG := gG_mem (List.mem_of_getElem? (i := 703) (by decide +kernel)) (by decide +kernel)
theorem gm_704 : (Jvm.Cond.fieldLink "GasYardModel" (17 : Nat) "GasYardModel" "content" "[I") ∈ gG := gG_mem (List.mem_of_getElem? (i := 704) (by decide +kernel)) (by decide +kernel)
theorem gm_705 : (Jvm.Cond.fieldLink "GasYardModel" (20 : Nat) "GasYardModel" "target" "[I") ∈ gG := gG_mem (List.mem_of_getElem? (i := 705) (by decide +kernel)) (by decide +kernel)
theorem gm_706 : (Jvm.Cond.fieldLink "GasYardModel" (23 : Nat) "GasYardModel" "drawn" "[I") ∈ gG := gG_mem (List.mem_of_getElem? (i := 706) (by decide +kernel)) (by decide +kernel)
theorem gm_707 : (Jvm.Cond.fieldLink "GasYardModel" (26 : Nat) "GasYardModel" "pressedInto" "[I") ∈ gG := gG_mem (List.mem_of_getElem? (i := 707) (by decide +kernel)) (by decide +kernel)
theorem gm_708 : (Jvm.Cond.fieldLink "GasYardModel" (29 : Nat) "GasYardModel" "isLost" "[Z") ∈ gG := gG_mem (List.mem_of_getElem? (i := 708) (by decide +kernel)) (by decide +kernel)
theorem gm_709 : (Jvm.Cond.fieldLink "GasYardModel" (33 : Nat) "GasYardModel" "hoses" "I") ∈ gG := gG_mem (List.mem_of_getElem? (i := 709) (by decide +kernel)) (by decide +kernel)
theorem gm_710 : (Jvm.Cond.fieldLink "GasYardModel" (36 : Nat) "GasYardModel" "atHose" "[I") ∈ gG := gG_mem (List.mem_of_getElem? (i := 710) (by decide +kernel)) (by decide +kernel)
theorem gm_711 : (Jvm.Cond.fieldLink "GasYardModel" (39 : Nat) "GasYardModel" "price" "[I") ∈ gG := gG_mem (List.mem_of_getElem? (i := 711) (by decide +kernel)) (by decide +kernel)
theorem gm_712 : (Jvm.Cond.fieldLink "GasYardModel" (42 : Nat) "GasYardModel" "isClosed" "[Z") ∈ gG := gG_mem (List.mem_of_getElem? (i := 712) (by decide +kernel)) (by decide +kernel)
theorem gm_713 : (Jvm.Cond.fieldLink "GasYardModel" (191 : Nat) "GasYardModel" "cars" "I") ∈ gG := gG_mem (List.mem_of_getElem? (i := 713) (by decide +kernel)) (by decide +kernel)
theorem gm_714 : (Jvm.Cond.fieldLink "GasYardModel" (45 : Nat) "GasYardModel" "carVolume" "[I") ∈ gG := gG_mem (List.mem_of_getElem? (i := 714) (by decide +kernel)) (by decide +kernel)
theorem gm_715 : (Jvm.Cond.fieldLink "GasYardModel" (48 : Nat) "GasYardModel" "carContent" "[I") ∈ gG := gG_mem (List.mem_of_getElem? (i := 715) (by decide +kernel)) (by decide +kernel)
theorem gm_716 : (Jvm.Cond.fieldLink "GasYardModel" (51 : Nat) "GasYardModel" "carMax" "[I") ∈ gG := gG_mem (List.mem_of_getElem? (i := 716) (by decide +kernel)) (by decide +kernel)
theorem gm_717 : (Jvm.Cond.fieldLink "GasYardModel" (54 : Nat) "GasYardModel" "carState" "[I") ∈ gG := gG_mem (List.mem_of_getElem? (i := 717) (by decide +kernel)) (by decide +kernel)
theorem gm_718 : (Jvm.Cond.fieldLink "GasYardModel" (57 : Nat) "GasYardModel" "carWarmth" "[I") ∈ gG := gG_mem (List.mem_of_getElem? (i := 718) (by decide +kernel)) (by decide +kernel)
theorem gm_719 : (Jvm.Cond.fieldLink "GasYardModel" (60 : Nat) "GasYardModel" "carBank" "[I") ∈ gG := gG_mem (List.mem_of_getElem? (i := 719) (by decide +kernel)) (by decide +kernel)
theorem gm_720 : (Jvm.Cond.fieldLink "GasYardModel" (63 : Nat) "GasYardModel" "carCame" "[I") ∈ gG := gG_mem (List.mem_of_getElem? (i := 720) (by decide +kernel)) (by decide +kernel)
theorem gm_721 : (Jvm.Cond.fieldLink "GasYardModel" (66 : Nat) "GasYardModel" "carWent" "[I") ∈ gG := gG_mem (List.mem_of_getElem? (i := 721) (by decide +kernel)) (by decide +kernel)
theorem gm_722 : (Jvm.Cond.fieldLink "GasYardModel" (69 : Nat) "GasYardModel" "carDrew" "[I") ∈ gG := gG_mem (List.mem_of_getElem? (i := 722) (by decide +kernel)) (by decide +kernel)
theorem gm_723 : (Jvm.Cond.fieldLink "GasYardModel" (72 : Nat) "GasYardModel" "carLost" "[Z") ∈ gG := gG_mem (List.mem_of_getElem? (i := 723) (by decide +kernel)) (by decide +kernel)
theorem gm_724 : (Jvm.Cond.fieldLink "GasYardModel" (138 : Nat) "GasYardModel" "told" "I") ∈ gG := gG_mem (List.mem_of_getElem? (i := 724) (by decide +kernel)) (by decide +kernel)
theorem gm_725 : (Jvm.Cond.fieldLink "GasYardModel" (208 : Nat) "GasYardModel" "pressed" "I") ∈ gG := gG_mem (List.mem_of_getElem? (i := 725) (by decide +kernel)) (by decide +kernel)
theorem gm_726 : (Jvm.Cond.fieldLink "GasYardModel" (211 : Nat) "GasYardModel" "coins" "I") ∈ gG := gG_mem (List.mem_of_getElem? (i := 726) (by decide +kernel)) (by decide +kernel)
theorem gm_727 : (Jvm.Cond.fieldLink "GasYardModel" (227 : Nat) "GasYardModel" "leaked" "I") ∈ gG := gG_mem (List.mem_of_getElem? (i := 727) (by decide +kernel)) (by decide +kernel)
theorem gm_728 : (Jvm.Cond.fieldLink "GasYardModel" (230 : Nat) "GasYardModel" "found" "I") ∈ gG := gG_mem (List.mem_of_getElem? (i := 728) (by decide +kernel)) (by decide +kernel)
theorem gm_729 : (Jvm.Cond.fieldLink "GasYardModel" (75 : Nat) "GasYardModel" "slip" "I") ∈ gG := gG_mem (List.mem_of_getElem? (i := 729) (by decide +kernel)) (by decide +kernel)
theorem gm_730 : (Jvm.Cond.fieldLink "GasYardModel" (78 : Nat) "GasYardModel" "tape" "[B") ∈ gG := gG_mem (List.mem_of_getElem? (i := 730) (by decide +kernel)) (by decide +kernel)
theorem gm_731 : (Jvm.Cond.fieldLink "GasYardModel" (145 : Nat) "GasYardModel" "taped" "I") ∈ gG := gG_mem (List.mem_of_getElem? (i := 731) (by decide +kernel)) (by decide +kernel)
theorem gm_732 : (Jvm.Cond.fieldLink "GasYardModel" (155 : Nat) "GasYardModel" "next" "I") ∈ gG := gG_mem (List.mem_of_getElem? (i := 732) (by decide +kernel)) (by decide +kernel)
theorem gm_733 : (Jvm.Cond.fieldLink "GasYardModel" (152 : Nat) "GasYardModel" "fault" "I") ∈ gG := gG_mem (List.mem_of_getElem? (i := 733) (by decide +kernel)) (by decide +kernel)
theorem gm_734 : (Jvm.Cond.fieldLink "GasYardModel" (178 : Nat) "GasYardModel" "seen" "I") ∈ gG := gG_mem (List.mem_of_getElem? (i := 734) (by decide +kernel)) (by decide +kernel)
theorem gm_735 : (Jvm.Cond.fieldLink "GasYardModel" (169 : Nat) "GasYardModel" "said" "I") ∈ gG := gG_mem (List.mem_of_getElem? (i := 735) (by decide +kernel)) (by decide +kernel)
theorem gm_736 : (Jvm.Cond.fieldLink "GasYardModel" (124 : Nat) "GasYardModel" "flows" "I") ∈ gG := gG_mem (List.mem_of_getElem? (i := 736) (by decide +kernel)) (by decide +kernel)
theorem gm_737 : (Jvm.Cond.fieldLink "GasYardModel" (82 : Nat) "GasYardModel" "flowFrom" "[I") ∈ gG := gG_mem (List.mem_of_getElem? (i := 737) (by decide +kernel)) (by decide +kernel)
theorem gm_738 : (Jvm.Cond.fieldLink "GasYardModel" (85 : Nat) "GasYardModel" "flowUnits" "[I") ∈ gG := gG_mem (List.mem_of_getElem? (i := 738) (by decide +kernel)) (by decide +kernel)
theorem gm_739 : (Jvm.Cond.fieldLink "GasYardModel" (175 : Nat) "GasYardModel" "readFlows" "I") ∈ gG := gG_mem (List.mem_of_getElem? (i := 739) (by decide +kernel)) (by decide +kernel)
theorem gm_740 : (Jvm.Cond.fieldLink "GasYardModel" (88 : Nat) "GasYardModel" "readFrom" "[I") ∈ gG := gG_mem (List.mem_of_getElem? (i := 740) (by decide +kernel)) (by decide +kernel)
theorem gm_741 : (Jvm.Cond.fieldLink "GasYardModel" (91 : Nat) "GasYardModel" "readUnits" "[I") ∈ gG := gG_mem (List.mem_of_getElem? (i := 741) (by decide +kernel)) (by decide +kernel)
theorem gm_742 : (Jvm.Cond.fieldLink "GasYardModel" (94 : Nat) "GasYardModel" "rule" "[I") ∈ gG := gG_mem (List.mem_of_getElem? (i := 742) (by decide +kernel)) (by decide +kernel)
theorem gm_743 : (Jvm.Cond.fieldLink "GasYardModel" (97 : Nat) "GasYardModel" "read" "[I") ∈ gG := gG_mem (List.mem_of_getElem? (i := 743) (by decide +kernel)) (by decide +kernel)
theorem gm_744 : (Jvm.Cond.fieldLink "GasYardModel" (100 : Nat) "GasYardModel" "words" "[B") ∈ gG := gG_mem (List.mem_of_getElem? (i := 744) (by decide +kernel)) (by decide +kernel)
theorem gm_745 : (Jvm.Cond.fieldLink "GasYardModel" (162 : Nat) "GasYardModel" "wordSize" "I") ∈ gG := gG_mem (List.mem_of_getElem? (i := 745) (by decide +kernel)) (by decide +kernel)
theorem gm_746 : (Jvm.Cond.fieldLink "GasYardModel" (246 : Nat) "GasYardModel" "hasBest" "Z") ∈ gG := gG_mem (List.mem_of_getElem? (i := 746) (by decide +kernel)) (by decide +kernel)
theorem gm_747 : (Jvm.Cond.fieldLink "GasYardModel" (250 : Nat) "GasYardModel" "bestTicks" "I") ∈ gG := gG_mem (List.mem_of_getElem? (i := 747) (by decide +kernel)) (by decide +kernel)
theorem gm_748 : (Jvm.Cond.fieldLink "GasYardModel" (233 : Nat) "GasYardModel" "bestContent" "I") ∈ gG := gG_mem (List.mem_of_getElem? (i := 748) (by decide +kernel)) (by decide +kernel)
theorem gm_749 : (Jvm.Cond.fieldLink "GasYardModel" (103 : Nat) "GasYardModel" "bestBank" "[I") ∈ gG := gG_mem (List.mem_of_getElem? (i := 749) (by decide +kernel)) (by decide +kernel)
theorem gm_750 : (Jvm.Cond.fieldLink "GasYardModel" (106 : Nat) "GasYardModel" "bestUnits" "[I") ∈ gG := gG_mem (List.mem_of_getElem? (i := 750) (by decide +kernel)) (by decide +kernel)
theorem gm_751 : (Jvm.Cond.fieldLink "GasYardModel" (109 : Nat) "GasYardModel" "bestDrawn" "[I") ∈ gG := gG_mem (List.mem_of_getElem? (i := 751) (by decide +kernel)) (by decide +kernel)
theorem gm_752 : (Jvm.Cond.fieldLink "GasYardModel" (112 : Nat) "GasYardModel" "tryBank" "[I") ∈ gG := gG_mem (List.mem_of_getElem? (i := 752) (by decide +kernel)) (by decide +kernel)
theorem gm_753 : (Jvm.Cond.fieldLink "GasYardModel" (115 : Nat) "GasYardModel" "tryUnits" "[I") ∈ gG := gG_mem (List.mem_of_getElem? (i := 753) (by decide +kernel)) (by decide +kernel)
theorem gm_754 : (Jvm.Cond.fieldLink "GasYardModel" (118 : Nat) "GasYardModel" "tryDrawn" "[I") ∈ gG := gG_mem (List.mem_of_getElem? (i := 754) (by decide +kernel)) (by decide +kernel)
theorem gm_755 : (Jvm.Cond.fieldLink "GasYardModel" (121 : Nat) "GasYardModel" "tryContent" "[I") ∈ gG := gG_mem (List.mem_of_getElem? (i := 755) (by decide +kernel)) (by decide +kernel)
theorem gm_869 : (Jvm.Cond.methodLink "GasYardLaw" (17 : Nat) ({ cls := "GasYardModel", name := "bank", desc := "(III)I" } : Jvm.MethodName)) ∈ gG := gG_mem (List.mem_of_getElem? (i := 869) (by decide +kernel)) (by decide +kernel)
theorem gm_870 : (Jvm.Cond.instanceMethod ({ cls := "GasYardModel", name := "bank", desc := "(III)I" } : Jvm.MethodName)) ∈ gG := gG_mem (List.mem_of_getElem? (i := 870) (by decide +kernel)) (by decide +kernel)
theorem gm_871 : (Jvm.Cond.selects "GasYardModel" ({ cls := "GasYardModel", name := "bank", desc := "(III)I" } : Jvm.MethodName) ({ cls := "GasYardModel", name := "bank", desc := "(III)I" } : Jvm.MethodName)) ∈ gG := gG_mem (List.mem_of_getElem? (i := 871) (by decide +kernel)) (by decide +kernel)
set_option maxRecDepth 20000 in
theorem gm_872 : (Jvm.Cond.code ({ cls := "GasYardModel", name := "bank", desc := "(III)I" } : Jvm.MethodName) prog_10_method_4_code (4 : Nat) (Option.some Jvm.ClassFile.FieldType.int)) ∈ gG := gG_mem (List.mem_of_getElem? (i := 872) (rfl)) (by decide +kernel)
theorem gm_873 : (Jvm.Cond.methodLink "GasYardModel" (134 : Nat) ({ cls := "GasYardModel", name := "in", desc := "(III)Z" } : Jvm.MethodName)) ∈ gG := gG_mem (List.mem_of_getElem? (i := 873) (by decide +kernel)) (by decide +kernel)
theorem gm_874 : (Jvm.Cond.static ({ cls := "GasYardModel", name := "in", desc := "(III)Z" } : Jvm.MethodName)) ∈ gG := gG_mem (List.mem_of_getElem? (i := 874) (by decide +kernel)) (by decide +kernel)
set_option maxRecDepth 20000 in
theorem gm_875 : (Jvm.Cond.code ({ cls := "GasYardModel", name := "in", desc := "(III)Z" } : Jvm.MethodName) prog_10_method_2_code (3 : Nat) (Option.some Jvm.ClassFile.FieldType.boolean)) ∈ gG := gG_mem (List.mem_of_getElem? (i := 875) (rfl)) (by decide +kernel)
theorem gm_876 : (Jvm.Cond.methodLink "GasYardLaw" (22 : Nat) ({ cls := "GasYardModel", name := "target", desc := "(II)I" } : Jvm.MethodName)) ∈ gG := gG_mem (List.mem_of_getElem? (i := 876) (by decide +kernel)) (by decide +kernel)
theorem gm_877 : (Jvm.Cond.instanceMethod ({ cls := "GasYardModel", name := "target", desc := "(II)I" } : Jvm.MethodName)) ∈ gG := gG_mem (List.mem_of_getElem? (i := 877) (by decide +kernel)) (by decide +kernel)
theorem gm_878 : (Jvm.Cond.selects "GasYardModel" ({ cls := "GasYardModel", name := "target", desc := "(II)I" } : Jvm.MethodName) ({ cls := "GasYardModel", name := "target", desc := "(II)I" } : Jvm.MethodName)) ∈ gG := gG_mem (List.mem_of_getElem? (i := 878) (by decide +kernel)) (by decide +kernel)
set_option maxRecDepth 20000 in
theorem gm_879 : (Jvm.Cond.code ({ cls := "GasYardModel", name := "target", desc := "(II)I" } : Jvm.MethodName) prog_10_method_5_code (4 : Nat) (Option.some Jvm.ClassFile.FieldType.int)) ∈ gG := gG_mem (List.mem_of_getElem? (i := 879) (rfl)) (by decide +kernel)
theorem gm_880 : (Jvm.Cond.methodLink "GasYardModel" (141 : Nat) ({ cls := "GasYardModel", name := "isBank", desc := "(I)Z" } : Jvm.MethodName)) ∈ gG := gG_mem (List.mem_of_getElem? (i := 880) (by decide +kernel)) (by decide +kernel)
theorem gm_882 : (Jvm.Cond.instanceMethod ({ cls := "GasYardModel", name := "isBank", desc := "(I)Z" } : Jvm.MethodName)) ∈ gG := gG_mem (List.mem_of_getElem? (i := 882) (by decide +kernel)) (by decide +kernel)
set_option maxRecDepth 20000 in
theorem gm_883 : (Jvm.Cond.code ({ cls := "GasYardModel", name := "isBank", desc := "(I)Z" } : Jvm.MethodName) prog_10_method_3_code (2 : Nat) (Option.some Jvm.ClassFile.FieldType.boolean)) ∈ gG := gG_mem (List.mem_of_getElem? (i := 883) (rfl)) (by decide +kernel)
theorem gm_884 : (Jvm.Cond.methodLink "GasYardLaw" (27 : Nat) ({ cls := "GasYardModel", name := "air", desc := "(I)I" } : Jvm.MethodName)) ∈ gG := gG_mem (List.mem_of_getElem? (i := 884) (by decide +kernel)) (by decide +kernel)
theorem gm_885 : (Jvm.Cond.instanceMethod ({ cls := "GasYardModel", name := "air", desc := "(I)I" } : Jvm.MethodName)) ∈ gG := gG_mem (List.mem_of_getElem? (i := 885) (by decide +kernel)) (by decide +kernel)
theorem gm_886 : (Jvm.Cond.selects "GasYardModel" ({ cls := "GasYardModel", name := "air", desc := "(I)I" } : Jvm.MethodName) ({ cls := "GasYardModel", name := "air", desc := "(I)I" } : Jvm.MethodName)) ∈ gG := gG_mem (List.mem_of_getElem? (i := 886) (by decide +kernel)) (by decide +kernel)
set_option maxRecDepth 20000 in
theorem gm_887 : (Jvm.Cond.code ({ cls := "GasYardModel", name := "air", desc := "(I)I" } : Jvm.MethodName) prog_10_method_6_code (3 : Nat) (Option.some Jvm.ClassFile.FieldType.int)) ∈ gG := gG_mem (List.mem_of_getElem? (i := 887) (rfl)) (by decide +kernel)
theorem gm_888 : (Jvm.Cond.methodLink "GasYardLaw" (31 : Nat) ({ cls := "GasYardModel", name := "hoses", desc := "(I)I" } : Jvm.MethodName)) ∈ gG := gG_mem (List.mem_of_getElem? (i := 888) (by decide +kernel)) (by decide +kernel)
theorem gm_889 : (Jvm.Cond.instanceMethod ({ cls := "GasYardModel", name := "hoses", desc := "(I)I" } : Jvm.MethodName)) ∈ gG := gG_mem (List.mem_of_getElem? (i := 889) (by decide +kernel)) (by decide +kernel)
theorem gm_890 : (Jvm.Cond.selects "GasYardModel" ({ cls := "GasYardModel", name := "hoses", desc := "(I)I" } : Jvm.MethodName) ({ cls := "GasYardModel", name := "hoses", desc := "(I)I" } : Jvm.MethodName)) ∈ gG := gG_mem (List.mem_of_getElem? (i := 890) (by decide +kernel)) (by decide +kernel)
set_option maxRecDepth 20000 in
theorem gm_891 : (Jvm.Cond.code ({ cls := "GasYardModel", name := "hoses", desc := "(I)I" } : Jvm.MethodName) prog_10_method_7_code (3 : Nat) (Option.some Jvm.ClassFile.FieldType.int)) ∈ gG := gG_mem (List.mem_of_getElem? (i := 891) (rfl)) (by decide +kernel)
theorem gm_892 : (Jvm.Cond.methodLink "GasYardLaw" (36 : Nat) ({ cls := "GasYardModel", name := "feed", desc := "(IIIII)I" } : Jvm.MethodName)) ∈ gG := gG_mem (List.mem_of_getElem? (i := 892) (by decide +kernel)) (by decide +kernel)
theorem gm_893 : (Jvm.Cond.instanceMethod ({ cls := "GasYardModel", name := "feed", desc := "(IIIII)I" } : Jvm.MethodName)) ∈ gG := gG_mem (List.mem_of_getElem? (i := 893) (by decide +kernel)) (by decide +kernel)
theorem gm_894 : (Jvm.Cond.selects "GasYardModel" ({ cls := "GasYardModel", name := "feed", desc := "(IIIII)I" } : Jvm.MethodName) ({ cls := "GasYardModel", name := "feed", desc := "(IIIII)I" } : Jvm.MethodName)) ∈ gG := gG_mem (List.mem_of_getElem? (i := 894) (by decide +kernel)) (by decide +kernel)
set_option maxRecDepth 20000 in
theorem gm_895 : (Jvm.Cond.code ({ cls := "GasYardModel", name := "feed", desc := "(IIIII)I" } : Jvm.MethodName) prog_10_method_10_code (6 : Nat) (Option.some Jvm.ClassFile.FieldType.int)) ∈ gG := gG_mem (List.mem_of_getElem? (i := 895) (rfl)) (by decide +kernel)
theorem gm_896 : (Jvm.Cond.methodLink "GasYardModel" (148 : Nat) ({ cls := "GasYardModel", name := "four", desc := "(I)V" } : Jvm.MethodName)) ∈ gG := gG_mem (List.mem_of_getElem? (i := 896) (by decide +kernel)) (by decide +kernel)
theorem gm_898 : (Jvm.Cond.instanceMethod ({ cls := "GasYardModel", name := "four", desc := "(I)V" } : Jvm.MethodName)) ∈ gG := gG_mem (List.mem_of_getElem? (i := 898) (by decide +kernel)) (by decide +kernel)
set_option maxRecDepth 20000 in
theorem gm_899 : (Jvm.Cond.code ({ cls := "GasYardModel", name := "four", desc := "(I)V" } : Jvm.MethodName) prog_10_method_9_code (3 : Nat) (Option.none : Option Jvm.ClassFile.FieldType)) ∈ gG := gG_mem (List.mem_of_getElem? (i := 899) (rfl)) (by decide +kernel)
theorem gm_900 : (Jvm.Cond.methodLink "GasYardLaw" (40 : Nat) ({ cls := "GasYardModel", name := "end", desc := "(I)I" } : Jvm.MethodName)) ∈ gG := gG_mem (List.mem_of_getElem? (i := 900) (by decide +kernel)) (by decide +kernel)
theorem gm_901 : (Jvm.Cond.instanceMethod ({ cls := "GasYardModel", name := "end", desc := "(I)I" } : Jvm.MethodName)) ∈ gG := gG_mem (List.mem_of_getElem? (i := 901) (by decide +kernel)) (by decide +kernel)
theorem gm_902 : (Jvm.Cond.selects "GasYardModel" ({ cls := "GasYardModel", name := "end", desc := "(I)I" } : Jvm.MethodName) ({ cls := "GasYardModel", name := "end", desc := "(I)I" } : Jvm.MethodName)) ∈ gG := gG_mem (List.mem_of_getElem? (i := 902) (by decide +kernel)) (by decide +kernel)
set_option maxRecDepth 20000 in
theorem gm_903 : (Jvm.Cond.code ({ cls := "GasYardModel", name := "end", desc := "(I)I" } : Jvm.MethodName) prog_10_method_11_code (2 : Nat) (Option.some Jvm.ClassFile.FieldType.int)) ∈ gG := gG_mem (List.mem_of_getElem? (i := 903) (rfl)) (by decide +kernel)
theorem gm_904 : (Jvm.Cond.methodLink "GasYardLaw" (45 : Nat) ({ cls := "GasYardModel", name := "book", desc := "()I" } : Jvm.MethodName)) ∈ gG := gG_mem (List.mem_of_getElem? (i := 904) (by decide +kernel)) (by decide +kernel)
theorem gm_905 : (Jvm.Cond.instanceMethod ({ cls := "GasYardModel", name := "book", desc := "()I" } : Jvm.MethodName)) ∈ gG := gG_mem (List.mem_of_getElem? (i := 905) (by decide +kernel)) (by decide +kernel)
theorem gm_906 : (Jvm.Cond.selects "GasYardModel" ({ cls := "GasYardModel", name := "book", desc := "()I" } : Jvm.MethodName) ({ cls := "GasYardModel", name := "book", desc := "()I" } : Jvm.MethodName)) ∈ gG := gG_mem (List.mem_of_getElem? (i := 906) (by decide +kernel)) (by decide +kernel)
set_option maxRecDepth 20000 in
theorem gm_907 : (Jvm.Cond.code ({ cls := "GasYardModel", name := "book", desc := "()I" } : Jvm.MethodName) prog_10_method_17_code (5 : Nat) (Option.some Jvm.ClassFile.FieldType.int)) ∈ gG := gG_mem (List.mem_of_getElem? (i := 907) (rfl)) (by decide +kernel)
theorem gm_908 : (Jvm.Cond.methodLink "GasYardModel" (158 : Nat) ({ cls := "GasYardModel", name := "see", desc := "()I" } : Jvm.MethodName)) ∈ gG := gG_mem (List.mem_of_getElem? (i := 908) (by decide +kernel)) (by decide +kernel)
theorem gm_910 : (Jvm.Cond.instanceMethod ({ cls := "GasYardModel", name := "see", desc := "()I" } : Jvm.MethodName)) ∈ gG := gG_mem (List.mem_of_getElem? (i := 910) (by decide +kernel)) (by decide +kernel)
set_option maxRecDepth 20000 in
theorem gm_911 : (Jvm.Cond.code ({ cls := "GasYardModel", name := "see", desc := "()I" } : Jvm.MethodName) prog_10_method_13_code (1 : Nat) (Option.some Jvm.ClassFile.FieldType.int)) ∈ gG := gG_mem (List.mem_of_getElem? (i := 911) (rfl)) (by decide +kernel)
theorem gm_912 : (Jvm.Cond.methodLink "GasYardModel" (184 : Nat) ({ cls := "GasYardModel", name := "clause", desc := "()Z" } : Jvm.MethodName)) ∈ gG := gG_mem (List.mem_of_getElem? (i := 912) (by decide +kernel)) (by decide +kernel)
theorem gm_914 : (Jvm.Cond.instanceMethod ({ cls := "GasYardModel", name := "clause", desc := "()Z" } : Jvm.MethodName)) ∈ gG := gG_mem (List.mem_of_getElem? (i := 914) (by decide +kernel)) (by decide +kernel)
set_option maxRecDepth 20000 in
theorem gm_915 : (Jvm.Cond.code ({ cls := "GasYardModel", name := "clause", desc := "()Z" } : Jvm.MethodName) prog_10_method_16_code (2 : Nat) (Option.some Jvm.ClassFile.FieldType.boolean)) ∈ gG := gG_mem (List.mem_of_getElem? (i := 915) (rfl)) (by decide +kernel)
theorem gm_916 : (Jvm.Cond.methodLink "GasYardModel" (172 : Nat) ({ cls := "GasYardModel", name := "wordHere", desc := "()I" } : Jvm.MethodName)) ∈ gG := gG_mem (List.mem_of_getElem? (i := 916) (by decide +kernel)) (by decide +kernel)
theorem gm_918 : (Jvm.Cond.instanceMethod ({ cls := "GasYardModel", name := "wordHere", desc := "()I" } : Jvm.MethodName)) ∈ gG := gG_mem (List.mem_of_getElem? (i := 918) (by decide +kernel)) (by decide +kernel)
set_option maxRecDepth 20000 in
theorem gm_919 : (Jvm.Cond.code ({ cls := "GasYardModel", name := "wordHere", desc := "()I" } : Jvm.MethodName) prog_10_method_14_code (5 : Nat) (Option.some Jvm.ClassFile.FieldType.int)) ∈ gG := gG_mem (List.mem_of_getElem? (i := 919) (rfl)) (by decide +kernel)
theorem gm_920 : (Jvm.Cond.methodLink "GasYardModel" (165 : Nat) ({ cls := "GasYardModel", name := "fails", desc := "(II)Z" } : Jvm.MethodName)) ∈ gG := gG_mem (List.mem_of_getElem? (i := 920) (by decide +kernel)) (by decide +kernel)
theorem gm_922 : (Jvm.Cond.instanceMethod ({ cls := "GasYardModel", name := "fails", desc := "(II)Z" } : Jvm.MethodName)) ∈ gG := gG_mem (List.mem_of_getElem? (i := 922) (by decide +kernel)) (by decide +kernel)
set_option maxRecDepth 20000 in
theorem gm_923 : (Jvm.Cond.code ({ cls := "GasYardModel", name := "fails", desc := "(II)Z" } : Jvm.MethodName) prog_10_method_12_code (3 : Nat) (Option.some Jvm.ClassFile.FieldType.boolean)) ∈ gG := gG_mem (List.mem_of_getElem? (i := 923) (rfl)) (by decide +kernel)
theorem gm_924 : (Jvm.Cond.methodLink "GasYardModel" (181 : Nat) ({ cls := "GasYardModel", name := "number", desc := "(II)Z" } : Jvm.MethodName)) ∈ gG := gG_mem (List.mem_of_getElem? (i := 924) (by decide +kernel)) (by decide +kernel)
theorem gm_926 : (Jvm.Cond.instanceMethod ({ cls := "GasYardModel", name := "number", desc := "(II)Z" } : Jvm.MethodName)) ∈ gG := gG_mem (List.mem_of_getElem? (i := 926) (by decide +kernel)) (by decide +kernel)
set_option maxRecDepth 20000 in
theorem gm_927 : (Jvm.Cond.code ({ cls := "GasYardModel", name := "number", desc := "(II)Z" } : Jvm.MethodName) prog_10_method_15_code (7 : Nat) (Option.some Jvm.ClassFile.FieldType.boolean)) ∈ gG := gG_mem (List.mem_of_getElem? (i := 927) (rfl)) (by decide +kernel)
theorem gm_928 : (Jvm.Cond.methodLink "GasYardLaw" (49 : Nat) ({ cls := "GasYardModel", name := "flow", desc := "(I)I" } : Jvm.MethodName)) ∈ gG := gG_mem (List.mem_of_getElem? (i := 928) (by decide +kernel)) (by decide +kernel)
theorem gm_929 : (Jvm.Cond.instanceMethod ({ cls := "GasYardModel", name := "flow", desc := "(I)I" } : Jvm.MethodName)) ∈ gG := gG_mem (List.mem_of_getElem? (i := 929) (by decide +kernel)) (by decide +kernel)
theorem gm_930 : (Jvm.Cond.selects "GasYardModel" ({ cls := "GasYardModel", name := "flow", desc := "(I)I" } : Jvm.MethodName) ({ cls := "GasYardModel", name := "flow", desc := "(I)I" } : Jvm.MethodName)) ∈ gG := gG_mem (List.mem_of_getElem? (i := 930) (by decide +kernel)) (by decide +kernel)
set_option maxRecDepth 20000 in
theorem gm_931 : (Jvm.Cond.code ({ cls := "GasYardModel", name := "flow", desc := "(I)I" } : Jvm.MethodName) prog_10_method_19_code (2 : Nat) (Option.some Jvm.ClassFile.FieldType.int)) ∈ gG := gG_mem (List.mem_of_getElem? (i := 931) (rfl)) (by decide +kernel)
theorem gm_932 : (Jvm.Cond.methodLink "GasYardModel" (188 : Nat) ({ cls := "GasYardModel", name := "flowAt", desc := "(I)I" } : Jvm.MethodName)) ∈ gG := gG_mem (List.mem_of_getElem? (i := 932) (by decide +kernel)) (by decide +kernel)
theorem gm_934 : (Jvm.Cond.instanceMethod ({ cls := "GasYardModel", name := "flowAt", desc := "(I)I" } : Jvm.MethodName)) ∈ gG := gG_mem (List.mem_of_getElem? (i := 934) (by decide +kernel)) (by decide +kernel)
set_option maxRecDepth 20000 in
theorem gm_935 : (Jvm.Cond.code ({ cls := "GasYardModel", name := "flowAt", desc := "(I)I" } : Jvm.MethodName) prog_10_method_18_code (4 : Nat) (Option.some Jvm.ClassFile.FieldType.int)) ∈ gG := gG_mem (List.mem_of_getElem? (i := 935) (rfl)) (by decide +kernel)
theorem gm_936 : (Jvm.Cond.methodLink "GasYardLaw" (53 : Nat) ({ cls := "GasYardModel", name := "price", desc := "(II)I" } : Jvm.MethodName)) ∈ gG := gG_mem (List.mem_of_getElem? (i := 936) (by decide +kernel)) (by decide +kernel)
theorem gm_937 : (Jvm.Cond.instanceMethod ({ cls := "GasYardModel", name := "price", desc := "(II)I" } : Jvm.MethodName)) ∈ gG := gG_mem (List.mem_of_getElem? (i := 937) (by decide +kernel)) (by decide +kernel)
theorem gm_938 : (Jvm.Cond.selects "GasYardModel" ({ cls := "GasYardModel", name := "price", desc := "(II)I" } : Jvm.MethodName) ({ cls := "GasYardModel", name := "price", desc := "(II)I" } : Jvm.MethodName)) ∈ gG := gG_mem (List.mem_of_getElem? (i := 938) (by decide +kernel)) (by decide +kernel)
set_option maxRecDepth 20000 in
theorem gm_939 : (Jvm.Cond.code ({ cls := "GasYardModel", name := "price", desc := "(II)I" } : Jvm.MethodName) prog_10_method_20_code (4 : Nat) (Option.some Jvm.ClassFile.FieldType.int)) ∈ gG := gG_mem (List.mem_of_getElem? (i := 939) (rfl)) (by decide +kernel)
theorem gm_940 : (Jvm.Cond.methodLink "GasYardLaw" (58 : Nat) ({ cls := "GasYardModel", name := "closed", desc := "(IZ)Z" } : Jvm.MethodName)) ∈ gG := gG_mem (List.mem_of_getElem? (i := 940) (by decide +kernel)) (by decide +kernel)
theorem gm_941 : (Jvm.Cond.instanceMethod ({ cls := "GasYardModel", name := "closed", desc := "(IZ)Z" } : Jvm.MethodName)) ∈ gG := gG_mem (List.mem_of_getElem? (i := 941) (by decide +kernel)) (by decide +kernel)
theorem gm_942 : (Jvm.Cond.selects "GasYardModel" ({ cls := "GasYardModel", name := "closed", desc := "(IZ)Z" } : Jvm.MethodName) ({ cls := "GasYardModel", name := "closed", desc := "(IZ)Z" } : Jvm.MethodName)) ∈ gG := gG_mem (List.mem_of_getElem? (i := 942) (by decide +kernel)) (by decide +kernel)
set_option maxRecDepth 20000 in
theorem gm_943 : (Jvm.Cond.code ({ cls := "GasYardModel", name := "closed", desc := "(IZ)Z" } : Jvm.MethodName) prog_10_method_21_code (3 : Nat) (Option.some Jvm.ClassFile.FieldType.boolean)) ∈ gG := gG_mem (List.mem_of_getElem? (i := 943) (rfl)) (by decide +kernel)
theorem gm_944 : (Jvm.Cond.methodLink "GasYardLaw" (63 : Nat) ({ cls := "GasYardModel", name := "sensor", desc := "(IIZ)Z" } : Jvm.MethodName)) ∈ gG := gG_mem (List.mem_of_getElem? (i := 944) (by decide +kernel)) (by decide +kernel)
theorem gm_945 : (Jvm.Cond.instanceMethod ({ cls := "GasYardModel", name := "sensor", desc := "(IIZ)Z" } : Jvm.MethodName)) ∈ gG := gG_mem (List.mem_of_getElem? (i := 945) (by decide +kernel)) (by decide +kernel)
theorem gm_946 : (Jvm.Cond.selects "GasYardModel" ({ cls := "GasYardModel", name := "sensor", desc := "(IIZ)Z" } : Jvm.MethodName) ({ cls := "GasYardModel", name := "sensor", desc := "(IIZ)Z" } : Jvm.MethodName)) ∈ gG := gG_mem (List.mem_of_getElem? (i := 946) (by decide +kernel)) (by decide +kernel)
set_option maxRecDepth 20000 in
theorem gm_947 : (Jvm.Cond.code ({ cls := "GasYardModel", name := "sensor", desc := "(IIZ)Z" } : Jvm.MethodName) prog_10_method_23_code (4 : Nat) (Option.some Jvm.ClassFile.FieldType.boolean)) ∈ gG := gG_mem (List.mem_of_getElem? (i := 947) (rfl)) (by decide +kernel)
theorem gm_948 : (Jvm.Cond.methodLink "GasYardModel" (194 : Nat) ({ cls := "GasYardModel", name := "isCar", desc := "(I)Z" } : Jvm.MethodName)) ∈ gG := gG_mem (List.mem_of_getElem? (i := 948) (by decide +kernel)) (by decide +kernel)
theorem gm_950 : (Jvm.Cond.instanceMethod ({ cls := "GasYardModel", name := "isCar", desc := "(I)Z" } : Jvm.MethodName)) ∈ gG := gG_mem (List.mem_of_getElem? (i := 950) (by decide +kernel)) (by decide +kernel)
set_option maxRecDepth 20000 in
theorem gm_951 : (Jvm.Cond.code ({ cls := "GasYardModel", name := "isCar", desc := "(I)Z" } : Jvm.MethodName) prog_10_method_22_code (2 : Nat) (Option.some Jvm.ClassFile.FieldType.boolean)) ∈ gG := gG_mem (List.mem_of_getElem? (i := 951) (rfl)) (by decide +kernel)
theorem gm_952 : (Jvm.Cond.methodLink "GasYardLaw" (67 : Nat) ({ cls := "GasYardModel", name := "car", desc := "(III)I" } : Jvm.MethodName)) ∈ gG := gG_mem (List.mem_of_getElem? (i := 952) (by decide +kernel)) (by decide +kernel)
theorem gm_953 : (Jvm.Cond.instanceMethod ({ cls := "GasYardModel", name := "car", desc := "(III)I" } : Jvm.MethodName)) ∈ gG := gG_mem (List.mem_of_getElem? (i := 953) (by decide +kernel)) (by decide +kernel)
theorem gm_954 : (Jvm.Cond.selects "GasYardModel" ({ cls := "GasYardModel", name := "car", desc := "(III)I" } : Jvm.MethodName) ({ cls := "GasYardModel", name := "car", desc := "(III)I" } : Jvm.MethodName)) ∈ gG := gG_mem (List.mem_of_getElem? (i := 954) (by decide +kernel)) (by decide +kernel)
set_option maxRecDepth 20000 in
theorem gm_955 : (Jvm.Cond.code ({ cls := "GasYardModel", name := "car", desc := "(III)I" } : Jvm.MethodName) prog_10_method_24_code (4 : Nat) (Option.some Jvm.ClassFile.FieldType.int)) ∈ gG := gG_mem (List.mem_of_getElem? (i := 955) (rfl)) (by decide +kernel)
theorem gm_956 : (Jvm.Cond.methodLink "GasYardLaw" (71 : Nat) ({ cls := "GasYardModel", name := "pass", desc := "(I)I" } : Jvm.MethodName)) ∈ gG := gG_mem (List.mem_of_getElem? (i := 956) (by decide +kernel)) (by decide +kernel)
theorem gm_957 : (Jvm.Cond.instanceMethod ({ cls := "GasYardModel", name := "pass", desc := "(I)I" } : Jvm.MethodName)) ∈ gG := gG_mem (List.mem_of_getElem? (i := 957) (by decide +kernel)) (by decide +kernel)
theorem gm_958 : (Jvm.Cond.selects "GasYardModel" ({ cls := "GasYardModel", name := "pass", desc := "(I)I" } : Jvm.MethodName) ({ cls := "GasYardModel", name := "pass", desc := "(I)I" } : Jvm.MethodName)) ∈ gG := gG_mem (List.mem_of_getElem? (i := 958) (by decide +kernel)) (by decide +kernel)
set_option maxRecDepth 20000 in
theorem gm_959 : (Jvm.Cond.code ({ cls := "GasYardModel", name := "pass", desc := "(I)I" } : Jvm.MethodName) prog_10_method_31_code (3 : Nat) (Option.some Jvm.ClassFile.FieldType.int)) ∈ gG := gG_mem (List.mem_of_getElem? (i := 959) (rfl)) (by decide +kernel)
theorem gm_960 : (Jvm.Cond.methodLink "GasYardModel" (223 : Nat) ({ cls := "GasYardModel", name := "tick", desc := "()V" } : Jvm.MethodName)) ∈ gG := gG_mem (List.mem_of_getElem? (i := 960) (by decide +kernel)) (by decide +kernel)
theorem gm_962 : (Jvm.Cond.instanceMethod ({ cls := "GasYardModel", name := "tick", desc := "()V" } : Jvm.MethodName)) ∈ gG := gG_mem (List.mem_of_getElem? (i := 962) (by decide +kernel)) (by decide +kernel)
set_option maxRecDepth 20000 in
theorem gm_963 : (Jvm.Cond.code ({ cls := "GasYardModel", name := "tick", desc := "()V" } : Jvm.MethodName) prog_10_method_30_code (3 : Nat) (Option.none : Option Jvm.ClassFile.FieldType)) ∈ gG := gG_mem (List.mem_of_getElem? (i := 963) (rfl)) (by decide +kernel)
theorem gm_964 : (Jvm.Cond.methodLink "GasYardModel" (214 : Nat) ({ cls := "GasYardModel", name := "draws", desc := "(I)V" } : Jvm.MethodName)) ∈ gG := gG_mem (List.mem_of_getElem? (i := 964) (by decide +kernel)) (by decide +kernel)
theorem gm_966 : (Jvm.Cond.instanceMethod ({ cls := "GasYardModel", name := "draws", desc := "(I)V" } : Jvm.MethodName)) ∈ gG := gG_mem (List.mem_of_getElem? (i := 966) (by decide +kernel)) (by decide +kernel)
set_option maxRecDepth 20000 in
theorem gm_967 : (Jvm.Cond.code ({ cls := "GasYardModel", name := "draws", desc := "(I)V" } : Jvm.MethodName) prog_10_method_28_code (5 : Nat) (Option.none : Option Jvm.ClassFile.FieldType)) ∈ gG := gG_mem (List.mem_of_getElem? (i := 967) (rfl)) (by decide +kernel)
theorem gm_968 : (Jvm.Cond.methodLink "GasYardModel" (200 : Nat) ({ cls := "GasYardModel", name := "goes", desc := "(II)V" } : Jvm.MethodName)) ∈ gG := gG_mem (List.mem_of_getElem? (i := 968) (by decide +kernel)) (by decide +kernel)
theorem gm_970 : (Jvm.Cond.instanceMethod ({ cls := "GasYardModel", name := "goes", desc := "(II)V" } : Jvm.MethodName)) ∈ gG := gG_mem (List.mem_of_getElem? (i := 970) (by decide +kernel)) (by decide +kernel)
set_option maxRecDepth 20000 in
theorem gm_971 : (Jvm.Cond.code ({ cls := "GasYardModel", name := "goes", desc := "(II)V" } : Jvm.MethodName) prog_10_method_27_code (4 : Nat) (Option.none : Option Jvm.ClassFile.FieldType)) ∈ gG := gG_mem (List.mem_of_getElem? (i := 971) (rfl)) (by decide +kernel)
theorem gm_972 : (Jvm.Cond.methodLink "GasYardModel" (204 : Nat) ({ cls := "GasYardModel", name := "units", desc := "(IIIIII)I" } : Jvm.MethodName)) ∈ gG := gG_mem (List.mem_of_getElem? (i := 972) (by decide +kernel)) (by decide +kernel)
theorem gm_974 : (Jvm.Cond.instanceMethod ({ cls := "GasYardModel", name := "units", desc := "(IIIIII)I" } : Jvm.MethodName)) ∈ gG := gG_mem (List.mem_of_getElem? (i := 974) (by decide +kernel)) (by decide +kernel)
set_option maxRecDepth 20000 in
theorem gm_975 : (Jvm.Cond.code ({ cls := "GasYardModel", name := "units", desc := "(IIIIII)I" } : Jvm.MethodName) prog_10_method_25_code (12 : Nat) (Option.some Jvm.ClassFile.FieldType.int)) ∈ gG := gG_mem (List.mem_of_getElem? (i := 975) (rfl)) (by decide +kernel)
theorem gm_976 : (Jvm.Cond.methodLink "GasYardModel" (217 : Nat) ({ cls := "GasYardModel", name := "cooled", desc := "(I)I" } : Jvm.MethodName)) ∈ gG := gG_mem (List.mem_of_getElem? (i := 976) (by decide +kernel)) (by decide +kernel)
theorem gm_978 : (Jvm.Cond.instanceMethod ({ cls := "GasYardModel", name := "cooled", desc := "(I)I" } : Jvm.MethodName)) ∈ gG := gG_mem (List.mem_of_getElem? (i := 978) (by decide +kernel)) (by decide +kernel)
set_option maxRecDepth 20000 in
theorem gm_979 : (Jvm.Cond.code ({ cls := "GasYardModel", name := "cooled", desc := "(I)I" } : Jvm.MethodName) prog_10_method_26_code (2 : Nat) (Option.some Jvm.ClassFile.FieldType.int)) ∈ gG := gG_mem (List.mem_of_getElem? (i := 979) (rfl)) (by decide +kernel)
theorem gm_980 : (Jvm.Cond.methodLink "GasYardModel" (220 : Nat) ({ cls := "GasYardModel", name := "presses", desc := "()V" } : Jvm.MethodName)) ∈ gG := gG_mem (List.mem_of_getElem? (i := 980) (by decide +kernel)) (by decide +kernel)
theorem gm_982 : (Jvm.Cond.instanceMethod ({ cls := "GasYardModel", name := "presses", desc := "()V" } : Jvm.MethodName)) ∈ gG := gG_mem (List.mem_of_getElem? (i := 982) (by decide +kernel)) (by decide +kernel)
set_option maxRecDepth 20000 in
theorem gm_983 : (Jvm.Cond.code ({ cls := "GasYardModel", name := "presses", desc := "()V" } : Jvm.MethodName) prog_10_method_29_code (6 : Nat) (Option.none : Option Jvm.ClassFile.FieldType)) ∈ gG := gG_mem (List.mem_of_getElem? (i := 983) (rfl)) (by decide +kernel)
theorem gm_984 : (Jvm.Cond.methodLink "GasYardLaw" (75 : Nat) ({ cls := "GasYardModel", name := "reading", desc := "(II)I" } : Jvm.MethodName)) ∈ gG := gG_mem (List.mem_of_getElem? (i := 984) (by decide +kernel)) (by decide +kernel)
theorem gm_985 : (Jvm.Cond.instanceMethod ({ cls := "GasYardModel", name := "reading", desc := "(II)I" } : Jvm.MethodName)) ∈ gG := gG_mem (List.mem_of_getElem? (i := 985) (by decide +kernel)) (by decide +kernel)
theorem gm_986 : (Jvm.Cond.selects "GasYardModel" ({ cls := "GasYardModel", name := "reading", desc := "(II)I" } : Jvm.MethodName) ({ cls := "GasYardModel", name := "reading", desc := "(II)I" } : Jvm.MethodName)) ∈ gG := gG_mem (List.mem_of_getElem? (i := 986) (by decide +kernel)) (by decide +kernel)
set_option maxRecDepth 20000 in
theorem gm_987 : (Jvm.Cond.code ({ cls := "GasYardModel", name := "reading", desc := "(II)I" } : Jvm.MethodName) prog_10_method_32_code (5 : Nat) (Option.some Jvm.ClassFile.FieldType.int)) ∈ gG := gG_mem (List.mem_of_getElem? (i := 987) (rfl)) (by decide +kernel)
theorem gm_988 : (Jvm.Cond.constant "GasYardModel" (226 : Nat) (-1000000 : Int32)) ∈ gG := gG_mem (List.mem_of_getElem? (i := 988) (by decide +kernel)) (by decide +kernel)
theorem gm_989 : (Jvm.Cond.methodLink "GasYardLaw" (79 : Nat) ({ cls := "GasYardModel", name := "slip", desc := "(I)I" } : Jvm.MethodName)) ∈ gG := gG_mem (List.mem_of_getElem? (i := 989) (by decide +kernel)) (by decide +kernel)
theorem gm_990 : (Jvm.Cond.instanceMethod ({ cls := "GasYardModel", name := "slip", desc := "(I)I" } : Jvm.MethodName)) ∈ gG := gG_mem (List.mem_of_getElem? (i := 990) (by decide +kernel)) (by decide +kernel)
theorem gm_991 : (Jvm.Cond.selects "GasYardModel" ({ cls := "GasYardModel", name := "slip", desc := "(I)I" } : Jvm.MethodName) ({ cls := "GasYardModel", name := "slip", desc := "(I)I" } : Jvm.MethodName)) ∈ gG := gG_mem (List.mem_of_getElem? (i := 991) (by decide +kernel)) (by decide +kernel)
set_option maxRecDepth 20000 in
theorem gm_992 : (Jvm.Cond.code ({ cls := "GasYardModel", name := "slip", desc := "(I)I" } : Jvm.MethodName) prog_10_method_33_code (3 : Nat) (Option.some Jvm.ClassFile.FieldType.int)) ∈ gG := gG_mem (List.mem_of_getElem? (i := 992) (rfl)) (by decide +kernel)
theorem gm_993 : (Jvm.Cond.methodLink "GasYardLaw" (84 : Nat) ({ cls := "GasYardModel", name := "best", desc := "(IIII)I" } : Jvm.MethodName)) ∈ gG := gG_mem (List.mem_of_getElem? (i := 993) (by decide +kernel)) (by decide +kernel)
theorem gm_994 : (Jvm.Cond.instanceMethod ({ cls := "GasYardModel", name := "best", desc := "(IIII)I" } : Jvm.MethodName)) ∈ gG := gG_mem (List.mem_of_getElem? (i := 994) (by decide +kernel)) (by decide +kernel)
theorem gm_995 : (Jvm.Cond.selects "GasYardModel" ({ cls := "GasYardModel", name := "best", desc := "(IIII)I" } : Jvm.MethodName) ({ cls := "GasYardModel", name := "best", desc := "(IIII)I" } : Jvm.MethodName)) ∈ gG := gG_mem (List.mem_of_getElem? (i := 995) (by decide +kernel)) (by decide +kernel)
set_option maxRecDepth 20000 in
theorem gm_996 : (Jvm.Cond.code ({ cls := "GasYardModel", name := "best", desc := "(IIII)I" } : Jvm.MethodName) prog_10_method_37_code (9 : Nat) (Option.some Jvm.ClassFile.FieldType.int)) ∈ gG := gG_mem (List.mem_of_getElem? (i := 996) (rfl)) (by decide +kernel)
theorem gm_997 : (Jvm.Cond.methodLink "GasYardModel" (236 : Nat) ({ cls := "GasYardModel", name := "runs", desc := "(IIII)I" } : Jvm.MethodName)) ∈ gG := gG_mem (List.mem_of_getElem? (i := 997) (by decide +kernel)) (by decide +kernel)
theorem gm_999 : (Jvm.Cond.instanceMethod ({ cls := "GasYardModel", name := "runs", desc := "(IIII)I" } : Jvm.MethodName)) ∈ gG := gG_mem (List.mem_of_getElem? (i := 999) (by decide +kernel)) (by decide +kernel)
set_option maxRecDepth 20000 in
theorem gm_1000 : (Jvm.Cond.code ({ cls := "GasYardModel", name := "runs", desc := "(IIII)I" } : Jvm.MethodName) prog_10_method_35_code (10 : Nat) (Option.some Jvm.ClassFile.FieldType.int)) ∈ gG := gG_mem (List.mem_of_getElem? (i := 1000) (rfl)) (by decide +kernel)
theorem gm_1001 : (Jvm.Cond.methodLink "GasYardModel" (240 : Nat) ({ cls := "GasYardModel", name := "isBetter", desc := "(I)Z" } : Jvm.MethodName)) ∈ gG := gG_mem (List.mem_of_getElem? (i := 1001) (by decide +kernel)) (by decide +kernel)
theorem gm_1003 : (Jvm.Cond.instanceMethod ({ cls := "GasYardModel", name := "isBetter", desc := "(I)Z" } : Jvm.MethodName)) ∈ gG := gG_mem (List.mem_of_getElem? (i := 1003) (by decide +kernel)) (by decide +kernel)
set_option maxRecDepth 20000 in
theorem gm_1004 : (Jvm.Cond.code ({ cls := "GasYardModel", name := "isBetter", desc := "(I)Z" } : Jvm.MethodName) prog_10_method_34_code (3 : Nat) (Option.some Jvm.ClassFile.FieldType.boolean)) ∈ gG := gG_mem (List.mem_of_getElem? (i := 1004) (rfl)) (by decide +kernel)
theorem gm_1005 : (Jvm.Cond.methodLink "GasYardModel" (243 : Nat) ({ cls := "GasYardModel", name := "goesOn", desc := "(I)Z" } : Jvm.MethodName)) ∈ gG := gG_mem (List.mem_of_getElem? (i := 1005) (by decide +kernel)) (by decide +kernel)
theorem gm_1007 : (Jvm.Cond.instanceMethod ({ cls := "GasYardModel", name := "goesOn", desc := "(I)Z" } : Jvm.MethodName)) ∈ gG := gG_mem (List.mem_of_getElem? (i := 1007) (by decide +kernel)) (by decide +kernel)
set_option maxRecDepth 20000 in
theorem gm_1008 : (Jvm.Cond.code ({ cls := "GasYardModel", name := "goesOn", desc := "(I)Z" } : Jvm.MethodName) prog_10_method_36_code (3 : Nat) (Option.some Jvm.ClassFile.FieldType.boolean)) ∈ gG := gG_mem (List.mem_of_getElem? (i := 1008) (rfl)) (by decide +kernel)
theorem gm_1009 : (Jvm.Cond.methodLink "GasYardLaw" (88 : Nat) ({ cls := "GasYardModel", name := "bestOf", desc := "(II)I" } : Jvm.MethodName)) ∈ gG := gG_mem (List.mem_of_getElem? (i := 1009) (by decide +kernel)) (by decide +kernel)
theorem gm_1010 : (Jvm.Cond.instanceMethod ({ cls := "GasYardModel", name := "bestOf", desc := "(II)I" } : Jvm.MethodName)) ∈ gG := gG_mem (List.mem_of_getElem? (i := 1010) (by decide +kernel)) (by decide +kernel)
theorem gm_1011 : (Jvm.Cond.selects "GasYardModel" ({ cls := "GasYardModel", name := "bestOf", desc := "(II)I" } : Jvm.MethodName) ({ cls := "GasYardModel", name := "bestOf", desc := "(II)I" } : Jvm.MethodName)) ∈ gG := gG_mem (List.mem_of_getElem? (i := 1011) (by decide +kernel)) (by decide +kernel)
set_option maxRecDepth 20000 in
theorem gm_1012 : (Jvm.Cond.code ({ cls := "GasYardModel", name := "bestOf", desc := "(II)I" } : Jvm.MethodName) prog_10_method_38_code (3 : Nat) (Option.some Jvm.ClassFile.FieldType.int)) ∈ gG := gG_mem (List.mem_of_getElem? (i := 1012) (rfl)) (by decide +kernel)
theorem gm_1013 : (Jvm.Cond.methodLink "GasYardLaw" (92 : Nat) ({ cls := "GasYardModel", name := "banks", desc := "(II)I" } : Jvm.MethodName)) ∈ gG := gG_mem (List.mem_of_getElem? (i := 1013) (by decide +kernel)) (by decide +kernel)
theorem gm_1014 : (Jvm.Cond.instanceMethod ({ cls := "GasYardModel", name := "banks", desc := "(II)I" } : Jvm.MethodName)) ∈ gG := gG_mem (List.mem_of_getElem? (i := 1014) (by decide +kernel)) (by decide +kernel)
theorem gm_1015 : (Jvm.Cond.selects "GasYardModel" ({ cls := "GasYardModel", name := "banks", desc := "(II)I" } : Jvm.MethodName) ({ cls := "GasYardModel", name := "banks", desc := "(II)I" } : Jvm.MethodName)) ∈ gG := gG_mem (List.mem_of_getElem? (i := 1015) (by decide +kernel)) (by decide +kernel)
set_option maxRecDepth 20000 in
theorem gm_1016 : (Jvm.Cond.code ({ cls := "GasYardModel", name := "banks", desc := "(II)I" } : Jvm.MethodName) prog_10_method_39_code (3 : Nat) (Option.some Jvm.ClassFile.FieldType.int)) ∈ gG := gG_mem (List.mem_of_getElem? (i := 1016) (rfl)) (by decide +kernel)
theorem gm_1017 : (Jvm.Cond.methodLink "GasYardLaw" (96 : Nat) ({ cls := "GasYardModel", name := "cars", desc := "(II)I" } : Jvm.MethodName)) ∈ gG := gG_mem (List.mem_of_getElem? (i := 1017) (by decide +kernel)) (by decide +kernel)
theorem gm_1018 : (Jvm.Cond.instanceMethod ({ cls := "GasYardModel", name := "cars", desc := "(II)I" } : Jvm.MethodName)) ∈ gG := gG_mem (List.mem_of_getElem? (i := 1018) (by decide +kernel)) (by decide +kernel)
theorem gm_1019 : (Jvm.Cond.selects "GasYardModel" ({ cls := "GasYardModel", name := "cars", desc := "(II)I" } : Jvm.MethodName) ({ cls := "GasYardModel", name := "cars", desc := "(II)I" } : Jvm.MethodName)) ∈ gG := gG_mem (List.mem_of_getElem? (i := 1019) (by decide +kernel)) (by decide +kernel)
set_option maxRecDepth 20000 in
theorem gm_1020 : (Jvm.Cond.code ({ cls := "GasYardModel", name := "cars", desc := "(II)I" } : Jvm.MethodName) prog_10_method_40_code (3 : Nat) (Option.some Jvm.ClassFile.FieldType.int)) ∈ gG := gG_mem (List.mem_of_getElem? (i := 1020) (rfl)) (by decide +kernel)
theorem gm_1021 : (Jvm.Cond.methodLink "GasYardLaw" (100 : Nat) ({ cls := "GasYardModel", name := "count", desc := "(I)I" } : Jvm.MethodName)) ∈ gG := gG_mem (List.mem_of_getElem? (i := 1021) (by decide +kernel)) (by decide +kernel)
theorem gm_1022 : (Jvm.Cond.instanceMethod ({ cls := "GasYardModel", name := "count", desc := "(I)I" } : Jvm.MethodName)) ∈ gG := gG_mem (List.mem_of_getElem? (i := 1022) (by decide +kernel)) (by decide +kernel)
theorem gm_1023 : (Jvm.Cond.selects "GasYardModel" ({ cls := "GasYardModel", name := "count", desc := "(I)I" } : Jvm.MethodName) ({ cls := "GasYardModel", name := "count", desc := "(I)I" } : Jvm.MethodName)) ∈ gG := gG_mem (List.mem_of_getElem? (i := 1023) (by decide +kernel)) (by decide +kernel)
set_option maxRecDepth 20000 in
theorem gm_1024 : (Jvm.Cond.code ({ cls := "GasYardModel", name := "count", desc := "(I)I" } : Jvm.MethodName) prog_10_method_41_code (4 : Nat) (Option.some Jvm.ClassFile.FieldType.int)) ∈ gG := gG_mem (List.mem_of_getElem? (i := 1024) (rfl)) (by decide +kernel)
theorem gm_1025 : (Jvm.Cond.fieldLink "java/lang/String" (9 : Nat) "java/lang/String" "value" "[B") ∈ gG := gG_mem (List.mem_of_getElem? (i := 1025) (by decide +kernel)) (by decide +kernel)
theorem gm_1026 : (Jvm.Cond.fieldLink "java/lang/String" (15 : Nat) "java/lang/String" "coder" "B") ∈ gG := gG_mem (List.mem_of_getElem? (i := 1026) (by decide +kernel)) (by decide +kernel)
theorem gs_0 : Cond.selects "GasYard" yX7_bankAt yX7_bankAt ∈ gG := gG_sel (List.mem_of_getElem? (i := 0) (by decide +kernel)) (by decide +kernel)
theorem gs_1 : Cond.selects "GasYard$BookReader" yX1_skipBlanks yX1_skipBlanks ∈ gG := gG_sel (List.mem_of_getElem? (i := 1) (by decide +kernel)) (by decide +kernel)
theorem gs_2 : Cond.selects "GasYard$BookReader" yX1_readClauses yX1_readClauses ∈ gG := gG_sel (List.mem_of_getElem? (i := 2) (by decide +kernel)) (by decide +kernel)
theorem gs_3 : Cond.selects "GasYard$BookReader" yX1_readClause yX1_readClause ∈ gG := gG_sel (List.mem_of_getElem? (i := 3) (by decide +kernel)) (by decide +kernel)
theorem gs_4 : Cond.selects "GasYard$BookReader" yX1_readWord yX1_readWord ∈ gG := gG_sel (List.mem_of_getElem? (i := 4) (by decide +kernel)) (by decide +kernel)
theorem gs_5 : Cond.selects "GasYard$BookReader" yX1_isWord yX1_isWord ∈ gG := gG_sel (List.mem_of_getElem? (i := 5) (by decide +kernel)) (by decide +kernel)
theorem gs_6 : Cond.selects "GasYard$BookReader" yX1_blame yX1_blame ∈ gG := gG_sel (List.mem_of_getElem? (i := 6) (by decide +kernel)) (by decide +kernel)
theorem gs_7 : Cond.selects "GasYard$BookReader" yX1_readFlow yX1_readFlow ∈ gG := gG_sel (List.mem_of_getElem? (i := 7) (by decide +kernel)) (by decide +kernel)
theorem gs_8 : Cond.selects "GasYard$BookReader" yX1_readNumber yX1_readNumber ∈ gG := gG_sel (List.mem_of_getElem? (i := 8) (by decide +kernel)) (by decide +kernel)
theorem gs_9 : Cond.selects "GasYard$BookReader" yX1_readSetting yX1_readSetting ∈ gG := gG_sel (List.mem_of_getElem? (i := 9) (by decide +kernel)) (by decide +kernel)
theorem gs_10 : Cond.selects "GasYard" yX7_carAt yX7_carAt ∈ gG := gG_sel (List.mem_of_getElem? (i := 10) (by decide +kernel)) (by decide +kernel)
theorem gs_11 : Cond.selects "GasYard" yX7_airTenths yX7_airTenths ∈ gG := gG_sel (List.mem_of_getElem? (i := 11) (by decide +kernel)) (by decide +kernel)
theorem gs_12 : Cond.selects "GasYard" yX7_takeFromLine yX7_takeFromLine ∈ gG := gG_sel (List.mem_of_getElem? (i := 12) (by decide +kernel)) (by decide +kernel)
theorem gs_13 : Cond.selects "GasYard" yX7_serveHoses yX7_serveHoses ∈ gG := gG_sel (List.mem_of_getElem? (i := 13) (by decide +kernel)) (by decide +kernel)
theorem gs_14 : Cond.selects "GasYard" yX7_drawsOn yX7_drawsOn ∈ gG := gG_sel (List.mem_of_getElem? (i := 14) (by decide +kernel)) (by decide +kernel)
theorem gs_15 : Cond.selects "GasYard$Rules" yX5_unitsToEven yX5_unitsToEven ∈ gG := gG_sel (List.mem_of_getElem? (i := 15) (by decide +kernel)) (by decide +kernel)
theorem gs_16 : Cond.selects "GasYard$Rules" yX5_unitsToLimit yX5_unitsToLimit ∈ gG := gG_sel (List.mem_of_getElem? (i := 16) (by decide +kernel)) (by decide +kernel)
theorem gs_17 : Cond.selects "GasYard" yX7_coolCars yX7_coolCars ∈ gG := gG_sel (List.mem_of_getElem? (i := 17) (by decide +kernel)) (by decide +kernel)
theorem gs_18 : Cond.selects "GasYard" yX7_runPress yX7_runPress ∈ gG := gG_sel (List.mem_of_getElem? (i := 18) (by decide +kernel)) (by decide +kernel)
theorem gs_19 : Cond.selects "GasYard" yX7_anyBankSensed yX7_anyBankSensed ∈ gG := gG_sel (List.mem_of_getElem? (i := 19) (by decide +kernel)) (by decide +kernel)
theorem gs_20 : Cond.selects "GasYard$Planner" yX4_search yX4_search ∈ gG := gG_sel (List.mem_of_getElem? (i := 20) (by decide +kernel)) (by decide +kernel)
theorem gs_21 : Cond.selects "GasYard$Planner" yX4_isBetter yX4_isBetter ∈ gG := gG_sel (List.mem_of_getElem? (i := 21) (by decide +kernel)) (by decide +kernel)
theorem gs_22 : Cond.selects "GasYard$Planner" yX4_keepRow yX4_keepRow ∈ gG := gG_sel (List.mem_of_getElem? (i := 22) (by decide +kernel)) (by decide +kernel)
theorem gs_23 : Cond.selects "GasYard$Planner" yX4_drawAndGoOn yX4_drawAndGoOn ∈ gG := gG_sel (List.mem_of_getElem? (i := 23) (by decide +kernel)) (by decide +kernel)
theorem gs_24 : Cond.selects "GasYardModel" yX8_isBank yX8_isBank ∈ gG := gG_sel (List.mem_of_getElem? (i := 24) (by decide +kernel)) (by decide +kernel)
theorem gs_25 : Cond.selects "GasYardModel" yX8_four yX8_four ∈ gG := gG_sel (List.mem_of_getElem? (i := 25) (by decide +kernel)) (by decide +kernel)
theorem gs_26 : Cond.selects "GasYardModel" yX8_see yX8_see ∈ gG := gG_sel (List.mem_of_getElem? (i := 26) (by decide +kernel)) (by decide +kernel)
theorem gs_27 : Cond.selects "GasYardModel" yX8_clause yX8_clause ∈ gG := gG_sel (List.mem_of_getElem? (i := 27) (by decide +kernel)) (by decide +kernel)
theorem gs_28 : Cond.selects "GasYardModel" yX8_wordHere yX8_wordHere ∈ gG := gG_sel (List.mem_of_getElem? (i := 28) (by decide +kernel)) (by decide +kernel)
theorem gs_29 : Cond.selects "GasYardModel" yX8_fails yX8_fails ∈ gG := gG_sel (List.mem_of_getElem? (i := 29) (by decide +kernel)) (by decide +kernel)
theorem gs_30 : Cond.selects "GasYardModel" yX8_number yX8_number ∈ gG := gG_sel (List.mem_of_getElem? (i := 30) (by decide +kernel)) (by decide +kernel)
theorem gs_31 : Cond.selects "GasYardModel" yX8_flowAt yX8_flowAt ∈ gG := gG_sel (List.mem_of_getElem? (i := 31) (by decide +kernel)) (by decide +kernel)
theorem gs_32 : Cond.selects "GasYardModel" yX8_isCar yX8_isCar ∈ gG := gG_sel (List.mem_of_getElem? (i := 32) (by decide +kernel)) (by decide +kernel)
theorem gs_33 : Cond.selects "GasYardModel" yX8_tick yX8_tick ∈ gG := gG_sel (List.mem_of_getElem? (i := 33) (by decide +kernel)) (by decide +kernel)
theorem gs_34 : Cond.selects "GasYardModel" yX8_draws yX8_draws ∈ gG := gG_sel (List.mem_of_getElem? (i := 34) (by decide +kernel)) (by decide +kernel)
theorem gs_35 : Cond.selects "GasYardModel" yX8_goes yX8_goes ∈ gG := gG_sel (List.mem_of_getElem? (i := 35) (by decide +kernel)) (by decide +kernel)
theorem gs_36 : Cond.selects "GasYardModel" yX8_units yX8_units ∈ gG := gG_sel (List.mem_of_getElem? (i := 36) (by decide +kernel)) (by decide +kernel)
theorem gs_37 : Cond.selects "GasYardModel" yX8_cooled yX8_cooled ∈ gG := gG_sel (List.mem_of_getElem? (i := 37) (by decide +kernel)) (by decide +kernel)
theorem gs_38 : Cond.selects "GasYardModel" yX8_presses yX8_presses ∈ gG := gG_sel (List.mem_of_getElem? (i := 38) (by decide +kernel)) (by decide +kernel)
theorem gs_39 : Cond.selects "GasYardModel" yX8_runs yX8_runs ∈ gG := gG_sel (List.mem_of_getElem? (i := 39) (by decide +kernel)) (by decide +kernel)
theorem gs_40 : Cond.selects "GasYardModel" yX8_isBetter yX8_isBetter ∈ gG := gG_sel (List.mem_of_getElem? (i := 40) (by decide +kernel)) (by decide +kernel)
theorem gs_41 : Cond.selects "GasYardModel" yX8_goesOn yX8_goesOn ∈ gG := gG_sel (List.mem_of_getElem? (i := 41) (by decide +kernel)) (by decide +kernel)
theorem ginX0 : ∀ w ∈ u_ws RX0 TX0 6, w ∈ gG := gG_idx [166, 168, 170, 172, 174, 176] (by decide +kernel) (by decide +kernel)
theorem ginX1 : ∀ w ∈ u_ws RX1 TX1 4, w ∈ gG := gG_idx [54, 56, 58, 60] (by decide +kernel) (by decide +kernel)
theorem ginX2 : ∀ w ∈ u_ws RX2 TX2 10, w ∈ gG := gG_idx [123, 125, 127, 129, 131, 133, 135, 137, 139, 141] (by decide +kernel) (by decide +kernel)
theorem ginX3 : ∀ w ∈ u_ws RX3 TX3 5, w ∈ gG := gG_idx [79, 81, 83, 85, 87] (by decide +kernel) (by decide +kernel)
theorem ginX4 : ∀ w ∈ u_ws RX4 TX4 13, w ∈ gG := gG_idx [193, 195, 197, 199, 201, 203, 205, 207, 209, 211, 213, 215, 217] (by decide +kernel) (by decide +kernel)
theorem ginX5 : ∀ w ∈ u_ws RX5 TX5 8, w ∈ gG := gG_idx [245, 247, 249, 251, 253, 255, 257, 259] (by decide +kernel) (by decide +kernel)
theorem ginX6 : ∀ w ∈ u_ws RX6 TX6 2, w ∈ gG := gG_idx [36, 38] (by decide +kernel) (by decide +kernel)
theorem ginX7 : ∀ w ∈ u_ws RX7 TX7 18, w ∈ gG := gG_idx [280, 282, 284, 286, 288, 290, 292, 294, 296, 298, 300, 302, 304, 306, 308, 310, 312, 314] (by decide +kernel) (by decide +kernel)
theorem ginX8 : ∀ w ∈ u_ws RX8 TX8 56, w ∈ gG := gG_idx [756, 758, 760, 762, 764, 766, 768, 770, 772, 774, 776, 778, 780, 782, 784, 786, 788, 790, 792, 794, 796, 798, 800, 802, 804, 806, 808, 810, 812, 814, 816, 818, 820, 822, 824, 826, 828, 830, 832, 834, 836, 838, 840, 842, 844, 846, 848, 850, 852, 854, 856, 858, 860, 862, 864, 866] (by decide +kernel) (by decide +kernel)
end
section
/-! ===== the memory: cells by their logical numbers ===== -/
abbrev EV : Type := va_G × (Nat → ClassId) × (Nat → Nat) × (Nat → Nat) × Nat
def Bs (E : EV) : Nat → Prop := fun x => E.2.2.2.2 ≤ x
abbrev MI : Type := Nat → Nat → Int32
abbrev MR : Type := Nat → Nat → Option Nat
def p2 (I : MI) (a j : Nat) (v : Int32) : MI := fun b k => if b = a then (if k = j then v else I b k) else I b k
def pq (R : MR) (a j : Nat) (v : Option Nat) : MR := fun b k => if b = a then (if k = j then v else R b k) else R b k
def zI (I : MI) (a : Nat) : MI := fun b k => if b = a then 0 else I b k
def zR (R : MR) (a : Nat) : MR := fun b k => if b = a then none else R b k
def alu (al : Nat → Bool) (a : Nat) : Nat → Bool := fun b => if b = a then true else al b
abbrev classes : List vw_C := [(RX0, TX0, 6), (RX1, TX1, 4), (RX2, TX2, 10), (RX3, TX3, 5), (RX4, TX4, 13), (RX5, TX5, 8), (RX6, TX6, 2), (RX7, TX7, 18), (RX8, TX8, 56)]
def nfL : List Nat := [6, 4, 10, 5, 13, 8, 2, 18, 56]
def nf (k : Nat) : Nat := nfL.getD k 0
def kdL : List Nat := [7, 12, 13, 13, 10, 11, 6, 9, 1, 11, 3, 4, 2, 12, 0, 0, 0, 0, 10, 10, 10, 10, 10, 5, 10, 10, 5, 10, 10, 99, 0, 0, 0, 0, 99, 99, 99, 99, 99, 99, 2, 2, 2, 2, 2, 2, 2, 2, 2, 2, 2, 2, 2, 2, 2, 2, 2, 2, 2, 2, 2, 2, 2, 2, 2, 2, 2, 2, 2, 2, 2, 2, 2, 2, 2, 2, 2, 2, 2, 2, 2, 2, 2, 2, 2, 2, 2, 2, 2, 2, 2, 2, 2, 2, 2, 2, 2, 2, 2, 2, 8, 99, 99, 99, 10, 10, 10, 10, 10, 11, 99, 10, 10, 11, 99, 10, 10, 10, 10, 10, 10, 10, 10, 10, 11, 99, 99, 99, 99, 99, 99, 9, 99, 99, 99, 99, 99, 99, 10, 10, 99, 10, 10, 10, 10, 9, 99, 99, 99, 99, 10, 10, 10, 10, 10, 10, 10]
def lnL : List Nat := [0, 4, 60, 2, 24, 24, 0, 200, 0, 6, 0, 0, 0, 4, 0, 0, 0, 0, 6, 6, 6, 6, 4, 0, 8, 8, 0, 8, 8, 0, 0, 0, 0, 0, 0, 0, 0, 0, 0, 0, 0, 0, 0, 0, 0, 0, 0, 0, 0, 0, 0, 0, 0, 0, 0, 0, 0, 0, 0, 0, 0, 0, 0, 0, 0, 0, 0, 0, 0, 0, 0, 0, 0, 0, 0, 0, 0, 0, 0, 0, 0, 0, 0, 0, 0, 0, 0, 0, 0, 0, 0, 0, 0, 0, 0, 0, 0, 0, 0, 0, 0, 0, 0, 0, 4, 4, 4, 4, 4, 4, 0, 2, 24, 24, 0, 60, 60, 60, 60, 60, 60, 60, 60, 60, 60, 0, 0, 0, 0, 0, 0, 200, 0, 0, 0, 0, 0, 0, 8, 8, 0, 8, 8, 5, 5, 36, 0, 0, 0, 0, 6, 6, 4, 6, 6, 4, 4]
def rsL : List (List Bool) := [[false, false, false, false, false, false], [true, false, false, true], [false, false, false, false, false, false, false, false, false, false], [false, false, false, false, false], [true, true, false, false, false, false, true, true, true, true, true, false, false], [false, false, false, false, false, true, true, false], [true, false], [true, false, true, false, false, true, false, false, false, false, true, true, true, true, true, true, true, true], [false, false, false, true, true, true, true, true, true, false, true, true, true, false, true, true, true, true, true, true, true, true, true, true, false, false, false, false, false, false, true, false, false, false, false, false, false, true, true, false, true, true, true, true, true, false, false, false, false, true, true, true, true, true, true, true]]
def rtL : List (List Nat) := [[99, 99, 99, 99, 99, 99], [6, 99, 99, 11], [99, 99, 99, 99, 99, 99, 99, 99, 99, 99], [99, 99, 99, 99, 99], [2, 12, 99, 99, 99, 99, 10, 10, 10, 10, 10, 99, 99], [99, 99, 99, 99, 99, 10, 10, 99], [9, 99], [12, 99, 13, 99, 99, 13, 99, 99, 99, 99, 10, 11, 6, 1, 3, 4, 5, 5], [99, 99, 99, 10, 10, 10, 10, 10, 11, 99, 10, 10, 11, 99, 10, 10, 10, 10, 10, 10, 10, 10, 10, 11, 99, 99, 99, 99, 99, 99, 9, 99, 99, 99, 99, 99, 99, 10, 10, 99, 10, 10, 10, 10, 9, 99, 99, 99, 99, 10, 10, 10, 10, 10, 10, 10]]
def fxL : List (List (Option Nat)) := [[some 1, none, some 2, none, none, some 3, none, none, none, none, some 4, some 5, some 6, some 8, some 10, some 11], [], [], [], [], [], [some 7], [], [some 6, none, none, some 9], [], [], [some 12, some 13, none, none, none, none, some 18, some 19, some 20, some 21, some 22], [], [some 14, some 15, some 16, some 17], [], [], [], [], [], [], [], [], [], [none, none, none, none, none, some 24, some 25], [], [], [none, none, none, none, none, some 27, some 28], [], [], [], [], [], [], [], [], [], [], [], [], [], [], [], [], [], [], [], [], [], [], [], [], [], [], [], [], [], [], [], [], [], [], [], [], [], [], [], [], [], [], [], [], [], [], [], [], [], [], [], [], [], [], [], [], [], [], [], [], [], [], [], [], [], [], [], [], [], [], [], [], [], [none, none, none, some 104, some 105, some 106, some 107, some 108, some 109, none, some 111, some 112, some 113, none, some 115, some 116, some 117, some 118, some 119, some 120, some 121, some 122, some 123, some 124, none, none, none, none, none, none, some 131, none, none, none, none, none, none, some 138, some 139, none, some 141, some 142, some 143, some 144, some 145, none, none, none, none, some 150, some 151, some 152, some 153, some 154, some 155, some 156], [], [], [], [], [], [], [], [], [], [], [], [], [], [], [], [], [], [], [], [], [], [], [], [], [], [], [], [], [], [], [], [], [], [], [], [], [], [], [], [], [], [], [], [], [], [], [], [], [], [], [], [], [], [], [], []]
def kd (id : Nat) : Nat := kdL.getD id 99
def ln (id : Nat) : Nat := lnL.getD id 0
def rs (k j : Nat) : Bool := (rsL.getD k []).getD j false
/-- the kind of what a slot refers to -/
def rt (k j : Nat) : Nat := if k = 12 then 0 else if k = 13 then 2 else (rtL.getD k []).getD j 99
/-- links that never change once the object is made -/
def fxt (id j : Nat) : Option Nat := (fxL.getD id []).getD j none
/-- what a cell holds -/
def cV (q : Nat → Nat) (I : MI) (R : MR) (id : Nat) : Nat → Value := fun j => if rs (kd id) j = true then va_rf ((R id j).map q) else .int (I id j)
def cAt (E : EV) (q : Nat → Nat) (I : MI) (R : MR) (id : Nat) (H : Heap) : Prop :=
  (kd id < 9 → t_OB (q id) (E.1.1 (kd id)) (nf (kd id)) (E.1.2 (kd id)) H (cV q I R id)) ∧
  (¬ kd id < 9 → kd id < 12 → H[q id]? = some (arrV (E.2.1 (kd id)) (ln id) (fun j => .int (I id j)))) ∧
  (¬ kd id < 9 → ¬ kd id < 12 → H[q id]? = some (arrV (E.2.1 (kd id)) (ln id) (fun j => va_rf ((R id j).map q))))
theorem cAt.kept {E : EV} {q : Nat → Nat} {I : MI} {R : MR} {id : Nat} {H H1 : Heap} (h : cAt E q I R id H) (hq : H1[q id]? = H[q id]?) : cAt E q I R id H1 :=
  ⟨fun a => (h.1 a).kept hq, fun a b => hq.trans (h.2.1 a b), fun a b => hq.trans (h.2.2 a b)⟩
theorem cAt.lt {E : EV} {q : Nat → Nat} {I : MI} {R : MR} {id : Nat} {H : Heap} (h : cAt E q I R id H) : q id < H.size := by
  by_cases h9 : kd id < 9
  · obtain ⟨cell, h2, -⟩ := h.1 h9
    exact (Array.getElem?_eq_some_iff.mp h2).1
  · by_cases h12 : kd id < 12
    · exact (Array.getElem?_eq_some_iff.mp (h.2.1 h9 h12)).1
    · exact (Array.getElem?_eq_some_iff.mp (h.2.2 h9 h12)).1
theorem cAt.cong {E : EV} {q q' : Nat → Nat} {I I' : MI} {R R' : MR} {id : Nat} {H : Heap} (h : cAt E q I R id H) (hq : q' id = q id) (hI : ∀ j, I' id j = I id j) (hR : ∀ j, (R' id j).map q' = (R id j).map q) : cAt E q' I' R' id H := by
  have e1 : cV q' I' R' id = cV q I R id := by
    funext j
    simp only [cV, hI, hR]
  have e2 : (fun j => Value.int (I' id j)) = (fun j => Value.int (I id j)) := by funext j; rw [hI]
  have e3 : (fun j => va_rf ((R' id j).map q')) = (fun j => va_rf ((R id j).map q)) := by funext j; rw [hR]
  refine ⟨fun a => ?_, fun a b => ?_, fun a b => ?_⟩
  · rw [e1, hq]; exact h.1 a
  · rw [e2, hq]; exact h.2.1 a b
  · rw [e3, hq]; exact h.2.2 a b
/-- the cells are apart, new enough, and refer to cells that are there, of the right kind -/
def Oq (E : EV) (q : Nat → Nat) (al : Nat → Bool) (R : MR) : Prop :=
  (∀ i j, al i = true → al j = true → q i = q j → i = j) ∧ (∀ i, al i = true → Bs E (q i)) ∧ (∀ i j t, al i = true → R i j = some t → al t = true ∧ kd t = rt (kd i) j)
def St (E : EV) (q : Nat → Nat) (al : Nat → Bool) (I : MI) (R : MR) (n : Nat) (H : Heap) : Prop :=
  (∀ id, al id = true → cAt E q I R id H) ∧ Oq E q al R ∧ H.size = n
def Wd (E : EV) (q : Nat → Nat) (al : Nat → Bool) (H0 : Heap) (I : MI) (R : MR) (n : Nat) (H : Heap) (locs : List Loc) : Prop :=
  St E q al I R n H ∧ va_S (Bs E) H0 H locs
/-- the links that never change -/
def Fx (al : Nat → Bool) (R : MR) : Prop := ∀ id j t, al id = true → fxt id j = some t → R id j = some t
theorem Fx.pq {al : Nat → Bool} {R : MR} (h : Fx al R) {a j : Nat} {v : Option Nat} (ha : fxt a j = none) : Fx al (pq R a j v) := by
  intro id k t h1 h2
  show (if id = a then (if k = j then v else R id k) else R id k) = some t
  by_cases e1 : id = a
  · by_cases e2 : k = j
    · subst e1; subst e2; rw [ha] at h2; cases h2
    · rw [if_pos e1, if_neg e2]; exact h id k t h1 h2
  · rw [if_neg e1]; exact h id k t h1 h2
theorem Wd.cl {E : EV} {q : Nat → Nat} {al : Nat → Bool} {H0 : Heap} {I : MI} {R : MR} {n : Nat} {H : Heap} {locs : List Loc} (h : Wd E q al H0 I R n H locs) {i j t : Nat} (hi : al i = true) (hr : R i j = some t) : al t = true := (h.1.2.1.2.2 i j t hi hr).1
theorem Wd.kn {E : EV} {q : Nat → Nat} {al : Nat → Bool} {H0 : Heap} {I : MI} {R : MR} {n : Nat} {H : Heap} {locs : List Loc} (h : Wd E q al H0 I R n H locs) {i j t c : Nat} (hi : al i = true) (hr : R i j = some t) (hc : rt (kd i) j = c) : kd t = c := (h.1.2.1.2.2 i j t hi hr).2.trans hc
/-- one cell has changed -/
theorem Wd.step {E : EV} {q : Nat → Nat} {al : Nat → Bool} {H0 : Heap} {I I' : MI} {R R' : MR} {n : Nat} {H H1 : Heap} {locs : List Loc} {id k : Nat} (h : Wd E q al H0 I R n H locs) (hal : al id = true) (hs : H1.size = H.size) (ho : ∀ x, x ≠ q id → H1[x]? = H[x]?) (hc : cAt E q I' R' id H1)
    (hI : ∀ b j, b ≠ id → I' b j = I b j) (hR : ∀ b j, b ≠ id → R' b j = R b j) (hT : ∀ j t, R' id j = some t → al t = true ∧ kd t = rt (kd id) j) : Wd E q al H0 I' R' n H1 (locs ++ [⟨q id, k⟩]) := by
  obtain ⟨⟨h1, ⟨o1, o2, o3⟩, h3⟩, h4⟩ := h
  refine ⟨⟨fun b hb => ?_, ⟨o1, o2, fun i j t hi hr => ?_⟩, hs.trans h3⟩, h4.put hs ho (o2 id hal)⟩
  · by_cases e : b = id
    · subst e; exact hc
    · have e2 : q b ≠ q id := fun z => e (o1 b id hb hal z)
      exact ((h1 b hb).kept (ho _ e2)).cong rfl (fun j => hI b j e) (fun j => by rw [hR b j e])
  · by_cases e : i = id
    · subst e; exact hT j t hr
    · rw [hR i j e] at hr; exact o3 i j t hi hr
theorem p2_ne {I : MI} {a j : Nat} {v : Int32} {b k : Nat} (h : b ≠ a) : p2 I a j v b k = I b k := if_neg h
theorem pq_ne {R : MR} {a j : Nat} {v : Option Nat} {b k : Nat} (h : b ≠ a) : pq R a j v b k = R b k := if_neg h
theorem p2_at {I : MI} {a j : Nat} {v : Int32} {k : Nat} : p2 I a j v a k = if k = j then v else I a k := if_pos rfl
theorem pq_at {R : MR} {a j : Nat} {v : Option Nat} {k : Nat} : pq R a j v a k = if k = j then v else R a k := if_pos rfl
/-! ===== what a state knows besides its heap ===== -/
def tysL (E : EV) : List (ClassId × FieldType) := [(E.2.1 9, .byte), (E.2.1 10, .int), (E.2.1 11, .boolean), (E.2.1 12, .object "GasYard$Bank"), (E.2.1 13, .object "GasYard$Car")]
def nestL : List (String × Nat × MethodName × String) := [(RX7, 56, yX6_init, "GasYard"), (RX7, 72, yX3_init, "GasYard"), (RX7, 86, yX5_init, "GasYard"), (RX7, 98, yX0_init, "GasYard"), (RX7, 145, yX2_init, "GasYard"), (RX1, 119, yX7_within, "GasYard"), (RX4, 11, yX2_init, "GasYard"), (RX4, 59, yX0_init, "GasYard")]
def KK (E : EV) (U : State) : Prop := va_K E.1 classes (tysL E) U ∧ (∀ w ∈ nestL, va_Nw (.methodLinkNest w.1 w.2.1 w.2.2.1 w.2.2.2) U) ∧ va_AO "GasYard$Bank" U ∧ va_AO "GasYard$Car" U
theorem KK.warm {E : EV} {s U : State} (hW : s.WarmedH U.vm) (h : KK E s) : KK E U := ⟨va_K.moved hW.alike h.1, fun w hw => va_Nw.warmM hW (h.2.1 w hw), h.2.2.1.moved hW.alike, h.2.2.2.moved hW.alike⟩
theorem KK.same {E : EV} {s U : State} (hv : s.vm = U.vm) (h : KK E s) : KK E U := by
  have ha : s.vm.Alike U.vm := by rw [hv]; exact Vm.Alike.refl _
  exact ⟨va_K.moved ha h.1, fun w hw => va_Nw.same rfl hv (h.2.1 w hw), h.2.2.1.moved ha, h.2.2.2.moved ha⟩
def lenS : List Nat := [4, 4, 4, 5, 5, 6]
def bytS : List (List Int32) := [[102, 108, 111, 119], [119, 97, 114, 109], [99, 111, 111, 108], [108, 105, 109, 105, 116], [112, 114, 101, 115, 115], [115, 119, 105, 116, 99, 104]]
def strL : List (Nat × String) := [(111, "flow"), (113, "warm"), (114, "cool"), (115, "limit"), (116, "press"), (117, "switch")]
def ST (E : EV) (U : State) (H : Heap) : Prop := vk_S 6 lenS bytS E.2.2.1 E.2.2.2.1 (Bs E) U H ∧ (∀ i x, strL[i]? = some x → vk_R "GasYard$BookReader" x.1 x.2 (E.2.2.1 i) U) ∧ va_Z "java/lang/String" "COMPACT_STRINGS" "Z" (.int 1) (Bs E) U H ∧ va_Zq "jdk/internal/util/Preconditions" "SIOOBE_FORMATTER" "Ljava/util/function/BiFunction;" (Bs E) U H
theorem ST.warm {E : EV} {s U : State} {H : Heap} (hW : s.WarmedH U.vm) (h : ST E s H) : ST E U H := ⟨h.1.moved hW.alike, fun i x hx => (h.2.1 i x hx).warm hW, h.2.2.1.moved hW.alike, h.2.2.2.moved hW.alike⟩
theorem ST.same {E : EV} {s U : State} {H : Heap} (hv : s.vm = U.vm) (h : ST E s H) : ST E U H := by
  have ha : s.vm.Alike U.vm := by rw [hv]; exact Vm.Alike.refl _
  exact ⟨h.1.moved ha, fun i x hx => (h.2.1 i x hx).same hv.symm, h.2.2.1.moved ha, h.2.2.2.moved ha⟩
theorem ST.kept {E : EV} {s : State} {H H1 : Heap} (h : ST E s H) (hq : ∀ a : Nat, a < H.size → ¬ Bs E a → H1[a]? = H[a]?) : ST E s H1 := ⟨h.1.kept hq, h.2.1, h.2.2.1.kept hq, h.2.2.2.kept hq⟩
/-- a method's start -/
def Pre (E : EV) (q : Nat → Nat) (al : Nat → Bool) (I : MI) (R : MR) (n : Nat) (U : State) : Prop := St E q al I R n U.heap ∧ E.2.2.2.2 ≤ U.heap.size ∧ KK E U ∧ ST E U U.heap
/-- a method's end -/
def Pst (E : EV) (q : Nat → Nat) (v : Option Value) (al : Nat → Bool) (I : MI) (R : MR) (n : Nat) : Array Value → State → Outcome → State → Prop := fun _ st oc t => oc = .returned v ∧ St E q al I R n t.heap ∧ va_F (Bs E) st t
def rmL (L mc ms : Nat) : Room := { frames := L, cells := mc, slots := ms, locals := 60 * L }
/-- a method's contract: y in room level L, from (al, I, R, n) with arguments av to the answer v and (al', I', R', n') -/
def Ct (l : Launch) (y : MethodName) (cc : ByteArray) (mL : Nat) (ret : Option FieldType) (L mc ms : Nat) (E : EV) (q : Nat → Nat) (al : Nat → Bool) (I : MI) (R : MR) (n : Nat) (av : List Value) (v : Option Value) (al' : Nat → Bool) (I' : MI) (R' : MR) (n' : Nat) : Prop :=
  Met l y (Cond.code y cc mL ret :: gG) (rmL L mc ms) (va_Pc av (Pre E q al I R n)) (Pst E q v al' I' R' n') mc ms (Bs E)
/-- what holds all along a method -/
def CX (p : Program) (s : State) (m : MethodId) (args : Array Value) (meth : Method) (c : Code) (E : EV) (cc : ByteArray) (own : String) (nL : Nat) (ret : Option FieldType) : Prop :=
  p.tables.exec = Jvm.exec ∧ c.code = cc ∧ c.maxLocals = nL ∧ s.vm.findClass own = some m.cls ∧ (∀ w ∈ gG, w.before args s = true) ∧ KK E s ∧ ST E s s.heap ∧ E.2.2.2.2 ≤ s.heap.size ∧ meth.sig.returnType = ret ∧ meth.locks = false
/-- from a method's entry -/
theorem Ct.of {l : Launch} {y : MethodName} {cc : ByteArray} {mL : Nat} {ret : Option FieldType} {L mc ms : Nat} {E : EV} {q : Nat → Nat} {al : Nat → Bool} {I : MI} {R : MR} {n : Nat} {av : List Value} {v : Option Value} {al' : Nat → Bool} {I' : MI} {R' : MR} {n' : Nat} {own : String} {mn : String} (hy : plainName y.cls = true) (ho : y.cls = own) (hmn : y.name = mn) (hle : (lg_sl av).length ≤ mL)
    (body : ∀ (p : Program) (e : Env) (s : State) (m : MethodId) (args : Array Value) (below : List Frame) (meth : Method) (c : Code) (ls : Array Slot), CX p s m args meth c E cc own mL ret → meth.name = mn → args = av.toArray → Wd E q al s.heap I R n s.heap [] → lv_has ls mL (lv_args 0 av) → W p l e (rmL L mc ms) s m args below meth c s.heap [] 0 0 (MQ below (Pst E q v al' I' R' n') args s mc ms (Bs E)) (F0 m 0 ls [])) :
    Ct l y cc mL ret L mc ms E q al I R n av v al' I' R' n' := by
  refine Met.ofW (cc := cc) (maxL := mL) (ret := ret) hy rfl ?_
  intro p e s m args below meth c s₁ B hml hv
  obtain ⟨ha, hst, hbs, hkk, hss⟩ := hv
  have hts := atoms_spec (ws := (Cond.code y cc mL ret :: gG)) B.pre
  have hown : s.vm.findClass y.cls = some m.cls := findClass_of_methodNamed B.named
  rw [ho] at hown
  have hl := lv_entry av (n := mL) hle
  have hnm : meth.name = mn := (name_of_methodNamed B.named B.method).1.trans hmn
  have key := body p e s m args below meth c _ ⟨B.exec, B.bytes, hml, hown, fun w hw => hts w (List.mem_cons_of_mem _ hw), hkk, hss, hbs, B.returns, B.notSynchronized⟩ hnm ha ⟨hst, va_S.rf⟩ hl
  subst ha
  rw [lg_entry_eq]
  exact key
end
section
/-! ===== rows over the memory ===== -/
/-- a field's link: in class own, entry idx, is slot k of class ci -/
def FR (own : String) (idx ci k : Nat) (fin : Bool) (ty : FieldType) : Prop :=
  ∃ (C : String) (T : u_T) (N : Nat) (ty0 : Nat → FieldType), classes[ci]? = some (C, T, N) ∧ nf ci = N ∧ ci < 9 ∧ k < N ∧ (∀ w ∈ u_ws C T N, w ∈ gG) ∧ (∀ k, k < N → parseFieldDescriptor (T k).2.2.1 = some (ty0 k)) ∧ (∀ a, a < N → ∀ b, b < N → a ≠ b → (T a).2.1 ≠ (T b).2.1) ∧ Cond.fieldLink own idx (T k).1 (T k).2.1 (T k).2.2.1 ∈ gG ∧ (T k).2.2.2 = fin ∧ ty0 k = ty ∧ (T k).1 = C
section ROWS
variable {p : Program} {l : Launch} {e : Env} {Ro : Room} {s : State} {m : MethodId} {args : Array Value} {below : List Frame} {meth : Method} {c : Code} {H : Heap} {locs : List Loc} {cells slots : Nat} {Q : State → Prop}
variable {E : EV} {cc : ByteArray} {own : String} {nL : Nat} {ret : Option FieldType} {q : Nat → Nat} {al : Nat → Bool} {I : MI} {R : MR} {n : Nat} {pc : Nat} {ls : Array Slot} {rest : List Value} {id : Nat}
theorem r_cell (hW : Wd E q al s.heap I R n H locs) (hal : al id = true) : cAt E q I R id H := hW.1.1 id hal
theorem r_getV (C : CX p s m args meth c E cc own nL ret) {idx ci k : Nat} {fin : Bool} {ty : FieldType} (F : FR own idx ci k fin ty) (hW : Wd E q al s.heap I R n H locs) (hal : al id = true) (hk : kd id = ci) {v : Value} (hv : cV q I R id k = v) (hdg : decode cc pc = .ok (.getfield idx, 3))
    (kk : W p l e Ro s m args below meth c H locs cells slots Q (F0 m (pc + 3) ls (v :: rest))) : W p l e Ro s m args below meth c H locs cells slots Q (F0 m pc ls (.ref (q id) :: rest)) := by
  obtain ⟨hx, hb, hml, hown, hts, hK, hss, hbs, hr, hlk⟩ := C
  obtain ⟨C, T, N, ty0, hc, hN, h9, hkN, hin, hty, hnm, hl, -⟩ := F
  subst hk
  obtain ⟨cell, q1, q2, q3, q4⟩ := (r_cell hW hal).1 h9
  obtain ⟨hS, hfc, kC, hkC, hkind⟩ := hK.1.1 (kd id) _ hc
  obtain ⟨cf, kf, fi, f, hi, hsl⟩ := hS k hkN
  refine W.getf hx hb hown (hts _ hl) hi (u_facts hfc hkC (u_lays hts hin hkN) hi).1 q1 (by rw [q3]; exact fun h => by cases h) (v := v) ?_ rfl rfl hdg kk
  rw [hsl, q4 k (by rw [hN]; exact hkN), hv]
theorem r_get (C : CX p s m args meth c E cc own nL ret) {idx ci k : Nat} {fin : Bool} {ty : FieldType} (F : FR own idx ci k fin ty) (hW : Wd E q al s.heap I R n H locs) (hal : al id = true) (hk : kd id = ci) (hr : rs ci k = false) (hdg : decode cc pc = .ok (.getfield idx, 3))
    (kk : W p l e Ro s m args below meth c H locs cells slots Q (F0 m (pc + 3) ls (.int (I id k) :: rest))) : W p l e Ro s m args below meth c H locs cells slots Q (F0 m pc ls (.ref (q id) :: rest)) := by
  refine r_getV C F hW hal hk (v := .int (I id k)) ?_ hdg kk
  unfold cV
  rw [hk, hr]
  rfl
theorem r_getq (C : CX p s m args meth c E cc own nL ret) {idx ci k : Nat} {fin : Bool} {ty : FieldType} (F : FR own idx ci k fin ty) (hW : Wd E q al s.heap I R n H locs) (hal : al id = true) (hk : kd id = ci) (hr : rs ci k = true) {t : Nat} (hv : R id k = some t) (hdg : decode cc pc = .ok (.getfield idx, 3))
    (kk : W p l e Ro s m args below meth c H locs cells slots Q (F0 m (pc + 3) ls (.ref (q t) :: rest))) : W p l e Ro s m args below meth c H locs cells slots Q (F0 m pc ls (.ref (q id) :: rest)) := by
  refine r_getV C F hW hal hk (v := .ref (q t)) ?_ hdg kk
  unfold cV
  rw [hk, hr, hv]
  rfl
theorem r_putV (C : CX p s m args meth c E cc own nL ret) {idx ci k : Nat} {fin : Bool} {ty : FieldType} (F : FR own idx ci k fin ty) (hfin : fin = false ∨ (fin = true ∧ meth.name = "<init>" ∧ (∃ x, classes[ci]? = some x ∧ x.1 = own))) (hW : Wd E q al s.heap I R n H locs) (hal : al id = true) (hk : kd id = ci) {v : Value} (hn : narrow ty v = v) (hf : fits ty v = true) {I' : MI} {R' : MR} (hV : ∀ j, cV q I' R' id j = updV (cV q I R id) k v j)
    (hI : ∀ b j, b ≠ id → I' b j = I b j) (hR : ∀ b j, b ≠ id → R' b j = R b j) (hT : ∀ j t, R' id j = some t → al t = true ∧ kd t = rt (kd id) j) (hdg : decode cc pc = .ok (.putfield idx, 3))
    (kk : ∀ (H1 : Heap) (locs1 : List Loc), Wd E q al s.heap I' R' n H1 locs1 → W p l e Ro s m args below meth c H1 locs1 cells slots Q (F0 m (pc + 3) ls rest)) : W p l e Ro s m args below meth c H locs cells slots Q (F0 m pc ls (v :: .ref (q id) :: rest)) := by
  obtain ⟨hx, hb, hml, hown, hts, hK, hss, hbs, hr, hlk⟩ := C
  obtain ⟨C, T, N, ty0, hc, hN, h9, hkN, hin, hty, hnm, hl, hfi, hte, hTC⟩ := F
  subst hk
  have hap := va_apart (own := own) (D := E.1) (tys := tysL E) hts hin ty0 hty hnm hK.1 hc
  have hcell := r_cell hW hal
  obtain ⟨cell, q1, q2, q3, q4⟩ := hcell.1 h9
  obtain ⟨hS, hfc, kC, hkC, hkind⟩ := hK.1.1 (kd id) _ hc
  obtain ⟨cf, kf, fi, f, hi, hsl⟩ := hS k hkN
  have hd : parseFieldDescriptor (T k).2.2.1 = some ty := by rw [hty k hkN, hte]
  have hst := (u_facts hfc hkC (u_lays hts hin hkN) hi).1
  have hN' : k < nf (kd id) := by rw [hN]; exact hkN
  have fin1 : ∀ (H' : Heap), H'[q id]? = some (cell.setSlot f.slot v) → H'.size = H.size → (∀ x, x ≠ q id → H'[x]? = H[x]?) → W p l e Ro s m args below meth c H' (locs ++ [⟨q id, f.slot⟩]) cells slots Q (F0 m (pc + 3) ls rest) := by
    intro H' e1 e2 e3
    refine kk H' _ (hW.step hal e2 e3 ⟨fun _ => ?_, fun z => absurd h9 z, fun z => absurd h9 z⟩ hI hR hT)
    rw [hsl] at e1
    have hap' : ∀ x y, x < nf (kd id) → y < nf (kd id) → x ≠ y → (E.1.2 (kd id)) x ≠ (E.1.2 (kd id)) y := by rw [hN]; exact hap
    exact t_OB.to (V := updV (cV q I R id) k v) ⟨_, e1, q2, q3, t_set q4 hap' hN' v⟩ (fun j _ => (hV j).symm)
  have hsz : f.slot < cell.slots.size := by rw [hsl]; exact k2_hasslot (q4 k hN')
  have hlay := hts _ (hin _ (u_in_lay hkN))
  unfold u_lay at hlay
  rcases hfin with hfin | ⟨hfin, hin2, x, hx1, hx2⟩
  · rw [if_neg (by rw [hfi, hfin]; decide)] at hlay
    have h6 := u_store hfc hkC hkind hlay hi hd hn hf
    exact W.putK hx hb (f := f) ⟨hown, hts _ hl, ⟨_, _, _, hi⟩, hst⟩ (by rw [q2]; exact h6) q1 q3 hsz rfl rfl hdg fin1
  · rw [if_pos (by rw [hfi, hfin])] at hlay
    have hCo : C = own := by rw [hc] at hx1; cases hx1; exact hx2
    have hcf : m.cls = cf := by
      obtain ⟨_, _, c', _, _, _, -, -, hf', -, -, -, hown2, -⟩ := Cond.laysFinal_spec hlay
      have e1 : c' = cf := by have := hi.symm.trans hf'; simp at this; exact this.1.symm
      rw [hTC, hCo] at hown2
      rw [← e1]; exact Option.some.inj (hown.symm.trans hown2)
    have h6 := u_fits hfc hkC hkind (Or.inr hlay) hi hd hn hf
    exact W.putFinK hx hb hown (hts _ hl) hi hst hcf hin2 (by rw [q2]; exact h6) q1 q3 hsz rfl rfl hdg fin1
theorem r_put (C : CX p s m args meth c E cc own nL ret) {idx ci k : Nat} {fin : Bool} {ty : FieldType} (F : FR own idx ci k fin ty) (hfin : fin = false ∨ (fin = true ∧ meth.name = "<init>" ∧ (∃ x, classes[ci]? = some x ∧ x.1 = own))) (hW : Wd E q al s.heap I R n H locs) (hal : al id = true) (hk : kd id = ci) (hr : rs ci k = false) {v : Int32} (hn : narrow ty (.int v) = .int v) (hf : fits ty (.int v) = true) (hdg : decode cc pc = .ok (.putfield idx, 3))
    (kk : ∀ (H1 : Heap) (locs1 : List Loc), Wd E q al s.heap (p2 I id k v) R n H1 locs1 → W p l e Ro s m args below meth c H1 locs1 cells slots Q (F0 m (pc + 3) ls rest)) : W p l e Ro s m args below meth c H locs cells slots Q (F0 m pc ls (.int v :: .ref (q id) :: rest)) := by
  refine r_putV C F hfin hW hal hk hn hf (I' := p2 I id k v) (R' := R) (fun j => ?_) (fun b j h => p2_ne h) (fun _ _ _ => rfl) (fun j t h => hW.1.2.1.2.2 id j t hal h) hdg kk
  unfold cV updV
  by_cases e : j = k
  · subst e
    rw [hk, hr, if_pos rfl, p2_at, if_pos rfl]
    rfl
  · rw [if_neg e, p2_at, if_neg e]
theorem r_putq (C : CX p s m args meth c E cc own nL ret) {idx ci k : Nat} {fin : Bool} {ty : FieldType} (F : FR own idx ci k fin ty) (hfin : fin = false ∨ (fin = true ∧ meth.name = "<init>" ∧ (∃ x, classes[ci]? = some x ∧ x.1 = own))) (hW : Wd E q al s.heap I R n H locs) (hal : al id = true) (hk : kd id = ci) (hr : rs ci k = true) {t : Nat} (hat : al t = true) (hkt : kd t = rt ci k) (hn : narrow ty (.ref (q t)) = .ref (q t)) (hf : fits ty (.ref (q t)) = true) (hdg : decode cc pc = .ok (.putfield idx, 3))
    (kk : ∀ (H1 : Heap) (locs1 : List Loc), Wd E q al s.heap I (pq R id k (some t)) n H1 locs1 → W p l e Ro s m args below meth c H1 locs1 cells slots Q (F0 m (pc + 3) ls rest)) : W p l e Ro s m args below meth c H locs cells slots Q (F0 m pc ls (.ref (q t) :: .ref (q id) :: rest)) := by
  refine r_putV C F hfin hW hal hk hn hf (I' := I) (R' := pq R id k (some t)) (fun j => ?_) (fun _ _ _ => rfl) (fun b j h => pq_ne h) (fun j u h => ?_) hdg kk
  · unfold cV updV
    by_cases e : j = k
    · subst e
      rw [hk, hr, if_pos rfl, pq_at, if_pos rfl, if_pos rfl]
      rfl
    · rw [if_neg e, pq_at, if_neg e]
  · rw [pq_at] at h
    by_cases e : j = k
    · subst e
      rw [if_pos rfl] at h
      cases h
      rw [hk]
      exact ⟨hat, hkt⟩
    · rw [if_neg e] at h
      exact hW.1.2.1.2.2 id j u hal h
/-! arrays -/
theorem r_arrT (hK : KK E s) {k : Nat} (hk : k = 9 ∨ k = 10 ∨ k = 11 ∨ k = 12 ∨ k = 13) : ArrOfT s (E.2.1 k) (if k = 9 then .byte else if k = 10 then .int else if k = 11 then .boolean else if k = 12 then .object "GasYard$Bank" else .object "GasYard$Car") := by
  rcases hk with rfl | rfl | rfl | rfl | rfl
  · exact (hK.1.2 0 _ rfl).1
  · exact (hK.1.2 1 _ rfl).1
  · exact (hK.1.2 2 _ rfl).1
  · exact (hK.1.2 3 _ rfl).1
  · exact (hK.1.2 4 _ rfl).1
theorem r_iald (C : CX p s m args meth c E cc own nL ret) (hW : Wd E q al s.heap I R n H locs) (hal : al id = true) (hk : kd id = 10) {i : Int32} (hin : vp_in i (ln id)) (hdg : decode cc pc = .ok (.iaload, 1))
    (kk : W p l e Ro s m args below meth c H locs cells slots Q (F0 m (pc + 1) ls (.int (I id i.toNatClampNeg) :: rest))) : W p l e Ro s m args below meth c H locs cells slots Q (F0 m pc ls (.int i :: .ref (q id) :: rest)) := by
  have hc := (r_cell hW hal).2.1 (by rw [hk]; decide) (by rw [hk]; decide)
  have hlt : i.toNatClampNeg < ln id := Nat.not_le.mp fun q => hin (Or.inr q)
  rw [hk] at hc
  exact W.iald (v := .int (I id i.toNatClampNeg)) C.1 C.2.1 hc (r_arrT C.2.2.2.2.2.1 (k := 10) (by decide) _ _) (fun q => by cases q) (by show ¬ (i < 0 ∨ (arrV _ _ _).slots.size ≤ _); rw [arrV_size]; exact hin) (by show (arrV _ _ _).slots[_]? = _; rw [arrV_read _ _ hlt]) rfl rfl hdg kk
theorem r_bald (C : CX p s m args meth c E cc own nL ret) (hW : Wd E q al s.heap I R n H locs) (hal : al id = true) (hk : kd id = 9) {i : Int32} (hin : vp_in i (ln id)) (hdg : decode cc pc = .ok (.baload, 1))
    (kk : W p l e Ro s m args below meth c H locs cells slots Q (F0 m (pc + 1) ls (.int (I id i.toNatClampNeg) :: rest))) : W p l e Ro s m args below meth c H locs cells slots Q (F0 m pc ls (.int i :: .ref (q id) :: rest)) := by
  have hc := (r_cell hW hal).2.1 (by rw [hk]; decide) (by rw [hk]; decide)
  have hlt : i.toNatClampNeg < ln id := Nat.not_le.mp fun q => hin (Or.inr q)
  rw [hk] at hc
  exact W.bald (v := .int (I id i.toNatClampNeg)) C.1 C.2.1 hc (r_arrT C.2.2.2.2.2.1 (k := 9) (by decide) _ _) (fun q => by cases q) (by show ¬ (i < 0 ∨ (arrV _ _ _).slots.size ≤ _); rw [arrV_size]; exact hin) (by show (arrV _ _ _).slots[_]? = _; rw [arrV_read _ _ hlt]) rfl rfl hdg kk
theorem r_zald (C : CX p s m args meth c E cc own nL ret) (hW : Wd E q al s.heap I R n H locs) (hal : al id = true) (hk : kd id = 11) {i : Int32} (hin : vp_in i (ln id)) (hdg : decode cc pc = .ok (.baload, 1))
    (kk : W p l e Ro s m args below meth c H locs cells slots Q (F0 m (pc + 1) ls (.int (I id i.toNatClampNeg) :: rest))) : W p l e Ro s m args below meth c H locs cells slots Q (F0 m pc ls (.int i :: .ref (q id) :: rest)) := by
  have hc := (r_cell hW hal).2.1 (by rw [hk]; decide) (by rw [hk]; decide)
  have hlt : i.toNatClampNeg < ln id := Nat.not_le.mp fun q => hin (Or.inr q)
  rw [hk] at hc
  exact W.zald (v := .int (I id i.toNatClampNeg)) C.1 C.2.1 hc (r_arrT C.2.2.2.2.2.1 (k := 11) (by decide) _ _) (fun q => by cases q) (by show ¬ (i < 0 ∨ (arrV _ _ _).slots.size ≤ _); rw [arrV_size]; exact hin) (by show (arrV _ _ _).slots[_]? = _; rw [arrV_read _ _ hlt]) rfl rfl hdg kk
theorem r_aald (C : CX p s m args meth c E cc own nL ret) (hW : Wd E q al s.heap I R n H locs) (hal : al id = true) {k : Nat} (hk : kd id = k) (hk2 : k = 12 ∨ k = 13) {i : Int32} (hin : vp_in i (ln id)) (hdg : decode cc pc = .ok (.aaload, 1))
    (kk : W p l e Ro s m args below meth c H locs cells slots Q (F0 m (pc + 1) ls (va_rf ((R id i.toNatClampNeg).map q) :: rest))) : W p l e Ro s m args below meth c H locs cells slots Q (F0 m pc ls (.int i :: .ref (q id) :: rest)) := by
  subst hk
  have hc := (r_cell hW hal).2.2 (by omega) (by omega)
  have hlt : i.toNatClampNeg < ln id := Nat.not_le.mp fun q => hin (Or.inr q)
  exact W.aald (v := va_rf ((R id i.toNatClampNeg).map q)) C.1 C.2.1 hc (r_arrT C.2.2.2.2.2.1 (k := kd id) (by omega) _ _) (by rcases hk2 with e | e <;> rw [e] <;> rfl) (fun q => by cases q) (by show ¬ (i < 0 ∨ (arrV _ _ _).slots.size ≤ _); rw [arrV_size]; exact hin) (by show (arrV _ _ _).slots[_]? = _; rw [arrV_read _ _ hlt]) rfl rfl hdg kk
theorem r_ast0 (hW : Wd E q al s.heap I R n H locs) (hal : al id = true) (h9 : ¬ kd id < 9) (h12 : kd id < 12) {H1 : Heap} {j : Nat} {v : Int32} (e1 : H1[q id]? = some ((arrV (E.2.1 (kd id)) (ln id) (fun j => .int (I id j))).setSlot j (.int v))) (e2 : H1.size = H.size) (e3 : ∀ x, x ≠ q id → H1[x]? = H[x]?) : Wd E q al s.heap (p2 I id j v) R n H1 (locs ++ [⟨q id, j⟩]) := by
  refine hW.step hal e2 e3 ⟨fun z => absurd z h9, fun _ _ => ?_, fun _ z => absurd h12 z⟩ (fun b j h => p2_ne h) (fun _ _ _ => rfl) (fun j t h => hW.1.2.1.2.2 id j t hal h)
  rw [e1, arrV_store]
  congr 2
  funext x
  unfold updV
  rw [p2_at]
  by_cases hq : x = j
  · rw [if_pos hq, if_pos hq]
  · rw [if_neg hq, if_neg hq]
theorem r_iast (C : CX p s m args meth c E cc own nL ret) (hW : Wd E q al s.heap I R n H locs) (hal : al id = true) (hk : kd id = 10) {i v : Int32} (hin : vp_in i (ln id)) (hdg : decode cc pc = .ok (.iastore, 1))
    (kk : ∀ (H1 : Heap) (locs1 : List Loc), Wd E q al s.heap (p2 I id i.toNatClampNeg v) R n H1 locs1 → W p l e Ro s m args below meth c H1 locs1 cells slots Q (F0 m (pc + 1) ls rest)) : W p l e Ro s m args below meth c H locs cells slots Q (F0 m pc ls (.int v :: .int i :: .ref (q id) :: rest)) := by
  have h9 : ¬ kd id < 9 := by omega
  have h12 : kd id < 12 := by omega
  have hc := (r_cell hW hal).2.1 h9 h12
  refine W.iast C.1 C.2.1 hc (by rw [hk]; exact r_arrT C.2.2.2.2.2.1 (k := 10) (by decide) _ _) (fun q => by cases q) (by show ¬ (i < 0 ∨ (arrV _ _ _).slots.size ≤ _); rw [arrV_size]; exact hin) rfl rfl hdg fun H1 e1 e2 e3 => ?_
  exact kk H1 _ (r_ast0 hW hal h9 h12 e1 e2 e3)
theorem r_bast (C : CX p s m args meth c E cc own nL ret) (hW : Wd E q al s.heap I R n H locs) (hal : al id = true) (hk : kd id = 9) {i v : Int32} (hin : vp_in i (ln id)) (hdg : decode cc pc = .ok (.bastore, 1))
    (kk : ∀ (H1 : Heap) (locs1 : List Loc), Wd E q al s.heap (p2 I id i.toNatClampNeg (vp_nar .byte v)) R n H1 locs1 → W p l e Ro s m args below meth c H1 locs1 cells slots Q (F0 m (pc + 1) ls rest)) : W p l e Ro s m args below meth c H locs cells slots Q (F0 m pc ls (.int v :: .int i :: .ref (q id) :: rest)) := by
  have h9 : ¬ kd id < 9 := by omega
  have h12 : kd id < 12 := by omega
  have hc := (r_cell hW hal).2.1 h9 h12
  refine W.bast C.1 C.2.1 hc (by rw [hk]; exact r_arrT C.2.2.2.2.2.1 (k := 9) (by decide) _ _) (fun q => by cases q) (by show ¬ (i < 0 ∨ (arrV _ _ _).slots.size ≤ _); rw [arrV_size]; exact hin) rfl rfl hdg fun H1 e1 e2 e3 => ?_
  exact kk H1 _ (r_ast0 hW hal h9 h12 e1 e2 e3)
theorem r_zast (C : CX p s m args meth c E cc own nL ret) (hW : Wd E q al s.heap I R n H locs) (hal : al id = true) (hk : kd id = 11) {i v : Int32} (hin : vp_in i (ln id)) (hdg : decode cc pc = .ok (.bastore, 1))
    (kk : ∀ (H1 : Heap) (locs1 : List Loc), Wd E q al s.heap (p2 I id i.toNatClampNeg (vp_nar .boolean v)) R n H1 locs1 → W p l e Ro s m args below meth c H1 locs1 cells slots Q (F0 m (pc + 1) ls rest)) : W p l e Ro s m args below meth c H locs cells slots Q (F0 m pc ls (.int v :: .int i :: .ref (q id) :: rest)) := by
  have h9 : ¬ kd id < 9 := by omega
  have h12 : kd id < 12 := by omega
  have hc := (r_cell hW hal).2.1 h9 h12
  refine W.zast C.1 C.2.1 hc (by rw [hk]; exact r_arrT C.2.2.2.2.2.1 (k := 11) (by decide) _ _) (fun q => by cases q) (by show ¬ (i < 0 ∨ (arrV _ _ _).slots.size ≤ _); rw [arrV_size]; exact hin) rfl rfl hdg fun H1 e1 e2 e3 => ?_
  exact kk H1 _ (r_ast0 hW hal h9 h12 e1 e2 e3)
theorem r_aast0 (hW : Wd E q al s.heap I R n H locs) (hal : al id = true) (h9 : ¬ kd id < 9) (h12 : ¬ kd id < 12) {H1 : Heap} {j : Nat} {v : Option Nat} (hT : ∀ t, v = some t → al t = true ∧ kd t = rt (kd id) j) (e1 : H1[q id]? = some ((arrV (E.2.1 (kd id)) (ln id) (fun j => va_rf ((R id j).map q))).setSlot j (va_rf (v.map q)))) (e2 : H1.size = H.size) (e3 : ∀ x, x ≠ q id → H1[x]? = H[x]?) : Wd E q al s.heap I (pq R id j v) n H1 (locs ++ [⟨q id, j⟩]) := by
  refine hW.step hal e2 e3 ⟨fun z => absurd z h9, fun _ z => absurd z h12, fun _ _ => ?_⟩ (fun _ _ _ => rfl) (fun b j h => pq_ne h) (fun k t h => ?_)
  · rw [e1, arrV_store]
    congr 2
    funext x
    unfold updV
    rw [pq_at]
    by_cases hq : x = j
    · rw [if_pos hq, if_pos hq]
    · rw [if_neg hq, if_neg hq]
  · rw [pq_at] at h
    by_cases e : k = j
    · subst e
      rw [if_pos rfl] at h
      exact hT t h
    · rw [if_neg e] at h
      exact hW.1.2.1.2.2 id k t hal h
theorem r_aast (C : CX p s m args meth c E cc own nL ret) (hW : Wd E q al s.heap I R n H locs) (hal : al id = true) {k : Nat} (hk : kd id = k) (hk2 : k = 12 ∨ k = 13) {t : Nat} (hat : al t = true) (hkt : kd t = if k = 12 then 0 else 2) {i : Int32} (hin : vp_in i (ln id)) (hdg : decode cc pc = .ok (.aastore, 1))
    (kk : ∀ (H1 : Heap) (locs1 : List Loc), Wd E q al s.heap I (pq R id i.toNatClampNeg (some t)) n H1 locs1 → W p l e Ro s m args below meth c H1 locs1 cells slots Q (F0 m (pc + 1) ls rest)) : W p l e Ro s m args below meth c H locs cells slots Q (F0 m pc ls (.ref (q t) :: .int i :: .ref (q id) :: rest)) := by
  subst hk
  have h9 : ¬ kd id < 9 := by omega
  have h12 : ¬ kd id < 12 := by omega
  have hc := (r_cell hW hal).2.2 h9 h12
  have hlt : i.toNatClampNeg < ln id := Nat.not_le.mp fun q => hin (Or.inr q)
  have h0 : ¬ i < 0 := fun q => hin (Or.inl q)
  have key : ∀ (ci : Nat) (r : vw_C) (hc1 : classes[ci]? = some r) (hci : ci < 9) (h2 : ∃ (kA : Class) (comp : ClassId), s.vm.classes[E.2.1 (kd id)]? = some kA ∧ kA.kind = .array comp (.object r.1) ∧ s.vm.findClass r.1 = some comp) (h3 : kd t = ci), W p l e Ro s m args below meth c H locs cells slots Q (F0 m pc ls (.ref (q t) :: .int i :: .ref (q id) :: rest)) := by
    intro ci r hc1 hci h2 h3
    obtain ⟨kA, comp, k1, k2, k3⟩ := h2
    obtain ⟨cellV, g1, g2, g3, -⟩ := (r_cell hW hat).1 (by omega)
    have hcls := (C.2.2.2.2.2.1.1.1 ci r hc1).2
    have hcomp : comp = E.1.1 ci := Option.some.inj (k3.symm.trans hcls.1)
    subst hcomp
    obtain ⟨kC, hkC, -⟩ := hcls.2
    rw [h3] at g2
    refine W.aast C.1 C.2.1 hc (fun q h => by cases h) (fun h => by cases h) k1 k2 rfl hkC ⟨h0, by show _ < (arrV _ _ _).slots.size; rw [arrV_size]; exact hlt⟩ g1 (fun q h => by rw [g3] at h; cases h) (by rw [g2]; exact hkC) (by rw [g2]; exact va_assign hcls) rfl rfl hdg fun H1 e1 e2 e3 => ?_
    exact kk H1 _ (r_aast0 hW hal h9 h12 (v := some t) (fun t' ht' => by cases ht'; refine ⟨hat, ?_⟩; rcases hk2 with e | e <;> rw [hkt, e] <;> rfl) e1 e2 e3)
  rcases hk2 with e | e
  · obtain ⟨kA, comp, a1, a2, a3, -⟩ := (C.2.2.2.2.2.1.1.2 3 _ rfl).2
    exact key 0 _ rfl (by decide) ⟨kA, comp, by rw [e]; exact a1, a2, a3⟩ (by rw [hkt, e]; rfl)
  · obtain ⟨kA, comp, a1, a2, a3, -⟩ := (C.2.2.2.2.2.1.1.2 4 _ rfl).2
    exact key 2 _ rfl (by decide) ⟨kA, comp, by rw [e]; exact a1, a2, a3⟩ (by rw [hkt, e]; rfl)
theorem r_aastN (C : CX p s m args meth c E cc own nL ret) (hW : Wd E q al s.heap I R n H locs) (hal : al id = true) {k : Nat} (hk : kd id = k) (hk2 : k = 12 ∨ k = 13) {i : Int32} (hin : vp_in i (ln id)) (hdg : decode cc pc = .ok (.aastore, 1))
    (kk : ∀ (H1 : Heap) (locs1 : List Loc), Wd E q al s.heap I (pq R id i.toNatClampNeg none) n H1 locs1 → W p l e Ro s m args below meth c H1 locs1 cells slots Q (F0 m (pc + 1) ls rest)) : W p l e Ro s m args below meth c H locs cells slots Q (F0 m pc ls (.null :: .int i :: .ref (q id) :: rest)) := by
  subst hk
  have h9 : ¬ kd id < 9 := by omega
  have h12 : ¬ kd id < 12 := by omega
  have hc := (r_cell hW hal).2.2 h9 h12
  have key : ∀ (N : String), s.isArrayOf (arrV (E.2.1 (kd id)) (ln id) (fun j => va_rf ((R id j).map q))) (.object N) → W p l e Ro s m args below meth c H locs cells slots Q (F0 m pc ls (.null :: .int i :: .ref (q id) :: rest)) := by
    intro N hN
    refine va_WaastN (C := N) C.1 C.2.1 hc hN (fun h => by cases h) (by show ¬ (i < 0 ∨ (arrV _ _ _).slots.size ≤ _); rw [arrV_size]; exact hin) rfl rfl hdg fun H1 e1 e2 e3 => ?_
    exact kk H1 _ (r_aast0 hW hal h9 h12 (v := none) (fun _ h => by cases h) e1 e2 e3)
  rcases hk2 with e | e
  · exact key "GasYard$Bank" (by rw [e]; exact (C.2.2.2.2.2.1.1.2 3 _ rfl).1 _ _)
  · exact key "GasYard$Car" (by rw [e]; exact (C.2.2.2.2.2.1.1.2 4 _ rfl).1 _ _)
theorem r_alen (C : CX p s m args meth c E cc own nL ret) (hW : Wd E q al s.heap I R n H locs) (hal : al id = true) {k : Nat} (hk : kd id = k) (hk2 : k = 12 ∨ k = 13) (hdg : decode cc pc = .ok (.arraylength, 1))
    (kk : W p l e Ro s m args below meth c H locs cells slots Q (F0 m (pc + 1) ls (.int (nI (ln id)) :: rest))) : W p l e Ro s m args below meth c H locs cells slots Q (F0 m pc ls (.ref (q id) :: rest)) := by
  subst hk
  have hc := (r_cell hW hal).2.2 (by omega) (by omega)
  exact W.alen (n := nI (ln id)) C.1 C.2.1 hc (r_arrT C.2.2.2.2.2.1 (k := kd id) (by omega) _ _) (by rw [arrV_size] <;> rfl) rfl rfl hdg kk
end ROWS
end
section
/-! ===== making cells, calls, ends ===== -/
section MAKE
variable {p : Program} {l : Launch} {e : Env} {Ro : Room} {s : State} {m : MethodId} {args : Array Value} {below : List Frame} {meth : Method} {c : Code} {H : Heap} {locs : List Loc} {cells slots : Nat} {Q : State → Prop}
variable {E : EV} {cc : ByteArray} {own : String} {nL : Nat} {ret : Option FieldType} {q : Nat → Nat} {al : Nat → Bool} {I : MI} {R : MR} {n : Nat} {pc : Nat} {ls : Array Slot} {rest : List Value} {id : Nat}
/-- a new cell -/
theorem Wd.push {H0 H1 : Heap} (h : Wd E q al H0 I R n H locs) (hbs : E.2.2.2.2 ≤ H0.size) (hal : al id = false) (hq : q id = n) (hs : H1.size = H.size + 1) (ho : ∀ x, x < H.size → H1[x]? = H[x]?) {I' : MI} {R' : MR} (hc : cAt E q I' R' id H1)
    (hI : ∀ b j, b ≠ id → I' b j = I b j) (hR : ∀ b j, b ≠ id → R' b j = R b j) (hT : ∀ j t, R' id j = some t → False) : Wd E q (alu al id) H0 I' R' (n + 1) H1 locs := by
  obtain ⟨⟨h1, ⟨o1, o2, o3⟩, h3⟩, h4⟩ := h
  have old : ∀ b, alu al id b = true → b ≠ id → al b = true := by
    intro b hb hne
    unfold alu at hb
    rw [if_neg hne] at hb
    exact hb
  refine ⟨⟨fun b hb => ?_, ⟨fun i j hi hj hij => ?_, fun i hi => ?_, fun i j t hi hr => ?_⟩, by omega⟩, ⟨by have := h4.1; omega, fun x hx1 hx2 => (ho x (Nat.lt_of_lt_of_le hx1 h4.1)).trans (h4.2.1 x hx1 hx2), h4.2.2⟩⟩
  · by_cases e : b = id
    · subst e; exact hc
    · have hb' := old b hb e
      exact ((h1 b hb').kept (ho _ (h1 b hb').lt)).cong rfl (fun j => hI b j e) (fun j => by rw [hR b j e])
  · by_cases e1 : i = id <;> by_cases e2 : j = id
    · rw [e1, e2]
    · subst e1
      have := (h1 j (old j hj e2)).lt
      omega
    · subst e2
      have := (h1 i (old i hi e1)).lt
      omega
    · exact o1 i j (old i hi e1) (old j hj e2) hij
  · by_cases e : i = id
    · subst e
      show E.2.2.2.2 ≤ q i
      have := h4.1
      omega
    · exact o2 i (old i hi e)
  · by_cases e : i = id
    · subst e; exact (hT j t hr).elim
    · rw [hR i j e] at hr
      have h6 := o3 i j t (old i hi e) hr
      refine ⟨?_, h6.2⟩
      unfold alu
      by_cases e3 : t = id
      · rw [if_pos e3]
      · rw [if_neg e3]; exact h6.1
theorem r_newa (C : CX p s m args meth c E cc own nL ret) {at_ : ArrayType} {k : Nat} (harr : Cond.arrayClass (newarray.typeOf at_) ∈ gG) (hat : (k = 9 ∧ newarray.typeOf at_ = .byte) ∨ (k = 10 ∧ newarray.typeOf at_ = .int) ∨ (k = 11 ∧ newarray.typeOf at_ = .boolean)) (hW : Wd E q al s.heap I R n H locs) (hal : al id = false) (hq : q id = n) (hk : kd id = k) {x : Int32} (hx0 : ¬ x < 0) (hxn : x.toNatClampNeg = ln id) (hln : ln id ≤ 1000) (hcells : cells + 1 ≤ Ro.cells) (hslots : slots + ln id ≤ Ro.slots) (hdg : decode cc pc = .ok (.newarray at_, 2))
    (kk : ∀ H1 : Heap, Wd E q (alu al id) s.heap (zI I id) (zR R id) (n + 1) H1 locs → W p l e Ro s m args below meth c H1 locs (cells + 1) (slots + ln id) Q (F0 m (pc + 2) ls (.ref (q id) :: rest))) : W p l e Ro s m args below meth c H locs cells slots Q (F0 m pc ls (.int x :: rest)) := by
  obtain ⟨hx, hb, hml, hown, hts, hK, hss, hbs, hr, hlk⟩ := C
  refine va_newaK (h := H.size) hx hb (hts _ harr) rfl hdg rfl hx0 hxn (by rcases hat with ⟨-, e⟩ | ⟨-, e⟩ | ⟨-, e⟩ <;> rw [e] <;> simp only [componentBytes] <;> omega) hcells hslots rfl fun H1 cA e1 e2 e3 hA hN => ?_
  have hcA : cA = E.2.1 k := by
    rcases hat with ⟨e, e'⟩ | ⟨e, e'⟩ | ⟨e, e'⟩
    · subst e; rw [e'] at hN; exact Option.some.inj (hN.symm.trans (hK.1.2 0 _ rfl).2)
    · subst e; rw [e'] at hN; exact Option.some.inj (hN.symm.trans (hK.1.2 1 _ rfl).2)
    · subst e; rw [e'] at hN; exact Option.some.inj (hN.symm.trans (hK.1.2 2 _ rfl).2)
  have hn : H.size = n := hW.1.2.2
  have hqs : q id = H.size := by rw [hn]; exact hq
  have key : Wd E q (alu al id) s.heap (zI I id) (zR R id) (n + 1) H1 locs := by
    refine hW.push hbs hal hq e2 e3 ⟨fun z => absurd z (by omega), fun _ _ => ?_, fun _ z => absurd z (by omega)⟩ (fun b j h => if_neg h) (fun b j h => if_neg h) (fun j t h => by unfold zR at h; rw [if_pos rfl] at h; cases h)
    rw [hqs, e1, hcA, hk]
    congr 2
    funext j
    unfold zI
    rw [if_pos rfl]
    rcases hat with ⟨-, e⟩ | ⟨-, e⟩ | ⟨-, e⟩ <;> rw [e] <;> rfl
  have := kk H1 key
  rw [hqs] at this
  exact this
theorem r_anew (C : CX p s m args meth c E cc own nL ret) {idx k : Nat} {N : String} (hcl : Cond.classLink own idx N ∈ gG) (hat : (k = 12 ∧ N = "GasYard$Bank") ∨ (k = 13 ∧ N = "GasYard$Car")) (hW : Wd E q al s.heap I R n H locs) (hal : al id = false) (hq : q id = n) (hk : kd id = k) {x : Int32} (hx0 : ¬ x < 0) (hxn : x.toNatClampNeg = ln id) (hln : ln id ≤ 1000) (hcells : cells + 1 ≤ Ro.cells) (hslots : slots + ln id ≤ Ro.slots) (hdg : decode cc pc = .ok (.anewarray idx, 3))
    (kk : ∀ H1 : Heap, Wd E q (alu al id) s.heap (zI I id) (zR R id) (n + 1) H1 locs → W p l e Ro s m args below meth c H1 locs (cells + 1) (slots + ln id) Q (F0 m (pc + 3) ls (.ref (q id) :: rest))) : W p l e Ro s m args below meth c H locs cells slots Q (F0 m pc ls (.int x :: rest)) := by
  obtain ⟨hx, hb, hml, hown, hts, hK, hss, hbs, hr, hlk⟩ := C
  have hov : va_AO N s := by
    rcases hat with ⟨-, e⟩ | ⟨-, e⟩ <;> subst e
    · exact hK.2.2.1
    · exact hK.2.2.2
  refine W.anew hx hb hown (hts _ hcl) (va_AO.use hov) rfl hdg rfl hx0 (by omega) hcells (by rw [hxn]; exact hslots) fun cA kA comp f1 f2 f3 f4 => ?_
  have hcA : cA = E.2.1 k := by
    rcases hat with ⟨e, e'⟩ | ⟨e, e'⟩
    · subst e; subst e'
      obtain ⟨_, _, -, -, -, a4⟩ := (hK.1.2 3 _ rfl).2
      exact Option.some.inj (f1.symm.trans a4)
    · subst e; subst e'
      obtain ⟨_, _, -, -, -, a4⟩ := (hK.1.2 4 _ rfl).2
      exact Option.some.inj (f1.symm.trans a4)
  have hn : H.size = n := hW.1.2.2
  have hqs : q id = H.size := by rw [hn]; exact hq
  generalize hH1 : H.push ({ cls := cA, slots := Array.replicate x.toNatClampNeg .null, vm := .none } : Cell) = H1
  have e2 : H1.size = H.size + 1 := by rw [← hH1, Array.size_push]
  have e1 : H1[H.size]? = some (arrV cA x.toNatClampNeg (fun _ => .null)) := by rw [← hH1, Array.getElem?_push_size, ← arrV_new]
  have e3 : ∀ z : Nat, z < H.size → H1[z]? = H[z]? := fun z hz => by rw [← hH1, Array.getElem?_push, if_neg (Nat.ne_of_lt hz)]
  have key : Wd E q (alu al id) s.heap (zI I id) (zR R id) (n + 1) H1 locs := by
    refine hW.push hbs hal hq e2 e3 ⟨fun z => absurd z (by omega), fun _ z => absurd z (by omega), fun _ _ => ?_⟩ (fun b j h => if_neg h) (fun b j h => if_neg h) (fun j t h => by unfold zR at h; rw [if_pos rfl] at h; cases h)
    rw [hqs, e1, hcA, hk, hxn]
    congr 2
    funext j
    unfold zR
    rw [if_pos rfl]
    rfl
  have := kk H1 key
  rw [hqs] at this
  rw [hxn]
  exact this
/-- a class as it can be made -/
def NC (own : String) (idx ci : Nat) : Prop := ∃ (C : String) (T : u_T) (N : Nat) (ty0 : Nat → FieldType), classes[ci]? = some (C, T, N) ∧ nf ci = N ∧ ci < 9 ∧ (∀ w ∈ u_ws C T N, w ∈ gG) ∧ (∀ k, k < N → parseFieldDescriptor (T k).2.2.1 = some (ty0 k)) ∧ (∀ k, k < N → defaultValue (ty0 k) = if rs ci k = true then .null else .int 0) ∧ Cond.classLink own idx C ∈ gG ∧ Cond.instantiable C N ∈ gG ∧ Cond.initialized C ∈ gG
theorem r_new (C : CX p s m args meth c E cc own nL ret) {idx ci : Nat} (K : NC own idx ci) (hW : Wd E q al s.heap I R n H locs) (hal : al id = false) (hq : q id = n) (hk : kd id = ci) (hcells : cells + 1 ≤ Ro.cells) (hslots : slots + nf ci ≤ Ro.slots) (hdg : decode cc pc = .ok (.new idx, 3))
    (kk : ∀ H1 : Heap, Wd E q (alu al id) s.heap (zI I id) (zR R id) (n + 1) H1 locs → W p l e Ro s m args below meth c H1 locs (cells + 1) (slots + nf ci) Q (F0 m (pc + 3) ls (.ref (q id) :: rest))) : W p l e Ro s m args below meth c H locs cells slots Q (F0 m pc ls rest) := by
  obtain ⟨hx, hb, hml, hown, hts, hK, hss, hbs, hr, hlk⟩ := C
  obtain ⟨C, T, N, ty0, hc, hN, h9, hin, hty, hdf, w1, w2, w3⟩ := K
  have hKn := hK.1.1 ci _ hc
  subst hN
  refine W.newcK (h := H.size) hx hb hown (hts _ w1) (hts _ w2) (hts _ w3) rfl hdg hcells hslots hKn.2.1 rfl fun H1 kC hkC e1 e2 e3 => ?_
  have hn : H.size = n := hW.1.2.2
  have hqs : q id = H.size := by rw [hn]; exact hq
  have key : Wd E q (alu al id) s.heap (zI I id) (zR R id) (n + 1) H1 locs := by
    refine hW.push hbs hal hq e2 e3 ⟨fun _ => ?_, fun z => absurd (by omega) z, fun z => absurd (by omega) z⟩ (fun b j h => if_neg h) (fun b j h => if_neg h) (fun j t h => by unfold zR at h; rw [if_pos rfl] at h; cases h)
    rw [hqs, hk]
    refine (u_born ty0 hts hin hKn hkC e1 hty).to (fun j hj => ?_)
    rw [hdf j hj]
    unfold cV zI zR
    rw [hk, if_pos rfl, if_pos rfl]
    rfl
  have := kk H1 key
  rw [hqs] at this
  exact this
/-! calls -/
def MLx (y : MethodName) (bytes : ByteArray) (mL : Nat) (rt : Option FieldType) (k : Nat) : Prop :=
  Cond.code y bytes mL rt ∈ gG ∧ Cond.initialized y.cls ∈ gG ∧ y.cls ≠ "java/lang/invoke/MethodHandle" ∧ y.cls ≠ "java/lang/invoke/VarHandle" ∧ (parseMethodDescriptor y.desc).map (fun d => d.parameters.length) = some k
theorem gG_callee {y : MethodName} {bytes : ByteArray} {mL : Nat} {rt : Option FieldType} (h : Cond.code y bytes mL rt ∈ gG) : GoodIn gG (Cond.code y bytes mL rt :: gG) := by
  intro w hw
  rcases List.mem_cons.mp hw with e | e
  · subst e; exact ⟨h, gG_good h⟩
  · exact ⟨e, gG_good e⟩
variable {y : MethodName} {bytes : ByteArray} {mL : Nat} {rty : Option FieldType} {L mc ms : Nat} {al' : Nat → Bool} {I' : MI} {R' : MR} {n' : Nat} {As : List Value} {v : Option Value}
theorem Pre.blind {av : List Value} : FrameBlind (va_Pc av (Pre E q al I R n)) := fun a U g mk h => ⟨h.1, h.2.1, h.2.2.1, h.2.2.2.1.same rfl, h.2.2.2.2.same rfl⟩
theorem Pre.at (C : CX p s m args meth c E cc own nL ret) (hW : Wd E q al s.heap I R n H locs) {U : State} (hU : U.heap = H) (hw : s.WarmedH U.vm) : Pre E q al I R n U := by
  obtain ⟨hx, hb, hml, hown, hts, hK, hss, hbs, hr, hlk⟩ := C
  refine ⟨by rw [hU]; exact hW.1, by rw [hU]; exact Nat.le_trans hbs hW.2.1, hK.warm hw, ?_⟩
  rw [hU]
  exact (hss.kept (fun a h1 h2 => hW.2.2.1 a h1 h2)).warm hw
/-- behind a call -/
theorem r_back {st0 : List Value} {a : Array Value} (hr : va_Run p l e Ro s m args below meth c H locs cells slots mc ms (F0 m pc ls st0) rest (Pst E q v al' I' R' n' a) (Bs E)) (hW : Wd E q al s.heap I R n H locs)
    (kk : ∀ (H1 : Heap) (locs1 : List Loc), Wd E q al' s.heap I' R' n' H1 locs1 → W p l e Ro s m args below meth c H1 locs1 (cells + mc) (slots + ms) Q (F0 m (pc + 3) ls (v.toList ++ rest))) : W p l e Ro s m args below meth c H locs cells slots Q (F0 m pc ls st0) := by
  intro T hT X
  obtain ⟨v', st₀, t, T', L', h0, X', hL, e1, e2, ⟨hv, hst, hz, hk⟩, st⟩ := hr T hT X
  cases hv
  rw [h0] at hz hk
  have hS := hW.2
  obtain ⟨t2, a1, b1⟩ := kk T'.heap (locs ++ L') ⟨by rw [e1]; exact hst, Nat.le_trans hS.1 (by rw [e1]; exact hz), fun x h1 h2 => by rw [e1, hk x (Nat.lt_of_lt_of_le h1 hS.1) h2]; exact hS.2.1 x h1 h2, fun x hx => by
      rcases List.mem_append.mp hx with h | h
      · exact hS.2.2 x h
      · exact hL x h⟩ T' rfl X'
  exact ⟨t2, st t2 a1, b1⟩
theorem r_recv (C : CX p s m args meth c E cc own nL ret) (hW : Wd E q al s.heap I R n H locs) (hal : al id = true) {ci : Nat} (hk : kd id = ci) {r : vw_C} (hc : classes[ci]? = some r) : ∃ cellB : Cell, H[q id]? = some cellB ∧ cellB.vm.isStatics = false ∧ s.vm.findClass r.1 = some cellB.cls := by
  have h9 : ci < 9 := by have := (List.getElem?_eq_some_iff.mp hc).1; simpa [classes] using this
  obtain ⟨cell, g1, g2, g3, -⟩ := (r_cell hW hal).1 (by omega)
  exact ⟨cell, g1, by rw [g3]; rfl, by rw [g2, hk]; exact (C.2.2.2.2.2.1.1.1 ci r hc).2.1⟩
theorem r_callV (C : CX p s m args meth c E cc own nL ret) {idx k ci : Nat} {r : vw_C} (M : MLx y bytes mL rty k) (w1 : Cond.methodLink own idx y ∈ gG) (w2 : Cond.instanceMethod y ∈ gG) (w3 : Cond.selects r.1 y y ∈ gG) (hc : classes[ci]? = some r) (hW : Wd E q al s.heap I R n H locs) (hal : al id = true) (hk : kd id = ci) (hl : ls.size = nL) (hM : Ct l y bytes mL rty L mc ms E q al I R n (.ref (q id) :: As) v al' I' R' n') (hn : As.length = k) (hR : L + 1 ≤ Ro.frames ∧ 8 + (mL + 11) + 60 * L ≤ Ro.locals) (hcs : cells + mc ≤ Ro.cells ∧ slots + ms ≤ Ro.slots) {st0 : List Value} (hst : st0 = As.reverse ++ .ref (q id) :: rest) (hrm : (rest.map fun v => v.category).sum ≤ 8) (hdg : decode cc pc = .ok (.invokevirtual idx, 3))
    (kk : ∀ (H1 : Heap) (locs1 : List Loc), Wd E q al' s.heap I' R' n' H1 locs1 → W p l e Ro s m args below meth c H1 locs1 (cells + mc) (slots + ms) Q (F0 m (pc + 3) ls (v.toList ++ rest))) : W p l e Ro s m args below meth c H locs cells slots Q (F0 m pc ls st0) := by
  have hts := C.2.2.2.2.1
  refine r_back (va_runV (C := r.1) (b := q id) (As := As) (bytes := bytes) (maxL := mL) (ret := rty) ⟨C.1, C.2.1, C.2.2.1, C.2.2.2.1, hts⟩ hM ⟨callB_of k hts (gG_callee M.1) rfl rfl rfl (hts _ M.2.1) (hts _ w1) M.2.2 hR, hts _ w2, hts _ w3⟩ ⟨Pre.blind, r_recv C hW hal hk hc, fun U hU hw => ⟨rfl, Pre.at C hW hU hw⟩⟩ rfl hn hl hst (lv_room (rest := st0) (pc := pc) (ls := ls) (m := m) hrm) hdg hcs) hW kk
theorem r_callS (C : CX p s m args meth c E cc own nL ret) {idx k : Nat} (M : MLx y bytes mL rty k) (w1 : Cond.methodLink own idx y ∈ gG) (w2 : Cond.static y ∈ gG) (hW : Wd E q al s.heap I R n H locs) (hl : ls.size = nL) (hM : Ct l y bytes mL rty L mc ms E q al I R n As v al' I' R' n') (hn : As.length = k) (hR : L + 1 ≤ Ro.frames ∧ 8 + (mL + 11) + 60 * L ≤ Ro.locals) (hcs : cells + mc ≤ Ro.cells ∧ slots + ms ≤ Ro.slots) {st0 : List Value} (hst : st0 = As.reverse ++ rest) (hrm : (rest.map fun v => v.category).sum ≤ 8) (hdg : decode cc pc = .ok (.invokestatic idx, 3))
    (kk : ∀ (H1 : Heap) (locs1 : List Loc), Wd E q al' s.heap I' R' n' H1 locs1 → W p l e Ro s m args below meth c H1 locs1 (cells + mc) (slots + ms) Q (F0 m (pc + 3) ls (v.toList ++ rest))) : W p l e Ro s m args below meth c H locs cells slots Q (F0 m pc ls st0) := by
  have hts := C.2.2.2.2.1
  refine r_back (va_runS (As := As) (bytes := bytes) (maxL := mL) (ret := rty) ⟨C.1, C.2.1, C.2.2.1, C.2.2.2.1, hts⟩ hM ⟨callB_of k hts (gG_callee M.1) rfl rfl rfl (hts _ M.2.1) (hts _ w1) M.2.2 hR, hts _ w2⟩ ⟨Pre.blind, fun U hU hw => ⟨rfl, Pre.at C hW hU hw⟩⟩ rfl hn hl hst (lv_room (rest := st0) (pc := pc) (ls := ls) (m := m) hrm) hdg hcs) hW kk
theorem r_callI (C : CX p s m args meth c E cc own nL ret) {idx k : Nat} (M : MLx y bytes mL none k) (w1 : Cond.methodLink own idx y ∈ gG) (w2 : Cond.instanceMethod y ∈ gG) (hy1 : y.name = "<init>") (hW : Wd E q al s.heap I R n H locs) (hl : ls.size = nL) (hM : Ct l y bytes mL none L mc ms E q al I R n (.ref (q id) :: As) v al' I' R' n') (hn : As.length = k) (hR : L + 1 ≤ Ro.frames ∧ 8 + (mL + 11) + 60 * L ≤ Ro.locals) (hcs : cells + mc ≤ Ro.cells ∧ slots + ms ≤ Ro.slots) {st0 : List Value} (hst : st0 = As.reverse ++ .ref (q id) :: rest) (hrm : (rest.map fun v => v.category).sum ≤ 8) (hdg : decode cc pc = .ok (.invokespecial idx, 3))
    (kk : ∀ (H1 : Heap) (locs1 : List Loc), Wd E q al' s.heap I' R' n' H1 locs1 → W p l e Ro s m args below meth c H1 locs1 (cells + mc) (slots + ms) Q (F0 m (pc + 3) ls (v.toList ++ rest))) : W p l e Ro s m args below meth c H locs cells slots Q (F0 m pc ls st0) := by
  have hts := C.2.2.2.2.1
  refine r_back (va_runI (b := q id) (As := As) (bytes := bytes) (maxL := mL) ⟨C.1, C.2.1, C.2.2.1, C.2.2.2.1, hts⟩ hM ⟨callB_of k hts (gG_callee M.1) rfl rfl rfl (hts _ M.2.1) (hts _ w1) M.2.2 hR, hy1, hts _ w2⟩ ⟨Pre.blind, fun U hU hw => ⟨rfl, Pre.at C hW hU hw⟩⟩ rfl hn hl hst (lv_room (rest := st0) (pc := pc) (ls := ls) (m := m) hrm) hdg hcs) hW kk
theorem r_callIN (C : CX p s m args meth c E cc own nL ret) {idx k : Nat} {host : String} (M : MLx y bytes mL none k) (w1 : (own, idx, y, host) ∈ nestL) (w2 : Cond.instanceMethod y ∈ gG) (hy1 : y.name = "<init>") (hW : Wd E q al s.heap I R n H locs) (hl : ls.size = nL) (hM : Ct l y bytes mL none L mc ms E q al I R n (.ref (q id) :: As) v al' I' R' n') (hn : As.length = k) (hR : L + 1 ≤ Ro.frames ∧ 8 + (mL + 11) + 60 * L ≤ Ro.locals) (hcs : cells + mc ≤ Ro.cells ∧ slots + ms ≤ Ro.slots) {st0 : List Value} (hst : st0 = As.reverse ++ .ref (q id) :: rest) (hrm : (rest.map fun v => v.category).sum ≤ 8) (hdg : decode cc pc = .ok (.invokespecial idx, 3))
    (kk : ∀ (H1 : Heap) (locs1 : List Loc), Wd E q al' s.heap I' R' n' H1 locs1 → W p l e Ro s m args below meth c H1 locs1 (cells + mc) (slots + ms) Q (F0 m (pc + 3) ls (v.toList ++ rest))) : W p l e Ro s m args below meth c H locs cells slots Q (F0 m pc ls st0) := by
  have hts := C.2.2.2.2.1
  refine r_back (va_runIN (b := q id) (As := As) (bytes := bytes) (maxL := mL) ⟨C.1, C.2.1, C.2.2.1, C.2.2.2.1, hts⟩ hM ⟨va_cnB k hts (gG_callee M.1) rfl rfl rfl (C.2.2.2.2.2.1.2.1 _ w1) (hts _ M.2.1) M.2.2 hR, hy1, hts _ w2⟩ ⟨Pre.blind, fun U hU hw => ⟨rfl, Pre.at C hW hU hw⟩⟩ rfl hn hl hst (lv_room (rest := st0) (pc := pc) (ls := ls) (m := m) hrm) hdg hcs) hW kk
theorem r_callSN (C : CX p s m args meth c E cc own nL ret) {idx k : Nat} {host : String} (M : MLx y bytes mL rty k) (w1 : (own, idx, y, host) ∈ nestL) (w2 : Cond.static y ∈ gG) (hW : Wd E q al s.heap I R n H locs) (hl : ls.size = nL) (hM : Ct l y bytes mL rty L mc ms E q al I R n As v al' I' R' n') (hn : As.length = k) (hR : L + 1 ≤ Ro.frames ∧ 8 + (mL + 11) + 60 * L ≤ Ro.locals) (hcs : cells + mc ≤ Ro.cells ∧ slots + ms ≤ Ro.slots) {st0 : List Value} (hst : st0 = As.reverse ++ rest) (hrm : (rest.map fun v => v.category).sum ≤ 8) (hdg : decode cc pc = .ok (.invokestatic idx, 3))
    (kk : ∀ (H1 : Heap) (locs1 : List Loc), Wd E q al' s.heap I' R' n' H1 locs1 → W p l e Ro s m args below meth c H1 locs1 (cells + mc) (slots + ms) Q (F0 m (pc + 3) ls (v.toList ++ rest))) : W p l e Ro s m args below meth c H locs cells slots Q (F0 m pc ls st0) := by
  have hts := C.2.2.2.2.1
  refine r_back (va_runSN (As := As) (bytes := bytes) (maxL := mL) (ret := rty) ⟨C.1, C.2.1, C.2.2.1, C.2.2.2.1, hts⟩ hM ⟨va_cnB k hts (gG_callee M.1) rfl rfl rfl (C.2.2.2.2.2.1.2.1 _ w1) (hts _ M.2.1) M.2.2 hR, hts _ w2, trivial⟩ ⟨Pre.blind, fun U hU hw => ⟨rfl, Pre.at C hW hU hw⟩⟩ rfl hn hl hst (lv_room (rest := st0) (pc := pc) (ls := ls) (m := m) hrm) hdg hcs) hW kk
/-! ends -/
theorem r_iret (C : CX p s m args meth c E cc own nL (some .int)) (hW : Wd E q al s.heap I R n H locs) {v : Int32} (hdg : decode cc pc = .ok (.ireturn, 1)) : W p l e Ro s m args below meth c H locs cells slots (MQ below (Pst E q (some (.int v)) al I R n) args s cells slots (Bs E)) (F0 m pc ls [.int v]) := by
  obtain ⟨hx, hb, hml, hown, hts, hK, hss, hbs, hr, hlk⟩ := C
  exact W.iret hx hb hr (fun t ht hw => ⟨rfl, by rw [ht]; exact hW.1, hW.2.F ht⟩) hW.2.2.2 hdg
theorem r_zret (C : CX p s m args meth c E cc own nL (some .boolean)) (hW : Wd E q al s.heap I R n H locs) {v : Int32} (hv : v = 0 ∨ v = 1) (hdg : decode cc pc = .ok (.ireturn, 1)) : W p l e Ro s m args below meth c H locs cells slots (MQ below (Pst E q (some (.int v)) al I R n) args s cells slots (Bs E)) (F0 m pc ls [.int v]) := by
  obtain ⟨hx, hb, hml, hown, hts, hK, hss, hbs, hr, hlk⟩ := C
  exact W.zret hx hb hr (by rcases hv with e | e <;> subst e <;> rfl) (fun t ht hw => ⟨rfl, by rw [ht]; exact hW.1, hW.2.F ht⟩) hW.2.2.2 hdg
theorem r_vret (C : CX p s m args meth c E cc own nL none) (hW : Wd E q al s.heap I R n H locs) (hdg : decode cc pc = .ok (.return_, 1)) : W p l e Ro s m args below meth c H locs cells slots (MQ below (Pst E q none al I R n) args s cells slots (Bs E)) (F0 m pc ls []) := by
  obtain ⟨hx, hb, hml, hown, hts, hK, hss, hbs, hr, hlk⟩ := C
  exact W.vret hx hb hr (fun t ht hw => ⟨rfl, by rw [ht]; exact hW.1, hW.2.F ht⟩) hW.2.2.2 hdg
theorem r_aret (C : CX p s m args meth c E cc own nL ret) {N : String} (hret : ret = some (.object N)) (hW : Wd E q al s.heap I R n H locs) {v : Value} (hv : v = .null ∨ ∃ a, v = .ref a) (hdg : decode cc pc = .ok (.areturn, 1)) : W p l e Ro s m args below meth c H locs cells slots (MQ below (Pst E q (some v) al I R n) args s cells slots (Bs E)) (F0 m pc ls [v]) := by
  subst hret
  obtain ⟨hx, hb, hml, hown, hts, hK, hss, hbs, hr, hlk⟩ := C
  exact W.aret hx hb hr (Or.inl ⟨_, rfl⟩) hv (fun t ht hw => ⟨rfl, by rw [ht]; exact hW.1, hW.2.F ht⟩) hW.2.2.2 hdg
/-! Math -/
theorem r_max (C : CX p s m args meth c E cc own nL ret) {idx : Nat} (w1 : Cond.methodLink own idx Lib.Math.max.name ∈ gG) (w2 : Cond.static Lib.Math.max.name ∈ gG) (w3 : Cond.initialized "java/lang/Math" ∈ gG) (w4 : Cond.code Lib.Math.max.name Lib.Math.max.code 2 (some .int) ∈ gG) (hl : ls.size = nL) (hR : 1 ≤ Ro.frames ∧ (rest.map fun v => v.category).sum + 13 ≤ Ro.locals ∧ cells ≤ Ro.cells ∧ slots ≤ Ro.slots) {x y : Int32} (hdg : decode cc pc = .ok (.invokestatic idx, 3))
    (kk : W p l e Ro s m args below meth c H locs cells slots Q (F0 m (pc + 3) ls (.int (if x < y then y else x) :: rest))) : W p l e Ro s m args below meth c H locs cells slots Q (F0 m pc ls (.int y :: .int x :: rest)) :=
  va_mmax C.1 C.2.1 (C.2.2.1.trans hl.symm) C.2.2.2.1 (C.2.2.2.2.1 _ w1) (C.2.2.2.2.1 _ w2) (C.2.2.2.2.1 _ w3) (C.2.2.2.2.1 _ w4) hR.1 hR.2.1 hR.2.2.1 hR.2.2.2 hdg kk
theorem r_min (C : CX p s m args meth c E cc own nL ret) {idx : Nat} (w1 : Cond.methodLink own idx Lib.Math.min.name ∈ gG) (w2 : Cond.static Lib.Math.min.name ∈ gG) (w3 : Cond.initialized "java/lang/Math" ∈ gG) (w4 : Cond.code Lib.Math.min.name Lib.Math.min.code 2 (some .int) ∈ gG) (hl : ls.size = nL) (hR : 1 ≤ Ro.frames ∧ (rest.map fun v => v.category).sum + 13 ≤ Ro.locals ∧ cells ≤ Ro.cells ∧ slots ≤ Ro.slots) {x y : Int32} (hdg : decode cc pc = .ok (.invokestatic idx, 3))
    (kk : W p l e Ro s m args below meth c H locs cells slots Q (F0 m (pc + 3) ls (.int (if y < x then y else x) :: rest))) : W p l e Ro s m args below meth c H locs cells slots Q (F0 m pc ls (.int y :: .int x :: rest)) :=
  va_mmin C.1 C.2.1 (C.2.2.1.trans hl.symm) C.2.2.2.1 (C.2.2.2.2.1 _ w1) (C.2.2.2.2.1 _ w2) (C.2.2.2.2.1 _ w3) (C.2.2.2.2.1 _ w4) hR.1 hR.2.1 hR.2.2.1 hR.2.2.2 hdg kk
theorem r_abs (C : CX p s m args meth c E cc own nL ret) {idx : Nat} (w1 : Cond.methodLink own idx Lib.Math.abs.name ∈ gG) (w2 : Cond.static Lib.Math.abs.name ∈ gG) (w3 : Cond.initialized "java/lang/Math" ∈ gG) (w4 : Cond.code Lib.Math.abs.name Lib.Math.abs.code 1 (some .int) ∈ gG) (hl : ls.size = nL) (hR : 1 ≤ Ro.frames ∧ (rest.map fun v => v.category).sum + 13 ≤ Ro.locals ∧ cells ≤ Ro.cells ∧ slots ≤ Ro.slots) {x : Int32} (hdg : decode cc pc = .ok (.invokestatic idx, 3))
    (kk : W p l e Ro s m args below meth c H locs cells slots Q (F0 m (pc + 3) ls (.int (if 0 ≤ x then x else 0 - x) :: rest))) : W p l e Ro s m args below meth c H locs cells slots Q (F0 m pc ls (.int x :: rest)) :=
  va_mabs C.1 C.2.1 (C.2.2.1.trans hl.symm) C.2.2.2.1 (C.2.2.2.2.1 _ w1) (C.2.2.2.2.1 _ w2) (C.2.2.2.2.1 _ w3) (C.2.2.2.2.1 _ w4) hR.1 hR.2.1 hR.2.2.1 hR.2.2.2 hdg kk
theorem r_obj (C : CX p s m args meth c E cc own nL ret) {idx : Nat} (w1 : Cond.methodLink own idx objectInit ∈ gG) (w2 : Cond.instanceMethod objectInit ∈ gG) (w3 : Cond.code objectInit ⟨#[0xb1]⟩ 1 none ∈ gG) (hl : ls.size = nL) (hR : 1 ≤ Ro.frames ∧ (rest.map fun v => v.category).sum + 12 ≤ Ro.locals) {a : Nat} (hdg : decode cc pc = .ok (.invokespecial idx, 3))
    (kk : W p l e Ro s m args below meth c H locs cells slots Q (F0 m (pc + 3) ls rest)) : W p l e Ro s m args below meth c H locs cells slots Q (F0 m pc ls (.ref a :: rest)) := by
  refine W.objInit C.1 C.2.1 C.2.2.2.1 (C.2.2.2.2.1 _ w1) (C.2.2.2.2.1 _ w2) (C.2.2.2.2.1 _ w3) rfl (by rw [C.2.2.1]; exact hl) rfl hdg hR.1 ?_ kk
  show 2 * 0 + _ + 12 ≤ _
  omega
/-! what a run says of its parts -/
end MAKE
def gd (P : Prop) [Decidable P] {β : Type} (x : Option β) : Option β := if P then x else none
theorem gd_some {P : Prop} [Decidable P] {β : Type} {x : Option β} {r : β} (h : gd P x = some r) : P ∧ x = some r := by
  unfold gd at h
  by_cases hP : P
  · rw [if_pos hP] at h; exact ⟨hP, h⟩
  · rw [if_neg hP] at h; cases h
def lt {α β : Type} (x : α) (f : α → Option β) : Option β := f x
theorem lt_some {α β : Type} {x : α} {f : α → Option β} {r : β} (h : lt x f = some r) : ∃ z, z = x ∧ f z = some r := ⟨x, rfl, h⟩
def bd {α β : Type} (x : Option α) (f : α → Option β) : Option β := match x with
  | none => none
  | some a => f a
theorem bd_some {α β : Type} {x : Option α} {f : α → Option β} {r : β} (h : bd x f = some r) : ∃ z, x = some z ∧ f z = some r := by
  cases x with
  | none => cases h
  | some a => exact ⟨a, rfl, h⟩
def mt {β : Type} (o : Option Nat) (x : Option β) (f : Nat → Option β) : Option β := match o with
  | none => x
  | some a => f a
theorem mt_cases {β : Type} {o : Option Nat} {x : Option β} {f : Nat → Option β} {r : β} (h : mt o x f = some r) : (o = none ∧ x = some r) ∨ ∃ a, o = some a ∧ f a = some r := by
  cases o with
  | none => exact Or.inl ⟨rfl, h⟩
  | some a => exact Or.inr ⟨a, rfl, h⟩
theorem vpD_iff (i : Int32) (k : Nat) : vp_in i k ↔ (¬ i < 0 ∧ i.toNatClampNeg < k) := by
  unfold vp_in
  constructor
  · intro h
    exact ⟨fun z => h (Or.inl z), Nat.not_le.mp fun z => h (Or.inr z)⟩
  · rintro ⟨h1, h2⟩ (z | z)
    · exact h1 z
    · omega
/-- an index that is in -/
def ix (i : Int32) (k : Nat) : Prop := ¬ i < 0 ∧ i.toNatClampNeg < k
end
