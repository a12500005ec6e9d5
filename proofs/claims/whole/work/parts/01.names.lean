-- ===== PART A: goes FIRST, ahead of the names: the tables' words, and 'selects' of the private methods out of them =====
/-- a private method of a class that the tables say can be made, by its rows of tables_1 -/
def lw_okq (q : MethodName × Nat) : Prop := (q.1.cls ≠ "java/lang/invoke/MethodHandle" ∧ q.1.cls ≠ "java/lang/invoke/VarHandle") ∧ Cond.instantiable q.1.cls q.2 ∈ tables_1 ∧ Cond.privateMethod q.1 ∈ tables_1 ∧ Cond.instanceMethod q.1 ∈ tables_1
theorem lw_p0 : lw_okq (⟨"UnsaidScales", "beginAnew", "()V"⟩, 12) := ⟨⟨by decide +kernel, by decide +kernel⟩, List.mem_of_getElem? (i := 16) (by decide +kernel), List.mem_of_getElem? (i := 234) (by decide +kernel), List.mem_of_getElem? (i := 235) (by decide +kernel)⟩
theorem lw_p1 : lw_okq (⟨"UnsaidScales$Drawer", "offer", "(II)V"⟩, 2) := ⟨⟨by decide +kernel, by decide +kernel⟩, List.mem_of_getElem? (i := 146) (by decide +kernel), List.mem_of_getElem? (i := 251) (by decide +kernel), List.mem_of_getElem? (i := 252) (by decide +kernel)⟩
theorem lw_p2 : lw_okq (⟨"UnsaidScales$TextReader", "skipBlanks", "()V"⟩, 4) := ⟨⟨by decide +kernel, by decide +kernel⟩, List.mem_of_getElem? (i := 24) (by decide +kernel), List.mem_of_getElem? (i := 339) (by decide +kernel), List.mem_of_getElem? (i := 340) (by decide +kernel)⟩
theorem lw_p3 : lw_okq (⟨"UnsaidScales$TextReader", "readItem", "(LUnsaidScales$ToldShop;)V"⟩, 4) := ⟨⟨by decide +kernel, by decide +kernel⟩, List.mem_of_getElem? (i := 24) (by decide +kernel), List.mem_of_getElem? (i := 347) (by decide +kernel), List.mem_of_getElem? (i := 348) (by decide +kernel)⟩
theorem lw_p4 : lw_okq (⟨"UnsaidScales$TextReader", "readWeight", "(LUnsaidScales$ToldShop;)V"⟩, 4) := ⟨⟨by decide +kernel, by decide +kernel⟩, List.mem_of_getElem? (i := 24) (by decide +kernel), List.mem_of_getElem? (i := 351) (by decide +kernel), List.mem_of_getElem? (i := 352) (by decide +kernel)⟩
theorem lw_p5 : lw_okq (⟨"UnsaidScales$TextReader", "readNumber", "(II)I"⟩, 4) := ⟨⟨by decide +kernel, by decide +kernel⟩, List.mem_of_getElem? (i := 24) (by decide +kernel), List.mem_of_getElem? (i := 355) (by decide +kernel), List.mem_of_getElem? (i := 356) (by decide +kernel)⟩
theorem lw_p6 : lw_okq (⟨"UnsaidScales$TextReader", "readEnd", "()V"⟩, 4) := ⟨⟨by decide +kernel, by decide +kernel⟩, List.mem_of_getElem? (i := 24) (by decide +kernel), List.mem_of_getElem? (i := 363) (by decide +kernel), List.mem_of_getElem? (i := 364) (by decide +kernel)⟩
theorem lw_p7 : lw_okq (⟨"UnsaidScales$TextReader", "readPerson", "(LUnsaidScales$ToldShop;)V"⟩, 4) := ⟨⟨by decide +kernel, by decide +kernel⟩, List.mem_of_getElem? (i := 24) (by decide +kernel), List.mem_of_getElem? (i := 367) (by decide +kernel), List.mem_of_getElem? (i := 368) (by decide +kernel)⟩
theorem lw_p8 : lw_okq (⟨"UnsaidScales$TextReader", "readGrowth", "(LUnsaidScales$ToldShop;)V"⟩, 4) := ⟨⟨by decide +kernel, by decide +kernel⟩, List.mem_of_getElem? (i := 24) (by decide +kernel), List.mem_of_getElem? (i := 371) (by decide +kernel), List.mem_of_getElem? (i := 372) (by decide +kernel)⟩
theorem lw_p9 : lw_okq (⟨"UnsaidScales$TextReader", "readPiece", "(LUnsaidScales$ToldShop;)V"⟩, 4) := ⟨⟨by decide +kernel, by decide +kernel⟩, List.mem_of_getElem? (i := 24) (by decide +kernel), List.mem_of_getElem? (i := 375) (by decide +kernel), List.mem_of_getElem? (i := 376) (by decide +kernel)⟩
theorem lw_p10 : lw_okq (⟨"UnsaidScales", "isPerson", "(I)Z"⟩, 12) := ⟨⟨by decide +kernel, by decide +kernel⟩, List.mem_of_getElem? (i := 16) (by decide +kernel), List.mem_of_getElem? (i := 388) (by decide +kernel), List.mem_of_getElem? (i := 389) (by decide +kernel)⟩
theorem lw_p11 : lw_okq (⟨"UnsaidScales", "heavinessOf", "(I)I"⟩, 12) := ⟨⟨by decide +kernel, by decide +kernel⟩, List.mem_of_getElem? (i := 16) (by decide +kernel), List.mem_of_getElem? (i := 407) (by decide +kernel), List.mem_of_getElem? (i := 408) (by decide +kernel)⟩
theorem lw_p12 : lw_okq (⟨"UnsaidScales", "heavinessAhead", "(II)I"⟩, 12) := ⟨⟨by decide +kernel, by decide +kernel⟩, List.mem_of_getElem? (i := 16) (by decide +kernel), List.mem_of_getElem? (i := 411) (by decide +kernel), List.mem_of_getElem? (i := 412) (by decide +kernel)⟩
theorem lw_p13 : lw_okq (⟨"UnsaidScales", "isPair", "(II)Z"⟩, 12) := ⟨⟨by decide +kernel, by decide +kernel⟩, List.mem_of_getElem? (i := 16) (by decide +kernel), List.mem_of_getElem? (i := 422) (by decide +kernel), List.mem_of_getElem? (i := 423) (by decide +kernel)⟩
theorem lw_p14 : lw_okq (⟨"UnsaidScales", "knownOf", "(II)I"⟩, 12) := ⟨⟨by decide +kernel, by decide +kernel⟩, List.mem_of_getElem? (i := 16) (by decide +kernel), List.mem_of_getElem? (i := 426) (by decide +kernel), List.mem_of_getElem? (i := 427) (by decide +kernel)⟩
theorem lw_p15 : lw_okq (⟨"UnsaidScales", "knownPairs", "()I"⟩, 12) := ⟨⟨by decide +kernel, by decide +kernel⟩, List.mem_of_getElem? (i := 16) (by decide +kernel), List.mem_of_getElem? (i := 443) (by decide +kernel), List.mem_of_getElem? (i := 444) (by decide +kernel)⟩
def lw_privs_1 : List (MethodName × Nat) := [(⟨"UnsaidScales", "beginAnew", "()V"⟩, 12), (⟨"UnsaidScales$Drawer", "offer", "(II)V"⟩, 2), (⟨"UnsaidScales$TextReader", "skipBlanks", "()V"⟩, 4), (⟨"UnsaidScales$TextReader", "readItem", "(LUnsaidScales$ToldShop;)V"⟩, 4), (⟨"UnsaidScales$TextReader", "readWeight", "(LUnsaidScales$ToldShop;)V"⟩, 4), (⟨"UnsaidScales$TextReader", "readNumber", "(II)I"⟩, 4), (⟨"UnsaidScales$TextReader", "readEnd", "()V"⟩, 4), (⟨"UnsaidScales$TextReader", "readPerson", "(LUnsaidScales$ToldShop;)V"⟩, 4), (⟨"UnsaidScales$TextReader", "readGrowth", "(LUnsaidScales$ToldShop;)V"⟩, 4), (⟨"UnsaidScales$TextReader", "readPiece", "(LUnsaidScales$ToldShop;)V"⟩, 4), (⟨"UnsaidScales", "isPerson", "(I)Z"⟩, 12), (⟨"UnsaidScales", "heavinessOf", "(I)I"⟩, 12), (⟨"UnsaidScales", "heavinessAhead", "(II)I"⟩, 12), (⟨"UnsaidScales", "isPair", "(II)Z"⟩, 12), (⟨"UnsaidScales", "knownOf", "(II)I"⟩, 12), (⟨"UnsaidScales", "knownPairs", "()I"⟩, 12)]
theorem lw_r1 : ∀ q ∈ lw_privs_1, lw_okq q := List.forall_mem_cons.mpr ⟨lw_p0, List.forall_mem_cons.mpr ⟨lw_p1, List.forall_mem_cons.mpr ⟨lw_p2, List.forall_mem_cons.mpr ⟨lw_p3, List.forall_mem_cons.mpr ⟨lw_p4, List.forall_mem_cons.mpr ⟨lw_p5, List.forall_mem_cons.mpr ⟨lw_p6, List.forall_mem_cons.mpr ⟨lw_p7, List.forall_mem_cons.mpr ⟨lw_p8, List.forall_mem_cons.mpr ⟨lw_p9, List.forall_mem_cons.mpr ⟨lw_p10, List.forall_mem_cons.mpr ⟨lw_p11, List.forall_mem_cons.mpr ⟨lw_p12, List.forall_mem_cons.mpr ⟨lw_p13, List.forall_mem_cons.mpr ⟨lw_p14, List.forall_mem_cons.mpr ⟨lw_p15, fun _ h => absurd h List.not_mem_nil⟩⟩⟩⟩⟩⟩⟩⟩⟩⟩⟩⟩⟩⟩⟩⟩
theorem lw_p16 : lw_okq (⟨"UnsaidScales", "planned", "(I)I"⟩, 12) := ⟨⟨by decide +kernel, by decide +kernel⟩, List.mem_of_getElem? (i := 16) (by decide +kernel), List.mem_of_getElem? (i := 447) (by decide +kernel), List.mem_of_getElem? (i := 448) (by decide +kernel)⟩
theorem lw_p17 : lw_okq (⟨"UnsaidScales$OrderTable", "countOrders", "(I)I"⟩, 4) := ⟨⟨by decide +kernel, by decide +kernel⟩, List.mem_of_getElem? (i := 125) (by decide +kernel), List.mem_of_getElem? (i := 455) (by decide +kernel), List.mem_of_getElem? (i := 456) (by decide +kernel)⟩
theorem lw_p18 : lw_okq (⟨"UnsaidScales$OrderTable", "isOrder", "(I)Z"⟩, 4) := ⟨⟨by decide +kernel, by decide +kernel⟩, List.mem_of_getElem? (i := 125) (by decide +kernel), List.mem_of_getElem? (i := 467) (by decide +kernel), List.mem_of_getElem? (i := 468) (by decide +kernel)⟩
theorem lw_p19 : lw_okq (⟨"UnsaidScales$OrderTable", "countHeavierOnes", "(I)V"⟩, 4) := ⟨⟨by decide +kernel, by decide +kernel⟩, List.mem_of_getElem? (i := 125) (by decide +kernel), List.mem_of_getElem? (i := 471) (by decide +kernel), List.mem_of_getElem? (i := 472) (by decide +kernel)⟩
theorem lw_p20 : lw_okq (⟨"UnsaidScales$OrderTable", "leastBehind", "(I)I"⟩, 4) := ⟨⟨by decide +kernel, by decide +kernel⟩, List.mem_of_getElem? (i := 125) (by decide +kernel), List.mem_of_getElem? (i := 479) (by decide +kernel), List.mem_of_getElem? (i := 480) (by decide +kernel)⟩
theorem lw_p21 : lw_okq (⟨"UnsaidScales$OrderTable", "worstBehind", "(II)I"⟩, 4) := ⟨⟨by decide +kernel, by decide +kernel⟩, List.mem_of_getElem? (i := 125) (by decide +kernel), List.mem_of_getElem? (i := 483) (by decide +kernel), List.mem_of_getElem? (i := 484) (by decide +kernel)⟩
theorem lw_p22 : lw_okq (⟨"UnsaidScales", "compareLower", "(II)I"⟩, 12) := ⟨⟨by decide +kernel, by decide +kernel⟩, List.mem_of_getElem? (i := 16) (by decide +kernel), List.mem_of_getElem? (i := 534) (by decide +kernel), List.mem_of_getElem? (i := 535) (by decide +kernel)⟩
theorem lw_p23 : lw_okq (⟨"UnsaidScales", "lighterWays", "(IIII)J"⟩, 12) := ⟨⟨by decide +kernel, by decide +kernel⟩, List.mem_of_getElem? (i := 16) (by decide +kernel), List.mem_of_getElem? (i := 596) (by decide +kernel), List.mem_of_getElem? (i := 597) (by decide +kernel)⟩
theorem lw_p24 : lw_okq (⟨"UnsaidScales$Evidence", "fits", "(II)Z"⟩, 9) := ⟨⟨by decide +kernel, by decide +kernel⟩, List.mem_of_getElem? (i := 186) (by decide +kernel), List.mem_of_getElem? (i := 678) (by decide +kernel), List.mem_of_getElem? (i := 679) (by decide +kernel)⟩
theorem lw_p25 : lw_okq (⟨"UnsaidScales", "asPerson", "(I)I"⟩, 12) := ⟨⟨by decide +kernel, by decide +kernel⟩, List.mem_of_getElem? (i := 16) (by decide +kernel), List.mem_of_getElem? (i := 698) (by decide +kernel), List.mem_of_getElem? (i := 699) (by decide +kernel)⟩
theorem lw_p26 : lw_okq (⟨"UnsaidScales", "asBride", "(I)I"⟩, 12) := ⟨⟨by decide +kernel, by decide +kernel⟩, List.mem_of_getElem? (i := 16) (by decide +kernel), List.mem_of_getElem? (i := 702) (by decide +kernel), List.mem_of_getElem? (i := 703) (by decide +kernel)⟩
theorem lw_p27 : lw_okq (⟨"UnsaidScales", "asPartner", "(I)I"⟩, 12) := ⟨⟨by decide +kernel, by decide +kernel⟩, List.mem_of_getElem? (i := 16) (by decide +kernel), List.mem_of_getElem? (i := 710) (by decide +kernel), List.mem_of_getElem? (i := 711) (by decide +kernel)⟩
theorem lw_p28 : lw_okq (⟨"UnsaidScales", "asBrother", "(I)I"⟩, 12) := ⟨⟨by decide +kernel, by decide +kernel⟩, List.mem_of_getElem? (i := 16) (by decide +kernel), List.mem_of_getElem? (i := 715) (by decide +kernel), List.mem_of_getElem? (i := 716) (by decide +kernel)⟩
theorem lw_p29 : lw_okq (⟨"UnsaidScales", "asBankrupt", "(I)I"⟩, 12) := ⟨⟨by decide +kernel, by decide +kernel⟩, List.mem_of_getElem? (i := 16) (by decide +kernel), List.mem_of_getElem? (i := 720) (by decide +kernel), List.mem_of_getElem? (i := 721) (by decide +kernel)⟩
theorem lw_p30 : lw_okq (⟨"UnsaidScales", "asStranger", "(I)I"⟩, 12) := ⟨⟨by decide +kernel, by decide +kernel⟩, List.mem_of_getElem? (i := 16) (by decide +kernel), List.mem_of_getElem? (i := 725) (by decide +kernel), List.mem_of_getElem? (i := 726) (by decide +kernel)⟩
theorem lw_p31 : lw_okq (⟨"UnsaidScalesModel", "begins", "()V"⟩, 34) := ⟨⟨by decide +kernel, by decide +kernel⟩, List.mem_of_getElem? (i := 747) (by decide +kernel), List.mem_of_getElem? (i := 753) (by decide +kernel), List.mem_of_getElem? (i := 754) (by decide +kernel)⟩
def lw_privs_2 : List (MethodName × Nat) := [(⟨"UnsaidScales", "planned", "(I)I"⟩, 12), (⟨"UnsaidScales$OrderTable", "countOrders", "(I)I"⟩, 4), (⟨"UnsaidScales$OrderTable", "isOrder", "(I)Z"⟩, 4), (⟨"UnsaidScales$OrderTable", "countHeavierOnes", "(I)V"⟩, 4), (⟨"UnsaidScales$OrderTable", "leastBehind", "(I)I"⟩, 4), (⟨"UnsaidScales$OrderTable", "worstBehind", "(II)I"⟩, 4), (⟨"UnsaidScales", "compareLower", "(II)I"⟩, 12), (⟨"UnsaidScales", "lighterWays", "(IIII)J"⟩, 12), (⟨"UnsaidScales$Evidence", "fits", "(II)Z"⟩, 9), (⟨"UnsaidScales", "asPerson", "(I)I"⟩, 12), (⟨"UnsaidScales", "asBride", "(I)I"⟩, 12), (⟨"UnsaidScales", "asPartner", "(I)I"⟩, 12), (⟨"UnsaidScales", "asBrother", "(I)I"⟩, 12), (⟨"UnsaidScales", "asBankrupt", "(I)I"⟩, 12), (⟨"UnsaidScales", "asStranger", "(I)I"⟩, 12), (⟨"UnsaidScalesModel", "begins", "()V"⟩, 34)]
theorem lw_r2 : ∀ q ∈ lw_privs_2, lw_okq q := List.forall_mem_cons.mpr ⟨lw_p16, List.forall_mem_cons.mpr ⟨lw_p17, List.forall_mem_cons.mpr ⟨lw_p18, List.forall_mem_cons.mpr ⟨lw_p19, List.forall_mem_cons.mpr ⟨lw_p20, List.forall_mem_cons.mpr ⟨lw_p21, List.forall_mem_cons.mpr ⟨lw_p22, List.forall_mem_cons.mpr ⟨lw_p23, List.forall_mem_cons.mpr ⟨lw_p24, List.forall_mem_cons.mpr ⟨lw_p25, List.forall_mem_cons.mpr ⟨lw_p26, List.forall_mem_cons.mpr ⟨lw_p27, List.forall_mem_cons.mpr ⟨lw_p28, List.forall_mem_cons.mpr ⟨lw_p29, List.forall_mem_cons.mpr ⟨lw_p30, List.forall_mem_cons.mpr ⟨lw_p31, fun _ h => absurd h List.not_mem_nil⟩⟩⟩⟩⟩⟩⟩⟩⟩⟩⟩⟩⟩⟩⟩⟩
theorem lw_p32 : lw_okq (⟨"UnsaidScalesModel", "settles", "()V"⟩, 34) := ⟨⟨by decide +kernel, by decide +kernel⟩, List.mem_of_getElem? (i := 747) (by decide +kernel), List.mem_of_getElem? (i := 757) (by decide +kernel), List.mem_of_getElem? (i := 758) (by decide +kernel)⟩
theorem lw_p33 : lw_okq (⟨"UnsaidScalesModel", "orders", "()V"⟩, 34) := ⟨⟨by decide +kernel, by decide +kernel⟩, List.mem_of_getElem? (i := 747) (by decide +kernel), List.mem_of_getElem? (i := 761) (by decide +kernel), List.mem_of_getElem? (i := 762) (by decide +kernel)⟩
theorem lw_p34 : lw_okq (⟨"UnsaidScalesModel", "isPairNumber", "(I)Z"⟩, 34) := ⟨⟨by decide +kernel, by decide +kernel⟩, List.mem_of_getElem? (i := 747) (by decide +kernel), List.mem_of_getElem? (i := 771) (by decide +kernel), List.mem_of_getElem? (i := 772) (by decide +kernel)⟩
theorem lw_p35 : lw_okq (⟨"UnsaidScalesModel", "worsts", "()V"⟩, 34) := ⟨⟨by decide +kernel, by decide +kernel⟩, List.mem_of_getElem? (i := 747) (by decide +kernel), List.mem_of_getElem? (i := 775) (by decide +kernel), List.mem_of_getElem? (i := 776) (by decide +kernel)⟩
theorem lw_p36 : lw_okq (⟨"UnsaidScalesModel", "worstBehind", "(II)I"⟩, 34) := ⟨⟨by decide +kernel, by decide +kernel⟩, List.mem_of_getElem? (i := 747) (by decide +kernel), List.mem_of_getElem? (i := 780) (by decide +kernel), List.mem_of_getElem? (i := 781) (by decide +kernel)⟩
theorem lw_p37 : lw_okq (⟨"UnsaidScalesModel", "advances", "()V"⟩, 34) := ⟨⟨by decide +kernel, by decide +kernel⟩, List.mem_of_getElem? (i := 747) (by decide +kernel), List.mem_of_getElem? (i := 902) (by decide +kernel), List.mem_of_getElem? (i := 903) (by decide +kernel)⟩
theorem lw_p38 : lw_okq (⟨"UnsaidScalesModel", "letterAt", "(I)I"⟩, 34) := ⟨⟨by decide +kernel, by decide +kernel⟩, List.mem_of_getElem? (i := 747) (by decide +kernel), List.mem_of_getElem? (i := 906) (by decide +kernel), List.mem_of_getElem? (i := 907) (by decide +kernel)⟩
theorem lw_p39 : lw_okq (⟨"UnsaidScalesModel", "isWell", "()Z"⟩, 34) := ⟨⟨by decide +kernel, by decide +kernel⟩, List.mem_of_getElem? (i := 747) (by decide +kernel), List.mem_of_getElem? (i := 910) (by decide +kernel), List.mem_of_getElem? (i := 911) (by decide +kernel)⟩
theorem lw_p40 : lw_okq (⟨"UnsaidScalesModel", "mayBegin", "()Z"⟩, 34) := ⟨⟨by decide +kernel, by decide +kernel⟩, List.mem_of_getElem? (i := 747) (by decide +kernel), List.mem_of_getElem? (i := 914) (by decide +kernel), List.mem_of_getElem? (i := 915) (by decide +kernel)⟩
theorem lw_p41 : lw_okq (⟨"UnsaidScalesModel", "takes", "(Z)I"⟩, 34) := ⟨⟨by decide +kernel, by decide +kernel⟩, List.mem_of_getElem? (i := 747) (by decide +kernel), List.mem_of_getElem? (i := 918) (by decide +kernel), List.mem_of_getElem? (i := 919) (by decide +kernel)⟩
theorem lw_p42 : lw_okq (⟨"UnsaidScalesModel", "readsItem", "(I)V"⟩, 34) := ⟨⟨by decide +kernel, by decide +kernel⟩, List.mem_of_getElem? (i := 747) (by decide +kernel), List.mem_of_getElem? (i := 922) (by decide +kernel), List.mem_of_getElem? (i := 923) (by decide +kernel)⟩
theorem lw_p43 : lw_okq (⟨"UnsaidScalesModel", "number", "(II)I"⟩, 34) := ⟨⟨by decide +kernel, by decide +kernel⟩, List.mem_of_getElem? (i := 747) (by decide +kernel), List.mem_of_getElem? (i := 926) (by decide +kernel), List.mem_of_getElem? (i := 927) (by decide +kernel)⟩
theorem lw_p44 : lw_okq (⟨"UnsaidScalesModel", "isPerson", "(I)Z"⟩, 34) := ⟨⟨by decide +kernel, by decide +kernel⟩, List.mem_of_getElem? (i := 747) (by decide +kernel), List.mem_of_getElem? (i := 934) (by decide +kernel), List.mem_of_getElem? (i := 935) (by decide +kernel)⟩
theorem lw_p45 : lw_okq (⟨"UnsaidScalesModel", "heaviness", "(I)I"⟩, 34) := ⟨⟨by decide +kernel, by decide +kernel⟩, List.mem_of_getElem? (i := 747) (by decide +kernel), List.mem_of_getElem? (i := 953) (by decide +kernel), List.mem_of_getElem? (i := 954) (by decide +kernel)⟩
theorem lw_p46 : lw_okq (⟨"UnsaidScalesModel", "isPair", "(II)Z"⟩, 34) := ⟨⟨by decide +kernel, by decide +kernel⟩, List.mem_of_getElem? (i := 747) (by decide +kernel), List.mem_of_getElem? (i := 961) (by decide +kernel), List.mem_of_getElem? (i := 962) (by decide +kernel)⟩
theorem lw_p47 : lw_okq (⟨"UnsaidScalesModel", "knownMany", "()I"⟩, 34) := ⟨⟨by decide +kernel, by decide +kernel⟩, List.mem_of_getElem? (i := 747) (by decide +kernel), List.mem_of_getElem? (i := 975) (by decide +kernel), List.mem_of_getElem? (i := 976) (by decide +kernel)⟩
def lw_privs_3 : List (MethodName × Nat) := [(⟨"UnsaidScalesModel", "settles", "()V"⟩, 34), (⟨"UnsaidScalesModel", "orders", "()V"⟩, 34), (⟨"UnsaidScalesModel", "isPairNumber", "(I)Z"⟩, 34), (⟨"UnsaidScalesModel", "worsts", "()V"⟩, 34), (⟨"UnsaidScalesModel", "worstBehind", "(II)I"⟩, 34), (⟨"UnsaidScalesModel", "advances", "()V"⟩, 34), (⟨"UnsaidScalesModel", "letterAt", "(I)I"⟩, 34), (⟨"UnsaidScalesModel", "isWell", "()Z"⟩, 34), (⟨"UnsaidScalesModel", "mayBegin", "()Z"⟩, 34), (⟨"UnsaidScalesModel", "takes", "(Z)I"⟩, 34), (⟨"UnsaidScalesModel", "readsItem", "(I)V"⟩, 34), (⟨"UnsaidScalesModel", "number", "(II)I"⟩, 34), (⟨"UnsaidScalesModel", "isPerson", "(I)Z"⟩, 34), (⟨"UnsaidScalesModel", "heaviness", "(I)I"⟩, 34), (⟨"UnsaidScalesModel", "isPair", "(II)Z"⟩, 34), (⟨"UnsaidScalesModel", "knownMany", "()I"⟩, 34)]
theorem lw_r3 : ∀ q ∈ lw_privs_3, lw_okq q := List.forall_mem_cons.mpr ⟨lw_p32, List.forall_mem_cons.mpr ⟨lw_p33, List.forall_mem_cons.mpr ⟨lw_p34, List.forall_mem_cons.mpr ⟨lw_p35, List.forall_mem_cons.mpr ⟨lw_p36, List.forall_mem_cons.mpr ⟨lw_p37, List.forall_mem_cons.mpr ⟨lw_p38, List.forall_mem_cons.mpr ⟨lw_p39, List.forall_mem_cons.mpr ⟨lw_p40, List.forall_mem_cons.mpr ⟨lw_p41, List.forall_mem_cons.mpr ⟨lw_p42, List.forall_mem_cons.mpr ⟨lw_p43, List.forall_mem_cons.mpr ⟨lw_p44, List.forall_mem_cons.mpr ⟨lw_p45, List.forall_mem_cons.mpr ⟨lw_p46, List.forall_mem_cons.mpr ⟨lw_p47, fun _ h => absurd h List.not_mem_nil⟩⟩⟩⟩⟩⟩⟩⟩⟩⟩⟩⟩⟩⟩⟩⟩
theorem lw_p48 : lw_okq (⟨"UnsaidScalesModel", "codeNow", "()I"⟩, 34) := ⟨⟨by decide +kernel, by decide +kernel⟩, List.mem_of_getElem? (i := 747) (by decide +kernel), List.mem_of_getElem? (i := 979) (by decide +kernel), List.mem_of_getElem? (i := 980) (by decide +kernel)⟩
theorem lw_p49 : lw_okq (⟨"UnsaidScalesModel", "nextPair", "()I"⟩, 34) := ⟨⟨by decide +kernel, by decide +kernel⟩, List.mem_of_getElem? (i := 747) (by decide +kernel), List.mem_of_getElem? (i := 983) (by decide +kernel), List.mem_of_getElem? (i := 984) (by decide +kernel)⟩
theorem lw_p50 : lw_okq (⟨"UnsaidScalesModel", "range", "()I"⟩, 34) := ⟨⟨by decide +kernel, by decide +kernel⟩, List.mem_of_getElem? (i := 747) (by decide +kernel), List.mem_of_getElem? (i := 987) (by decide +kernel), List.mem_of_getElem? (i := 988) (by decide +kernel)⟩
theorem lw_p51 : lw_okq (⟨"UnsaidScalesModel", "sumOf", "(I)I"⟩, 34) := ⟨⟨by decide +kernel, by decide +kernel⟩, List.mem_of_getElem? (i := 747) (by decide +kernel), List.mem_of_getElem? (i := 991) (by decide +kernel), List.mem_of_getElem? (i := 992) (by decide +kernel)⟩
theorem lw_p52 : lw_okq (⟨"UnsaidScalesModel", "notes", "()V"⟩, 34) := ⟨⟨by decide +kernel, by decide +kernel⟩, List.mem_of_getElem? (i := 747) (by decide +kernel), List.mem_of_getElem? (i := 999) (by decide +kernel), List.mem_of_getElem? (i := 1000) (by decide +kernel)⟩
theorem lw_p53 : lw_okq (⟨"UnsaidScalesModel", "gets", "(III)V"⟩, 34) := ⟨⟨by decide +kernel, by decide +kernel⟩, List.mem_of_getElem? (i := 747) (by decide +kernel), List.mem_of_getElem? (i := 1003) (by decide +kernel), List.mem_of_getElem? (i := 1004) (by decide +kernel)⟩
theorem lw_p54 : lw_okq (⟨"UnsaidScalesModel", "sheds", "(II)V"⟩, 34) := ⟨⟨by decide +kernel, by decide +kernel⟩, List.mem_of_getElem? (i := 747) (by decide +kernel), List.mem_of_getElem? (i := 1036) (by decide +kernel), List.mem_of_getElem? (i := 1037) (by decide +kernel)⟩
theorem lw_p55 : lw_okq (⟨"UnsaidScalesModel", "canSay", "(II)Z"⟩, 34) := ⟨⟨by decide +kernel, by decide +kernel⟩, List.mem_of_getElem? (i := 747) (by decide +kernel), List.mem_of_getElem? (i := 1040) (by decide +kernel), List.mem_of_getElem? (i := 1041) (by decide +kernel)⟩
theorem lw_p56 : lw_okq (⟨"UnsaidScalesModel", "weighsOf", "(I)I"⟩, 34) := ⟨⟨by decide +kernel, by decide +kernel⟩, List.mem_of_getElem? (i := 747) (by decide +kernel), List.mem_of_getElem? (i := 1044) (by decide +kernel), List.mem_of_getElem? (i := 1045) (by decide +kernel)⟩
theorem lw_p57 : lw_okq (⟨"UnsaidScalesModel", "wayOf", "(III)I"⟩, 34) := ⟨⟨by decide +kernel, by decide +kernel⟩, List.mem_of_getElem? (i := 747) (by decide +kernel), List.mem_of_getElem? (i := 1048) (by decide +kernel), List.mem_of_getElem? (i := 1049) (by decide +kernel)⟩
theorem lw_p58 : lw_okq (⟨"UnsaidScalesModel", "heavinessThen", "(II)I"⟩, 34) := ⟨⟨by decide +kernel, by decide +kernel⟩, List.mem_of_getElem? (i := 747) (by decide +kernel), List.mem_of_getElem? (i := 1056) (by decide +kernel), List.mem_of_getElem? (i := 1057) (by decide +kernel)⟩
theorem lw_p59 : lw_okq (⟨"UnsaidScalesModel", "pieces", "(I)I"⟩, 34) := ⟨⟨by decide +kernel, by decide +kernel⟩, List.mem_of_getElem? (i := 747) (by decide +kernel), List.mem_of_getElem? (i := 1073) (by decide +kernel), List.mem_of_getElem? (i := 1074) (by decide +kernel)⟩
theorem lw_p60 : lw_okq (⟨"UnsaidScalesModel", "isAsShown", "(II)Z"⟩, 34) := ⟨⟨by decide +kernel, by decide +kernel⟩, List.mem_of_getElem? (i := 747) (by decide +kernel), List.mem_of_getElem? (i := 1085) (by decide +kernel), List.mem_of_getElem? (i := 1086) (by decide +kernel)⟩
def lw_privs_4 : List (MethodName × Nat) := [(⟨"UnsaidScalesModel", "codeNow", "()I"⟩, 34), (⟨"UnsaidScalesModel", "nextPair", "()I"⟩, 34), (⟨"UnsaidScalesModel", "range", "()I"⟩, 34), (⟨"UnsaidScalesModel", "sumOf", "(I)I"⟩, 34), (⟨"UnsaidScalesModel", "notes", "()V"⟩, 34), (⟨"UnsaidScalesModel", "gets", "(III)V"⟩, 34), (⟨"UnsaidScalesModel", "sheds", "(II)V"⟩, 34), (⟨"UnsaidScalesModel", "canSay", "(II)Z"⟩, 34), (⟨"UnsaidScalesModel", "weighsOf", "(I)I"⟩, 34), (⟨"UnsaidScalesModel", "wayOf", "(III)I"⟩, 34), (⟨"UnsaidScalesModel", "heavinessThen", "(II)I"⟩, 34), (⟨"UnsaidScalesModel", "pieces", "(I)I"⟩, 34), (⟨"UnsaidScalesModel", "isAsShown", "(II)Z"⟩, 34)]
theorem lw_r4 : ∀ q ∈ lw_privs_4, lw_okq q := List.forall_mem_cons.mpr ⟨lw_p48, List.forall_mem_cons.mpr ⟨lw_p49, List.forall_mem_cons.mpr ⟨lw_p50, List.forall_mem_cons.mpr ⟨lw_p51, List.forall_mem_cons.mpr ⟨lw_p52, List.forall_mem_cons.mpr ⟨lw_p53, List.forall_mem_cons.mpr ⟨lw_p54, List.forall_mem_cons.mpr ⟨lw_p55, List.forall_mem_cons.mpr ⟨lw_p56, List.forall_mem_cons.mpr ⟨lw_p57, List.forall_mem_cons.mpr ⟨lw_p58, List.forall_mem_cons.mpr ⟨lw_p59, List.forall_mem_cons.mpr ⟨lw_p60, fun _ h => absurd h List.not_mem_nil⟩⟩⟩⟩⟩⟩⟩⟩⟩⟩⟩⟩⟩
def lw_privs : List (MethodName × Nat) := lw_privs_1 ++ (lw_privs_2 ++ (lw_privs_3 ++ (lw_privs_4)))
def lw_tbl : List Cond := k2_sels lw_privs ++ tables_1
theorem lw_privs_ok : ∀ q ∈ lw_privs, lw_okq q := by
  show ∀ q ∈ lw_privs_1 ++ (lw_privs_2 ++ (lw_privs_3 ++ (lw_privs_4))), lw_okq q
  exact List.forall_mem_append.mpr ⟨lw_r1, List.forall_mem_append.mpr ⟨lw_r2, List.forall_mem_append.mpr ⟨lw_r3, lw_r4⟩⟩⟩
def RX0 : String := "UnsaidScales$Drawer"
def TX0 : u_T := fun k => match k with
  | 0 => ("UnsaidScales$Drawer", "panWeights", "[I", true)
  | _ => ("UnsaidScales$Drawer", "ways", "[I", true)
def tyX0 : Nat → FieldType := fun k => match k with
  | 0 => .array .int
  | _ => .array .int
abbrev wsX00 : List Cond := u_ws RX0 TX0 2
theorem nmX0 : ∀ a, a < 2 → ∀ b, b < 2 → a ≠ b → (TX0 a).2.1 ≠ (TX0 b).2.1 := by decide +kernel
theorem tyX0_ok : ∀ k, k < 2 → parseFieldDescriptor (TX0 k).2.2.1 = some (tyX0 k) := by decide +kernel
abbrev cX0_init : ByteArray := prog_2_method_1_code
def yX0_init : MethodName := ⟨RX0, "<init>", "()V"⟩
abbrev cX0_layOut : ByteArray := prog_2_method_2_code
def yX0_layOut : MethodName := ⟨RX0, "layOut", "(LUnsaidScales$ToldShop;)V"⟩
abbrev cX0_canWeigh : ByteArray := prog_2_method_3_code
def yX0_canWeigh : MethodName := ⟨RX0, "canWeigh", "(I)Z"⟩
abbrev cX0_fewestPieces : ByteArray := prog_2_method_4_code
def yX0_fewestPieces : MethodName := ⟨RX0, "fewestPieces", "(I)I"⟩
abbrev cX0_heavierPan : ByteArray := prog_2_method_5_code
def yX0_heavierPan : MethodName := ⟨RX0, "heavierPan", "(I)I"⟩
abbrev cX0_otherPan : ByteArray := prog_2_method_6_code
def yX0_otherPan : MethodName := ⟨RX0, "otherPan", "(I)I"⟩
abbrev cX0_range : ByteArray := prog_2_method_7_code
def yX0_range : MethodName := ⟨RX0, "range", "()I"⟩
abbrev cX0_offer : ByteArray := prog_2_method_8_code
def yX0_offer : MethodName := ⟨RX0, "offer", "(II)V"⟩
abbrev cX0_weigh : ByteArray := prog_2_method_9_code
def yX0_weigh : MethodName := ⟨RX0, "weigh", "(ILUnsaidScales$ToldShop;)I"⟩
def RX1 : String := "UnsaidScales$Evidence"
def TX1 : u_T := fun k => match k with
  | 0 => ("UnsaidScales$Evidence", "shownOf", "[I", true)
  | 1 => ("UnsaidScales$Evidence", "shownBrass", "[I", true)
  | 2 => ("UnsaidScales$Evidence", "shownHow", "[I", true)
  | 3 => ("UnsaidScales$Evidence", "seenOf", "[I", true)
  | 4 => ("UnsaidScales$Evidence", "seenGain", "[I", true)
  | 5 => ("UnsaidScales$Evidence", "waysOfHeaviness", "[I", true)
  | 6 => ("UnsaidScales$Evidence", "waysStand", "Z", false)
  | 7 => ("UnsaidScales$Evidence", "shown", "I", false)
  | _ => ("UnsaidScales$Evidence", "seen", "I", false)
def tyX1 : Nat → FieldType := fun k => match k with
  | 0 => .array .int
  | 1 => .array .int
  | 2 => .array .int
  | 3 => .array .int
  | 4 => .array .int
  | 5 => .array .int
  | 6 => .boolean
  | 7 => .int
  | _ => .int
abbrev wsX10 : List Cond := u_ws RX1 TX1 9
theorem nmX1 : ∀ a, a < 9 → ∀ b, b < 9 → a ≠ b → (TX1 a).2.1 ≠ (TX1 b).2.1 := by decide +kernel
theorem tyX1_ok : ∀ k, k < 9 → parseFieldDescriptor (TX1 k).2.2.1 = some (tyX1 k) := by decide +kernel
abbrev cX1_init : ByteArray := prog_3_method_1_code
def yX1_init : MethodName := ⟨RX1, "<init>", "()V"⟩
abbrev cX1_begin : ByteArray := prog_3_method_2_code
def yX1_begin : MethodName := ⟨RX1, "begin", "()V"⟩
abbrev cX1_addShown : ByteArray := prog_3_method_3_code
def yX1_addShown : MethodName := ⟨RX1, "addShown", "(III)Z"⟩
abbrev cX1_addSeen : ByteArray := prog_3_method_4_code
def yX1_addSeen : MethodName := ⟨RX1, "addSeen", "(II)Z"⟩
abbrev cX1_dropRecords : ByteArray := prog_3_method_5_code
def yX1_dropRecords : MethodName := ⟨RX1, "dropRecords", "()V"⟩
abbrev cX1_prepareWays : ByteArray := prog_3_method_6_code
def yX1_prepareWays : MethodName := ⟨RX1, "prepareWays", "([I)V"⟩
abbrev cX1_lowestOf : ByteArray := prog_3_method_7_code
def yX1_lowestOf : MethodName := ⟨RX1, "lowestOf", "(I)I"⟩
abbrev cX1_highestOf : ByteArray := prog_3_method_8_code
def yX1_highestOf : MethodName := ⟨RX1, "highestOf", "(I)I"⟩
abbrev cX1_waysBetween : ByteArray := prog_3_method_9_code
def yX1_waysBetween : MethodName := ⟨RX1, "waysBetween", "(II)I"⟩
abbrev cX1_leastBetween : ByteArray := prog_3_method_10_code
def yX1_leastBetween : MethodName := ⟨RX1, "leastBetween", "(II)I"⟩
abbrev cX1_greatestBetween : ByteArray := prog_3_method_11_code
def yX1_greatestBetween : MethodName := ⟨RX1, "greatestBetween", "(II)I"⟩
abbrev cX1_lawsOf : ByteArray := prog_3_method_12_code
def yX1_lawsOf : MethodName := ⟨RX1, "lawsOf", "(I[I)I"⟩
abbrev cX1_firstLawOf : ByteArray := prog_3_method_13_code
def yX1_firstLawOf : MethodName := ⟨RX1, "firstLawOf", "(I[I)I"⟩
abbrev cX1_gainOf : ByteArray := prog_3_method_14_code
def yX1_gainOf : MethodName := ⟨RX1, "gainOf", "(I[I)I"⟩
abbrev cX1_figuresOf : ByteArray := prog_3_method_15_code
def yX1_figuresOf : MethodName := ⟨RX1, "figuresOf", "(I)I"⟩
abbrev cX1_fits : ByteArray := prog_3_method_16_code
def yX1_fits : MethodName := ⟨RX1, "fits", "(II)Z"⟩
def RX2 : String := "UnsaidScales$History"
def TX2 : u_T := fun k => match k with
  | 0 => ("UnsaidScales$History", "ring", "[LUnsaidScales$Moment;", true)
  | 1 => ("UnsaidScales$History", "next", "I", false)
  | _ => ("UnsaidScales$History", "size", "I", false)
def tyX2 : Nat → FieldType := fun k => match k with
  | 0 => .array (.object "UnsaidScales$Moment")
  | 1 => .int
  | _ => .int
abbrev wsX20 : List Cond := u_ws RX2 TX2 3
theorem nmX2 : ∀ a, a < 3 → ∀ b, b < 3 → a ≠ b → (TX2 a).2.1 ≠ (TX2 b).2.1 := by decide +kernel
theorem tyX2_ok : ∀ k, k < 3 → parseFieldDescriptor (TX2 k).2.2.1 = some (tyX2 k) := by decide +kernel
abbrev cX2_init : ByteArray := prog_4_method_1_code
def yX2_init : MethodName := ⟨RX2, "<init>", "()V"⟩
abbrev cX2_push : ByteArray := prog_4_method_2_code
def yX2_push : MethodName := ⟨RX2, "push", "(LUnsaidScales$Moment;)V"⟩
abbrev cX2_popInto : ByteArray := prog_4_method_3_code
def yX2_popInto : MethodName := ⟨RX2, "popInto", "(LUnsaidScales$Moment;)V"⟩
def RX3 : String := "UnsaidScales$LeastSaid"
def TX3 : u_T := fun k => match k with
  | 0 => ("UnsaidScales$LeastSaid", "firstFewest", "[I", true)
  | 1 => ("UnsaidScales$LeastSaid", "secondFewest", "[I", true)
  | 2 => ("UnsaidScales$LeastSaid", "things", "I", false)
  | 3 => ("UnsaidScales$LeastSaid", "heaviness", "I", false)
  | 4 => ("UnsaidScales$LeastSaid", "firstSheds", "I", false)
  | _ => ("UnsaidScales$LeastSaid", "secondSheds", "I", false)
def tyX3 : Nat → FieldType := fun k => match k with
  | 0 => .array .int
  | 1 => .array .int
  | 2 => .int
  | 3 => .int
  | 4 => .int
  | _ => .int
abbrev wsX30 : List Cond := u_ws RX3 TX3 6
theorem nmX3 : ∀ a, a < 6 → ∀ b, b < 6 → a ≠ b → (TX3 a).2.1 ≠ (TX3 b).2.1 := by decide +kernel
theorem tyX3_ok : ∀ k, k < 6 → parseFieldDescriptor (TX3 k).2.2.1 = some (tyX3 k) := by decide +kernel
abbrev cX3_init : ByteArray := prog_5_method_1_code
def yX3_init : MethodName := ⟨RX3, "<init>", "()V"⟩
abbrev cX3_find : ByteArray := prog_5_method_2_code
def yX3_find : MethodName := ⟨RX3, "find", "([I[III)V"⟩
abbrev cX3_firstSays : ByteArray := prog_5_method_3_code
def yX3_firstSays : MethodName := ⟨RX3, "firstSays", "([I[III)I"⟩
abbrev cX3_secondSays : ByteArray := prog_5_method_4_code
def yX3_secondSays : MethodName := ⟨RX3, "secondSays", "([I[III)I"⟩
abbrev cX3_countFewest : ByteArray := prog_5_method_5_code
def yX3_countFewest : MethodName := ⟨RX3, "countFewest", "([I[I[II)I"⟩
abbrev cX3_offerBundle : ByteArray := prog_5_method_6_code
def yX3_offerBundle : MethodName := ⟨RX3, "offerBundle", "([IIII)V"⟩
abbrev cX3_firstWay : ByteArray := prog_5_method_7_code
def yX3_firstWay : MethodName := ⟨RX3, "firstWay", "([I[IIII)I"⟩
abbrev cX3_figureOf : ByteArray := prog_5_method_8_code
def yX3_figureOf : MethodName := ⟨RX3, "figureOf", "(II)I"⟩
def RX4 : String := "UnsaidScales$Moment"
def TX4 : u_T := fun k => match k with
  | 0 => ("UnsaidScales$Moment", "held", "[I", true)
  | 1 => ("UnsaidScales$Moment", "day", "I", false)
  | _ => ("UnsaidScales$Moment", "pairs", "I", false)
def tyX4 : Nat → FieldType := fun k => match k with
  | 0 => .array .int
  | 1 => .int
  | _ => .int
abbrev wsX40 : List Cond := u_ws RX4 TX4 3
theorem nmX4 : ∀ a, a < 3 → ∀ b, b < 3 → a ≠ b → (TX4 a).2.1 ≠ (TX4 b).2.1 := by decide +kernel
theorem tyX4_ok : ∀ k, k < 3 → parseFieldDescriptor (TX4 k).2.2.1 = some (tyX4 k) := by decide +kernel
abbrev cX4_init : ByteArray := prog_6_method_1_code
def yX4_init : MethodName := ⟨RX4, "<init>", "()V"⟩
abbrev cX4_begin : ByteArray := prog_6_method_2_code
def yX4_begin : MethodName := ⟨RX4, "begin", "(LUnsaidScales$ToldShop;)V"⟩
abbrev cX4_copyFrom : ByteArray := prog_6_method_3_code
def yX4_copyFrom : MethodName := ⟨RX4, "copyFrom", "(LUnsaidScales$Moment;)V"⟩
abbrev cX4_add : ByteArray := prog_6_method_4_code
def yX4_add : MethodName := ⟨RX4, "add", "(II)V"⟩
def RX5 : String := "UnsaidScales$OrderTable"
def TX5 : u_T := fun k => match k with
  | 0 => ("UnsaidScales$OrderTable", "plans", "[S", true)
  | 1 => ("UnsaidScales$OrderTable", "heavierOnes", "[I", true)
  | 2 => ("UnsaidScales$OrderTable", "people", "I", false)
  | _ => ("UnsaidScales$OrderTable", "pairCount", "I", false)
def tyX5 : Nat → FieldType := fun k => match k with
  | 0 => .array .short
  | 1 => .array .int
  | 2 => .int
  | _ => .int
abbrev wsX50 : List Cond := u_ws RX5 TX5 4
theorem nmX5 : ∀ a, a < 4 → ∀ b, b < 4 → a ≠ b → (TX5 a).2.1 ≠ (TX5 b).2.1 := by decide +kernel
theorem tyX5_ok : ∀ k, k < 4 → parseFieldDescriptor (TX5 k).2.2.1 = some (tyX5 k) := by decide +kernel
abbrev cX5_init : ByteArray := prog_7_method_1_code
def yX5_init : MethodName := ⟨RX5, "<init>", "()V"⟩
abbrev cX5_prepare : ByteArray := prog_7_method_2_code
def yX5_prepare : MethodName := ⟨RX5, "prepare", "(I)V"⟩
abbrev cX5_ordersLeft : ByteArray := prog_7_method_3_code
def yX5_ordersLeft : MethodName := ⟨RX5, "ordersLeft", "(I)I"⟩
abbrev cX5_worstOf : ByteArray := prog_7_method_4_code
def yX5_worstOf : MethodName := ⟨RX5, "worstOf", "(I)I"⟩
abbrev cX5_nextPair : ByteArray := prog_7_method_5_code
def yX5_nextPair : MethodName := ⟨RX5, "nextPair", "(I)I"⟩
abbrev cX5_countOrders : ByteArray := prog_7_method_6_code
def yX5_countOrders : MethodName := ⟨RX5, "countOrders", "(I)I"⟩
abbrev cX5_leastBehind : ByteArray := prog_7_method_7_code
def yX5_leastBehind : MethodName := ⟨RX5, "leastBehind", "(I)I"⟩
abbrev cX5_worstBehind : ByteArray := prog_7_method_8_code
def yX5_worstBehind : MethodName := ⟨RX5, "worstBehind", "(II)I"⟩
abbrev cX5_isOrder : ByteArray := prog_7_method_9_code
def yX5_isOrder : MethodName := ⟨RX5, "isOrder", "(I)Z"⟩
abbrev cX5_countHeavierOnes : ByteArray := prog_7_method_10_code
def yX5_countHeavierOnes : MethodName := ⟨RX5, "countHeavierOnes", "(I)V"⟩
abbrev cX5_dueFinding : ByteArray := prog_7_method_11_code
def yX5_dueFinding : MethodName := ⟨RX5, "dueFinding", "(II)I"⟩
def RX6 : String := "UnsaidScales$TextReader"
def TX6 : u_T := fun k => match k with
  | 0 => ("UnsaidScales$TextReader", "letters", "[C", true)
  | 1 => ("UnsaidScales$TextReader", "length", "I", false)
  | 2 => ("UnsaidScales$TextReader", "at", "I", false)
  | _ => ("UnsaidScales$TextReader", "fault", "I", false)
def tyX6 : Nat → FieldType := fun k => match k with
  | 0 => .array .char
  | 1 => .int
  | 2 => .int
  | _ => .int
abbrev wsX60 : List Cond := u_ws RX6 TX6 4
theorem nmX6 : ∀ a, a < 4 → ∀ b, b < 4 → a ≠ b → (TX6 a).2.1 ≠ (TX6 b).2.1 := by decide +kernel
theorem tyX6_ok : ∀ k, k < 4 → parseFieldDescriptor (TX6 k).2.2.1 = some (tyX6 k) := by decide +kernel
abbrev cX6_init : ByteArray := prog_8_method_1_code
def yX6_init : MethodName := ⟨RX6, "<init>", "()V"⟩
abbrev cX6_append : ByteArray := prog_8_method_2_code
def yX6_append : MethodName := ⟨RX6, "append", "(C)Z"⟩
abbrev cX6_hasFault : ByteArray := prog_8_method_3_code
def yX6_hasFault : MethodName := ⟨RX6, "hasFault", "()Z"⟩
abbrev cX6_readInto : ByteArray := prog_8_method_4_code
def yX6_readInto : MethodName := ⟨RX6, "readInto", "(LUnsaidScales$ToldShop;)I"⟩
abbrev cX6_readItem : ByteArray := prog_8_method_5_code
def yX6_readItem : MethodName := ⟨RX6, "readItem", "(LUnsaidScales$ToldShop;)V"⟩
abbrev cX6_readWeight : ByteArray := prog_8_method_6_code
def yX6_readWeight : MethodName := ⟨RX6, "readWeight", "(LUnsaidScales$ToldShop;)V"⟩
abbrev cX6_readPerson : ByteArray := prog_8_method_7_code
def yX6_readPerson : MethodName := ⟨RX6, "readPerson", "(LUnsaidScales$ToldShop;)V"⟩
abbrev cX6_readGrowth : ByteArray := prog_8_method_8_code
def yX6_readGrowth : MethodName := ⟨RX6, "readGrowth", "(LUnsaidScales$ToldShop;)V"⟩
abbrev cX6_readPiece : ByteArray := prog_8_method_9_code
def yX6_readPiece : MethodName := ⟨RX6, "readPiece", "(LUnsaidScales$ToldShop;)V"⟩
abbrev cX6_readNumber : ByteArray := prog_8_method_10_code
def yX6_readNumber : MethodName := ⟨RX6, "readNumber", "(II)I"⟩
abbrev cX6_readEnd : ByteArray := prog_8_method_11_code
def yX6_readEnd : MethodName := ⟨RX6, "readEnd", "()V"⟩
abbrev cX6_skipBlanks : ByteArray := prog_8_method_12_code
def yX6_skipBlanks : MethodName := ⟨RX6, "skipBlanks", "()V"⟩
abbrev cX6_isFigure : ByteArray := prog_8_method_13_code
def yX6_isFigure : MethodName := ⟨RX6, "isFigure", "(C)Z"⟩
def RX7 : String := "UnsaidScales$ToldShop"
def TX7 : u_T := fun k => match k with
  | 0 => ("UnsaidScales$ToldShop", "weights", "[I", true)
  | 1 => ("UnsaidScales$ToldShop", "firstHeld", "[I", true)
  | 2 => ("UnsaidScales$ToldShop", "growth", "[I", true)
  | 3 => ("UnsaidScales$ToldShop", "pieces", "[I", true)
  | 4 => ("UnsaidScales$ToldShop", "people", "I", false)
  | _ => ("UnsaidScales$ToldShop", "pieceCount", "I", false)
def tyX7 : Nat → FieldType := fun k => match k with
  | 0 => .array .int
  | 1 => .array .int
  | 2 => .array .int
  | 3 => .array .int
  | 4 => .int
  | _ => .int
abbrev wsX70 : List Cond := u_ws RX7 TX7 6
theorem nmX7 : ∀ a, a < 6 → ∀ b, b < 6 → a ≠ b → (TX7 a).2.1 ≠ (TX7 b).2.1 := by decide +kernel
theorem tyX7_ok : ∀ k, k < 6 → parseFieldDescriptor (TX7 k).2.2.1 = some (tyX7 k) := by decide +kernel
abbrev cX7_init : ByteArray := prog_9_method_1_code
def yX7_init : MethodName := ⟨RX7, "<init>", "()V"⟩
abbrev cX7_makeEmpty : ByteArray := prog_9_method_2_code
def yX7_makeEmpty : MethodName := ⟨RX7, "makeEmpty", "()V"⟩
abbrev cX7_copyFrom : ByteArray := prog_9_method_3_code
def yX7_copyFrom : MethodName := ⟨RX7, "copyFrom", "(LUnsaidScales$ToldShop;)V"⟩
def RX8 : String := "UnsaidScales"
def TX8 : u_T := fun k => match k with
  | 0 => ("UnsaidScales", "text", "LUnsaidScales$TextReader;", true)
  | 1 => ("UnsaidScales", "told", "LUnsaidScales$ToldShop;", true)
  | 2 => ("UnsaidScales", "draft", "LUnsaidScales$ToldShop;", true)
  | 3 => ("UnsaidScales", "present", "LUnsaidScales$Moment;", true)
  | 4 => ("UnsaidScales", "history", "LUnsaidScales$History;", true)
  | 5 => ("UnsaidScales", "images", "[LUnsaidScales$Moment;", true)
  | 6 => ("UnsaidScales", "kept", "[Z", true)
  | 7 => ("UnsaidScales", "orders", "LUnsaidScales$OrderTable;", true)
  | 8 => ("UnsaidScales", "drawer", "LUnsaidScales$Drawer;", true)
  | 9 => ("UnsaidScales", "leastSaid", "LUnsaidScales$LeastSaid;", true)
  | 10 => ("UnsaidScales", "evidence", "LUnsaidScales$Evidence;", true)
  | _ => ("UnsaidScales", "traced", "J", false)
def tyX8 : Nat → FieldType := fun k => match k with
  | 0 => .object "UnsaidScales$TextReader"
  | 1 => .object "UnsaidScales$ToldShop"
  | 2 => .object "UnsaidScales$ToldShop"
  | 3 => .object "UnsaidScales$Moment"
  | 4 => .object "UnsaidScales$History"
  | 5 => .array (.object "UnsaidScales$Moment")
  | 6 => .array .boolean
  | 7 => .object "UnsaidScales$OrderTable"
  | 8 => .object "UnsaidScales$Drawer"
  | 9 => .object "UnsaidScales$LeastSaid"
  | 10 => .object "UnsaidScales$Evidence"
  | _ => .long
abbrev wsX80 : List Cond := u_ws RX8 TX8 12
theorem nmX8 : ∀ a, a < 12 → ∀ b, b < 12 → a ≠ b → (TX8 a).2.1 ≠ (TX8 b).2.1 := by decide +kernel
theorem tyX8_ok : ∀ k, k < 12 → parseFieldDescriptor (TX8 k).2.2.1 = some (tyX8 k) := by decide +kernel
abbrev cX8_init : ByteArray := prog_1_method_1_code
def yX8_init : MethodName := ⟨RX8, "<init>", "()V"⟩
abbrev cX8_type : ByteArray := prog_1_method_2_code
def yX8_type : MethodName := ⟨RX8, "type", "(I)I"⟩
abbrev cX8_clear : ByteArray := prog_1_method_3_code
def yX8_clear : MethodName := ⟨RX8, "clear", "()I"⟩
abbrev cX8_shop : ByteArray := prog_1_method_4_code
def yX8_shop : MethodName := ⟨RX8, "shop", "()I"⟩
abbrev cX8_holds : ByteArray := prog_1_method_5_code
def yX8_holds : MethodName := ⟨RX8, "holds", "(II)I"⟩
abbrev cX8_grows : ByteArray := prog_1_method_6_code
def yX8_grows : MethodName := ⟨RX8, "grows", "(II)I"⟩
abbrev cX8_weight : ByteArray := prog_1_method_7_code
def yX8_weight : MethodName := ⟨RX8, "weight", "(I)I"⟩
abbrev cX8_heavy : ByteArray := prog_1_method_8_code
def yX8_heavy : MethodName := ⟨RX8, "heavy", "(I)I"⟩
abbrev cX8_known : ByteArray := prog_1_method_9_code
def yX8_known : MethodName := ⟨RX8, "known", "(II)I"⟩
abbrev cX8_now : ByteArray := prog_1_method_10_code
def yX8_now : MethodName := ⟨RX8, "now", "(I)I"⟩
abbrev cX8_tells : ByteArray := prog_1_method_11_code
def yX8_tells : MethodName := ⟨RX8, "tells", "(III)I"⟩
abbrev cX8_keeps : ByteArray := prog_1_method_12_code
def yX8_keeps : MethodName := ⟨RX8, "keeps", "(II)I"⟩
abbrev cX8_day : ByteArray := prog_1_method_13_code
def yX8_day : MethodName := ⟨RX8, "day", "()I"⟩
abbrev cX8_weighs : ByteArray := prog_1_method_14_code
def yX8_weighs : MethodName := ⟨RX8, "weighs", "(II)I"⟩
abbrev cX8_forgets : ByteArray := prog_1_method_15_code
def yX8_forgets : MethodName := ⟨RX8, "forgets", "()I"⟩
abbrev cX8_undo : ByteArray := prog_1_method_16_code
def yX8_undo : MethodName := ⟨RX8, "undo", "()I"⟩
abbrev cX8_beam : ByteArray := prog_1_method_17_code
def yX8_beam : MethodName := ⟨RX8, "beam", "(II)I"⟩
abbrev cX8_level : ByteArray := prog_1_method_18_code
def yX8_level : MethodName := ⟨RX8, "level", "(III)I"⟩
abbrev cX8_when : ByteArray := prog_1_method_19_code
def yX8_when : MethodName := ⟨RX8, "when", "(II)I"⟩
abbrev cX8_odds : ByteArray := prog_1_method_20_code
def yX8_odds : MethodName := ⟨RX8, "odds", "(IIIII)J"⟩
abbrev cX8_brass : ByteArray := prog_1_method_21_code
def yX8_brass : MethodName := ⟨RX8, "brass", "(II)I"⟩
abbrev cX8_shows : ByteArray := prog_1_method_22_code
def yX8_shows : MethodName := ⟨RX8, "shows", "(III)I"⟩
abbrev cX8_can : ByteArray := prog_1_method_23_code
def yX8_can : MethodName := ⟨RX8, "can", "(II)I"⟩
abbrev cX8_saw : ByteArray := prog_1_method_24_code
def yX8_saw : MethodName := ⟨RX8, "saw", "(II)I"⟩
abbrev cX8_laws : ByteArray := prog_1_method_25_code
def yX8_laws : MethodName := ⟨RX8, "laws", "(II)I"⟩
abbrev cX8_clean : ByteArray := prog_1_method_26_code
def yX8_clean : MethodName := ⟨RX8, "clean", "()I"⟩
abbrev cX8_rate : ByteArray := prog_1_method_27_code
def yX8_rate : MethodName := ⟨RX8, "rate", "(II)I"⟩
abbrev cX8_keep : ByteArray := prog_1_method_28_code
def yX8_keep : MethodName := ⟨RX8, "keep", "(I)I"⟩
abbrev cX8_back : ByteArray := prog_1_method_29_code
def yX8_back : MethodName := ⟨RX8, "back", "(I)I"⟩
abbrev cX8_count : ByteArray := prog_1_method_30_code
def yX8_count : MethodName := ⟨RX8, "count", "(I)I"⟩
abbrev cX8_trace : ByteArray := prog_1_method_31_code
def yX8_trace : MethodName := ⟨RX8, "trace", "()J"⟩
abbrev cX8_beginAnew : ByteArray := prog_1_method_32_code
def yX8_beginAnew : MethodName := ⟨RX8, "beginAnew", "()V"⟩
abbrev cX8_within : ByteArray := prog_1_method_33_code
def yX8_within : MethodName := ⟨RX8, "within", "(III)Z"⟩
abbrev cX8_isSort : ByteArray := prog_1_method_34_code
def yX8_isSort : MethodName := ⟨RX8, "isSort", "(I)Z"⟩
abbrev cX8_isPerson : ByteArray := prog_1_method_35_code
def yX8_isPerson : MethodName := ⟨RX8, "isPerson", "(I)Z"⟩
abbrev cX8_isPair : ByteArray := prog_1_method_36_code
def yX8_isPair : MethodName := ⟨RX8, "isPair", "(II)Z"⟩
abbrev cX8_heavinessOf : ByteArray := prog_1_method_37_code
def yX8_heavinessOf : MethodName := ⟨RX8, "heavinessOf", "(I)I"⟩
abbrev cX8_heavinessAhead : ByteArray := prog_1_method_38_code
def yX8_heavinessAhead : MethodName := ⟨RX8, "heavinessAhead", "(II)I"⟩
abbrev cX8_pairOf : ByteArray := prog_1_method_39_code
def yX8_pairOf : MethodName := ⟨RX8, "pairOf", "(II)I"⟩
abbrev cX8_foundOf : ByteArray := prog_1_method_40_code
def yX8_foundOf : MethodName := ⟨RX8, "foundOf", "(II)I"⟩
abbrev cX8_withFound : ByteArray := prog_1_method_41_code
def yX8_withFound : MethodName := ⟨RX8, "withFound", "(III)I"⟩
abbrev cX8_compareLower : ByteArray := prog_1_method_42_code
def yX8_compareLower : MethodName := ⟨RX8, "compareLower", "(II)I"⟩
abbrev cX8_knownOf : ByteArray := prog_1_method_43_code
def yX8_knownOf : MethodName := ⟨RX8, "knownOf", "(II)I"⟩
abbrev cX8_knownPairs : ByteArray := prog_1_method_44_code
def yX8_knownPairs : MethodName := ⟨RX8, "knownPairs", "()I"⟩
abbrev cX8_planned : ByteArray := prog_1_method_45_code
def yX8_planned : MethodName := ⟨RX8, "planned", "(I)I"⟩
abbrev cX8_lighterWays : ByteArray := prog_1_method_46_code
def yX8_lighterWays : MethodName := ⟨RX8, "lighterWays", "(IIII)J"⟩
abbrev cX8_power : ByteArray := prog_1_method_47_code
def yX8_power : MethodName := ⟨RX8, "power", "(II)J"⟩
abbrev cX8_commonDivisor : ByteArray := prog_1_method_48_code
def yX8_commonDivisor : MethodName := ⟨RX8, "commonDivisor", "(JJ)J"⟩
abbrev cX8_asPerson : ByteArray := prog_1_method_49_code
def yX8_asPerson : MethodName := ⟨RX8, "asPerson", "(I)I"⟩
abbrev cX8_asBride : ByteArray := prog_1_method_50_code
def yX8_asBride : MethodName := ⟨RX8, "asBride", "(I)I"⟩
abbrev cX8_asPartner : ByteArray := prog_1_method_51_code
def yX8_asPartner : MethodName := ⟨RX8, "asPartner", "(I)I"⟩
abbrev cX8_asBrother : ByteArray := prog_1_method_52_code
def yX8_asBrother : MethodName := ⟨RX8, "asBrother", "(I)I"⟩
abbrev cX8_asBankrupt : ByteArray := prog_1_method_53_code
def yX8_asBankrupt : MethodName := ⟨RX8, "asBankrupt", "(I)I"⟩
abbrev cX8_asStranger : ByteArray := prog_1_method_54_code
def yX8_asStranger : MethodName := ⟨RX8, "asStranger", "(I)I"⟩
abbrev cX8_sumOfSorts : ByteArray := prog_1_method_55_code
def yX8_sumOfSorts : MethodName := ⟨RX8, "sumOfSorts", "([II)I"⟩
def RX9 : String := "UnsaidScalesModel"
def TX9 : u_T := fun k => match k with
  | 0 => ("UnsaidScalesModel", "thrown", "I", false)
  | 1 => ("UnsaidScalesModel", "trace", "J", false)
  | 2 => ("UnsaidScalesModel", "text", "[I", true)
  | 3 => ("UnsaidScalesModel", "typed", "I", false)
  | 4 => ("UnsaidScalesModel", "next", "I", false)
  | 5 => ("UnsaidScalesModel", "token", "I", false)
  | 6 => ("UnsaidScalesModel", "place", "I", false)
  | 7 => ("UnsaidScalesModel", "value", "I", false)
  | 8 => ("UnsaidScalesModel", "fault", "I", false)
  | 9 => ("UnsaidScalesModel", "many", "[I", true)
  | 10 => ("UnsaidScalesModel", "weight", "[I", true)
  | 11 => ("UnsaidScalesModel", "begun", "[I", true)
  | 12 => ("UnsaidScalesModel", "grows", "[I", true)
  | 13 => ("UnsaidScalesModel", "brass", "[I", true)
  | 14 => ("UnsaidScalesModel", "s", "[I", true)
  | 15 => ("UnsaidScalesModel", "kept", "[I", true)
  | 16 => ("UnsaidScalesModel", "isKept", "[Z", true)
  | 17 => ("UnsaidScalesModel", "undos", "[I", true)
  | 18 => ("UnsaidScalesModel", "undoMany", "I", false)
  | 19 => ("UnsaidScalesModel", "shownOf", "[I", true)
  | 20 => ("UnsaidScalesModel", "shownBrass", "[I", true)
  | 21 => ("UnsaidScalesModel", "shownHow", "[I", true)
  | 22 => ("UnsaidScalesModel", "shown", "I", false)
  | 23 => ("UnsaidScalesModel", "seenOf", "[I", true)
  | 24 => ("UnsaidScalesModel", "seenMore", "[I", true)
  | 25 => ("UnsaidScalesModel", "seen", "I", false)
  | 26 => ("UnsaidScalesModel", "orders", "[I", true)
  | 27 => ("UnsaidScalesModel", "orderMany", "I", false)
  | 28 => ("UnsaidScalesModel", "ordersBy", "[I", true)
  | 29 => ("UnsaidScalesModel", "worstBy", "[I", true)
  | 30 => ("UnsaidScalesModel", "fewest", "[I", true)
  | 31 => ("UnsaidScalesModel", "canWeigh", "[Z", true)
  | 32 => ("UnsaidScalesModel", "pan", "I", false)
  | _ => ("UnsaidScalesModel", "otherPan", "I", false)
def tyX9 : Nat → FieldType := fun k => match k with
  | 0 => .int
  | 1 => .long
  | 2 => .array .int
  | 3 => .int
  | 4 => .int
  | 5 => .int
  | 6 => .int
  | 7 => .int
  | 8 => .int
  | 9 => .array .int
  | 10 => .array .int
  | 11 => .array .int
  | 12 => .array .int
  | 13 => .array .int
  | 14 => .array .int
  | 15 => .array .int
  | 16 => .array .boolean
  | 17 => .array .int
  | 18 => .int
  | 19 => .array .int
  | 20 => .array .int
  | 21 => .array .int
  | 22 => .int
  | 23 => .array .int
  | 24 => .array .int
  | 25 => .int
  | 26 => .array .int
  | 27 => .int
  | 28 => .array .int
  | 29 => .array .int
  | 30 => .array .int
  | 31 => .array .boolean
  | 32 => .int
  | _ => .int
abbrev wsX90 : List Cond := u_ws RX9 TX9 34
theorem nmX9 : ∀ a, a < 34 → ∀ b, b < 34 → a ≠ b → (TX9 a).2.1 ≠ (TX9 b).2.1 := by decide +kernel
theorem tyX9_ok : ∀ k, k < 34 → parseFieldDescriptor (TX9 k).2.2.1 = some (tyX9 k) := by decide +kernel
abbrev cX9_init : ByteArray := prog_11_method_1_code
def yX9_init : MethodName := ⟨RX9, "<init>", "()V"⟩
abbrev cX9_in : ByteArray := prog_11_method_3_code
def yX9_in : MethodName := ⟨RX9, "in", "(III)Z"⟩
abbrev cX9_type : ByteArray := prog_11_method_4_code
def yX9_type : MethodName := ⟨RX9, "type", "(I)I"⟩
abbrev cX9_clear : ByteArray := prog_11_method_5_code
def yX9_clear : MethodName := ⟨RX9, "clear", "()I"⟩
abbrev cX9_letterAt : ByteArray := prog_11_method_6_code
def yX9_letterAt : MethodName := ⟨RX9, "letterAt", "(I)I"⟩
abbrev cX9_advances : ByteArray := prog_11_method_7_code
def yX9_advances : MethodName := ⟨RX9, "advances", "()V"⟩
abbrev cX9_isWell : ByteArray := prog_11_method_8_code
def yX9_isWell : MethodName := ⟨RX9, "isWell", "()Z"⟩
abbrev cX9_takes : ByteArray := prog_11_method_9_code
def yX9_takes : MethodName := ⟨RX9, "takes", "(Z)I"⟩
abbrev cX9_number : ByteArray := prog_11_method_10_code
def yX9_number : MethodName := ⟨RX9, "number", "(II)I"⟩
abbrev cX9_begins : ByteArray := prog_11_method_11_code
def yX9_begins : MethodName := ⟨RX9, "begins", "()V"⟩
abbrev cX9_readsItem : ByteArray := prog_11_method_12_code
def yX9_readsItem : MethodName := ⟨RX9, "readsItem", "(I)V"⟩
abbrev cX9_mayBegin : ByteArray := prog_11_method_13_code
def yX9_mayBegin : MethodName := ⟨RX9, "mayBegin", "()Z"⟩
abbrev cX9_shop : ByteArray := prog_11_method_14_code
def yX9_shop : MethodName := ⟨RX9, "shop", "()I"⟩
abbrev cX9_settles : ByteArray := prog_11_method_15_code
def yX9_settles : MethodName := ⟨RX9, "settles", "()V"⟩
abbrev cX9_isPerson : ByteArray := prog_11_method_16_code
def yX9_isPerson : MethodName := ⟨RX9, "isPerson", "(I)Z"⟩
abbrev cX9_isSort : ByteArray := prog_11_method_17_code
def yX9_isSort : MethodName := ⟨RX9, "isSort", "(I)Z"⟩
abbrev cX9_isPair : ByteArray := prog_11_method_18_code
def yX9_isPair : MethodName := ⟨RX9, "isPair", "(II)Z"⟩
abbrev cX9_heaviness : ByteArray := prog_11_method_19_code
def yX9_heaviness : MethodName := ⟨RX9, "heaviness", "(I)I"⟩
abbrev cX9_holds : ByteArray := prog_11_method_20_code
def yX9_holds : MethodName := ⟨RX9, "holds", "(II)I"⟩
abbrev cX9_grows : ByteArray := prog_11_method_21_code
def yX9_grows : MethodName := ⟨RX9, "grows", "(II)I"⟩
abbrev cX9_weight : ByteArray := prog_11_method_22_code
def yX9_weight : MethodName := ⟨RX9, "weight", "(I)I"⟩
abbrev cX9_heavy : ByteArray := prog_11_method_23_code
def yX9_heavy : MethodName := ⟨RX9, "heavy", "(I)I"⟩
abbrev cX9_pairOf : ByteArray := prog_11_method_24_code
def yX9_pairOf : MethodName := ⟨RX9, "pairOf", "(II)I"⟩
abbrev cX9_lowerOf : ByteArray := prog_11_method_25_code
def yX9_lowerOf : MethodName := ⟨RX9, "lowerOf", "(I)I"⟩
abbrev cX9_upperOf : ByteArray := prog_11_method_26_code
def yX9_upperOf : MethodName := ⟨RX9, "upperOf", "(I)I"⟩
abbrev cX9_isPairNumber : ByteArray := prog_11_method_27_code
def yX9_isPairNumber : MethodName := ⟨RX9, "isPairNumber", "(I)Z"⟩
abbrev cX9_turned : ByteArray := prog_11_method_28_code
def yX9_turned : MethodName := ⟨RX9, "turned", "(I)I"⟩
abbrev cX9_known : ByteArray := prog_11_method_29_code
def yX9_known : MethodName := ⟨RX9, "known", "(II)I"⟩
abbrev cX9_orders : ByteArray := prog_11_method_30_code
def yX9_orders : MethodName := ⟨RX9, "orders", "()V"⟩
abbrev cX9_worsts : ByteArray := prog_11_method_31_code
def yX9_worsts : MethodName := ⟨RX9, "worsts", "()V"⟩
abbrev cX9_worstBehind : ByteArray := prog_11_method_32_code
def yX9_worstBehind : MethodName := ⟨RX9, "worstBehind", "(II)I"⟩
abbrev cX9_codeNow : ByteArray := prog_11_method_33_code
def yX9_codeNow : MethodName := ⟨RX9, "codeNow", "()I"⟩
abbrev cX9_nextPair : ByteArray := prog_11_method_34_code
def yX9_nextPair : MethodName := ⟨RX9, "nextPair", "()I"⟩
abbrev cX9_knownMany : ByteArray := prog_11_method_35_code
def yX9_knownMany : MethodName := ⟨RX9, "knownMany", "()I"⟩
abbrev cX9_range : ByteArray := prog_11_method_36_code
def yX9_range : MethodName := ⟨RX9, "range", "()I"⟩
abbrev cX9_now : ByteArray := prog_11_method_37_code
def yX9_now : MethodName := ⟨RX9, "now", "(I)I"⟩
abbrev cX9_notes : ByteArray := prog_11_method_38_code
def yX9_notes : MethodName := ⟨RX9, "notes", "()V"⟩
abbrev cX9_gets : ByteArray := prog_11_method_39_code
def yX9_gets : MethodName := ⟨RX9, "gets", "(III)V"⟩
abbrev cX9_tells : ByteArray := prog_11_method_40_code
def yX9_tells : MethodName := ⟨RX9, "tells", "(III)I"⟩
abbrev cX9_keeps : ByteArray := prog_11_method_41_code
def yX9_keeps : MethodName := ⟨RX9, "keeps", "(II)I"⟩
abbrev cX9_day : ByteArray := prog_11_method_42_code
def yX9_day : MethodName := ⟨RX9, "day", "()I"⟩
abbrev cX9_weighs : ByteArray := prog_11_method_43_code
def yX9_weighs : MethodName := ⟨RX9, "weighs", "(II)I"⟩
abbrev cX9_forgets : ByteArray := prog_11_method_44_code
def yX9_forgets : MethodName := ⟨RX9, "forgets", "()I"⟩
abbrev cX9_undo : ByteArray := prog_11_method_45_code
def yX9_undo : MethodName := ⟨RX9, "undo", "()I"⟩
abbrev cX9_beam : ByteArray := prog_11_method_46_code
def yX9_beam : MethodName := ⟨RX9, "beam", "(II)I"⟩
abbrev cX9_sheds : ByteArray := prog_11_method_47_code
def yX9_sheds : MethodName := ⟨RX9, "sheds", "(II)V"⟩
abbrev cX9_canSay : ByteArray := prog_11_method_48_code
def yX9_canSay : MethodName := ⟨RX9, "canSay", "(II)Z"⟩
abbrev cX9_weighsOf : ByteArray := prog_11_method_49_code
def yX9_weighsOf : MethodName := ⟨RX9, "weighsOf", "(I)I"⟩
abbrev cX9_wayOf : ByteArray := prog_11_method_50_code
def yX9_wayOf : MethodName := ⟨RX9, "wayOf", "(III)I"⟩
abbrev cX9_level : ByteArray := prog_11_method_51_code
def yX9_level : MethodName := ⟨RX9, "level", "(III)I"⟩
abbrev cX9_heavinessThen : ByteArray := prog_11_method_52_code
def yX9_heavinessThen : MethodName := ⟨RX9, "heavinessThen", "(II)I"⟩
abbrev cX9_when : ByteArray := prog_11_method_53_code
def yX9_when : MethodName := ⟨RX9, "when", "(II)I"⟩
abbrev cX9_gcd : ByteArray := prog_11_method_54_code
def yX9_gcd : MethodName := ⟨RX9, "gcd", "(JJ)J"⟩
abbrev cX9_odds : ByteArray := prog_11_method_55_code
def yX9_odds : MethodName := ⟨RX9, "odds", "(IIIII)J"⟩
abbrev cX9_sumOf : ByteArray := prog_11_method_56_code
def yX9_sumOf : MethodName := ⟨RX9, "sumOf", "(I)I"⟩
abbrev cX9_pieces : ByteArray := prog_11_method_57_code
def yX9_pieces : MethodName := ⟨RX9, "pieces", "(I)I"⟩
abbrev cX9_brass : ByteArray := prog_11_method_58_code
def yX9_brass : MethodName := ⟨RX9, "brass", "(II)I"⟩
abbrev cX9_shows : ByteArray := prog_11_method_59_code
def yX9_shows : MethodName := ⟨RX9, "shows", "(III)I"⟩
abbrev cX9_isAsShown : ByteArray := prog_11_method_60_code
def yX9_isAsShown : MethodName := ⟨RX9, "isAsShown", "(II)Z"⟩
abbrev cX9_can : ByteArray := prog_11_method_61_code
def yX9_can : MethodName := ⟨RX9, "can", "(II)I"⟩
abbrev cX9_saw : ByteArray := prog_11_method_62_code
def yX9_saw : MethodName := ⟨RX9, "saw", "(II)I"⟩
abbrev cX9_laws : ByteArray := prog_11_method_63_code
def yX9_laws : MethodName := ⟨RX9, "laws", "(II)I"⟩
abbrev cX9_clean : ByteArray := prog_11_method_64_code
def yX9_clean : MethodName := ⟨RX9, "clean", "()I"⟩
abbrev cX9_rate : ByteArray := prog_11_method_65_code
def yX9_rate : MethodName := ⟨RX9, "rate", "(II)I"⟩
abbrev cX9_keep : ByteArray := prog_11_method_66_code
def yX9_keep : MethodName := ⟨RX9, "keep", "(I)I"⟩
abbrev cX9_back : ByteArray := prog_11_method_67_code
def yX9_back : MethodName := ⟨RX9, "back", "(I)I"⟩
abbrev cX9_count : ByteArray := prog_11_method_68_code
def yX9_count : MethodName := ⟨RX9, "count", "(I)I"⟩
abbrev cX9_trace : ByteArray := prog_11_method_69_code
def yX9_trace : MethodName := ⟨RX9, "trace", "()J"⟩
def RJ6 : String := "java/lang/Integer"
def TJ6 : u_T := fun k => match k with
  | _ => ("", "", "", false)
def tyJ6 : Nat → FieldType := fun k => match k with
  | _ => .int
abbrev wsJ60 : List Cond := u_ws RJ6 TJ6 0
theorem nmJ6 : ∀ a, a < 0 → ∀ b, b < 0 → a ≠ b → (TJ6 a).2.1 ≠ (TJ6 b).2.1 := by decide +kernel
theorem tyJ6_ok : ∀ k, k < 0 → parseFieldDescriptor (TJ6 k).2.2.1 = some (tyJ6 k) := by decide +kernel
abbrev cJ6_bitCount_0f7a4 : ByteArray := prog_12_method_49_code
def yJ6_bitCount_0f7a4 : MethodName := ⟨RJ6, "bitCount", "(I)I"⟩
def RJ9 : String := "java/lang/Math"
def TJ9 : u_T := fun k => match k with
  | _ => ("", "", "", false)
def tyJ9 : Nat → FieldType := fun k => match k with
  | _ => .int
abbrev wsJ90 : List Cond := u_ws RJ9 TJ9 0
theorem nmJ9 : ∀ a, a < 0 → ∀ b, b < 0 → a ≠ b → (TJ9 a).2.1 ≠ (TJ9 b).2.1 := by decide +kernel
theorem tyJ9_ok : ∀ k, k < 0 → parseFieldDescriptor (TJ9 k).2.2.1 = some (tyJ9 k) := by decide +kernel
abbrev cJ9_max_7cf53 : ByteArray := prog_13_method_65_code
def yJ9_max_7cf53 : MethodName := ⟨RJ9, "max", "(II)I"⟩
abbrev cJ9_min_7cf53 : ByteArray := prog_13_method_69_code
def yJ9_min_7cf53 : MethodName := ⟨RJ9, "min", "(II)I"⟩
def RJ10 : String := "java/lang/System"
def TJ10 : u_T := fun k => match k with
  | _ => ("", "", "", false)
def tyJ10 : Nat → FieldType := fun k => match k with
  | _ => .int
abbrev wsJ100 : List Cond := u_ws RJ10 TJ10 0
theorem nmJ10 : ∀ a, a < 0 → ∀ b, b < 0 → a ≠ b → (TJ10 a).2.1 ≠ (TJ10 b).2.1 := by decide +kernel
theorem tyJ10_ok : ∀ k, k < 0 → parseFieldDescriptor (TJ10 k).2.2.1 = some (tyJ10 k) := by decide +kernel
def RJ7 : String := "java/util/Arrays"
def TJ7 : u_T := fun k => match k with
  | _ => ("", "", "", false)
def tyJ7 : Nat → FieldType := fun k => match k with
  | _ => .int
abbrev wsJ70 : List Cond := u_ws RJ7 TJ7 0
theorem nmJ7 : ∀ a, a < 0 → ∀ b, b < 0 → a ≠ b → (TJ7 a).2.1 ≠ (TJ7 b).2.1 := by decide +kernel
theorem tyJ7_ok : ∀ k, k < 0 → parseFieldDescriptor (TJ7 k).2.2.1 = some (tyJ7 k) := by decide +kernel
abbrev cJ7_fill_53178 : ByteArray := prog_15_method_103_code
def yJ7_fill_53178 : MethodName := ⟨RJ7, "fill", "([II)V"⟩
def RL : String := "UnsaidScalesLaw"
abbrev cL_law : ByteArray := code
def yL_law : MethodName := ⟨RL, "law", "([I)Z"⟩
abbrev vwCl : List vw_C := [(RX0, TX0, 2), (RX1, TX1, 9), (RX2, TX2, 3), (RX3, TX3, 6), (RX4, TX4, 3), (RX5, TX5, 4), (RX6, TX6, 4), (RX7, TX7, 6), (RX8, TX8, 12), (RX9, TX9, 34)]
