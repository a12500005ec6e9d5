section
-- ===== PART A: goes FIRST, ahead of the names: the tables' words, and 'selects' of the private methods out of them =====
/-- a private method of a class that the tables say can be made, by its rows of tables_1 -/
def lw_okq (q : MethodName × Nat) : Prop := (q.1.cls ≠ "java/lang/invoke/MethodHandle" ∧ q.1.cls ≠ "java/lang/invoke/VarHandle") ∧ Cond.instantiable q.1.cls q.2 ∈ tables_1 ∧ Cond.privateMethod q.1 ∈ tables_1 ∧ Cond.instanceMethod q.1 ∈ tables_1
theorem lw_p0 : lw_okq (⟨"UnsaidScales", "beginAnew", "()V"⟩, 12) := ⟨⟨by decide +kernel, by decide +kernel⟩, List.mem_of_getElem? (i := 16) (by decide +kernel), List.mem_of_getElem? (i := 234) (by decide +kernel), List.mem_of_getElem? (i := 235) (by decide +kernel)⟩
theorem lw_p1 : lw_okq (⟨"UnsaidScales$Drawer", "offer", "(II)V"⟩, 2) := ⟨⟨by decide +kernel, by decide +kernel⟩, List.mem_of_getElem? (i := 146) (by decide +kernel), List.mem_of_getElem? (i := 251) (by decide +kernel), List.mem_of_getElem? (i := 252) (by decide +kernel)⟩
theorem lw_p2 : lw_okq (⟨"UnsaidScales$TextReader", "skipBlanks", "()V"⟩, 4) := ⟨⟨by decide +kernel, by decide +kernel⟩, List.mem_of_getElem? (i := 24) (by decide +kernel), List.mem_of_getElem? (i := 339) (by decide +kernel), List.mem_of_getElem? (i := 340) (by decide +kernel)⟩
theorem lw_p3 : lw_okq (⟨"UnsaidScales$TextReader", "readItem", "(LUnsaidScales$ToldShop;)V"⟩, 4) := ⟨⟨by decide +kernel, by decide +kernel⟩, List.mem_of_getElem? (i := 24) (by decide +kernel), List.mem_of_getElem? (i := 347) (by decide +kernel), List.mem_of_getElem? (i := 348) (by decide +kernel)⟩
theorem lw_p4 : lw_okq (⟨"UnsaidScales$TextReader", "readWeight", "(LUnsaidScales$ToldShop;)V"⟩, 4) := ⟨⟨by decide +kernel, by decide +kernel⟩, List.mem_of_getElem? (i := 24) (by decide +kernel), List.mem_of_getElem? (i := 351) (by decide +kernel), List.mem_of_getElem? (i := 352) (by decide +kernel)⟩
theorem lw_p5 : lw_okq (⟨"UnsaidScales$TextReader", "readNumber", "(II)I"⟩, 4) := ⟨⟨by decide +kernel, by decide +kernel⟩, List.mem_of_getElem? (i := 24) (by decide +kernel), List.mem_of_getElem? (i := 355) (by decide +kernel), List.mem_of_getElem? (i := 356) (by decide +kernel)⟩
theorem lw_p6 : lw_okq (⟨"UnsaidScales$TextReader", "readEnd", "()V"⟩, 4) := ⟨⟨by decide +kernel, by decide +kernel⟩, List.mem_of_getElem? (i := 24) (by decide +kernel), List.mem_of_getElem? (i := 363) (by decide +kernel), List.mem_of_getElem? (i := 364) (by decide +kernel)⟩
theorem lw_p7 : lw_okq (⟨"UnsaidScales$TextReader", "readPerson", "(LUnsaidScales$ToldShop;)V"⟩, 4) := ⟨⟨by decide +kernel, by decide +kernel⟩, List.mem_of_getElem? (i := 24) (by decide +kernel), List.mem_of_getElem? (i := 367) (by decide +kernel), List.mem_of_getElem? (i := 368) (by decide +kernel)⟩
theorem lw_p8 : lw_okq (⟨"UnsaidScales$TextReader", "readGrowth", "(LUnsaidScales$ToldShop;)V"⟩, 4) := ⟨⟨by decide +kernel, by decide +kernel⟩, List.mem_of_getElem? (i := 24) (by decide +kernel), List.mem_of_getElem? (i := 371) (by decide +kernel), List.mem_of_getElem? (i := 372) (by decide +kernel)⟩
theorem lw_p9 : lw_okq (⟨"UnsaidScales$TextReader", "readPiece", "(LUnsaidScales$ToldShop;)V"⟩, 4) := ⟨⟨by decide +kernel, by decide +kernel⟩, List.mem_of_getElem? (i := 24) (by decide +kernel), List.mem_of_getElem? (i := 375) (by decide +kernel), List.mem_of_getElem? (i := 376) (by decide +kernel)⟩
theorem lw_p10 : lw_okq (⟨"UnsaidScales", "isPerson", "(I)Z"⟩, 12) := ⟨⟨by decide +kernel, by decide +kernel⟩, List.mem_of_getElem? (i := 16) (by decide +kernel), List.mem_of_getElem? (i := 388) (by decide +kernel), List.mem_of_getElem? (i := 389) (by decide +kernel)⟩
theorem lw_p11 : lw_okq (⟨"UnsaidScales", "heavinessOf", "(I)I"⟩, 12) := ⟨⟨by decide +kernel, by decide +kernel⟩, List.mem_of_getElem? (i := 16) (by decide +kernel), List.mem_of_getElem? (i := 407) (by decide +kernel), List.mem_of_getElem? (i := 408) (by decide +kernel)⟩
theorem lw_p12 : lw_okq (⟨"UnsaidScales", "heavinessAhead", "(II)I"⟩, 12) := ⟨⟨by decide +kernel, by decide +kernel⟩, List.mem_of_getElem? (i := 16) (by decide +kernel), List.mem_of_getElem? (i := 411) (by decide +kernel), List.mem_of_getElem? (i := 412) (by decide +kernel)⟩
theorem lw_p13 : lw_okq (⟨"UnsaidScales", "isPair", "(II)Z"⟩, 12) := ⟨⟨by decide +kernel, by decide +kernel⟩, List.mem_of_getElem? (i := 16) (by decide +kernel), List.mem_of_getElem? (i := 422) (by decide +kernel), List.mem_of_getElem? (i := 423) (by decide +kernel)⟩
theorem lw_p14 : lw_okq (⟨"UnsaidScales", "knownOf", "(II)I"⟩, 12) := ⟨⟨by decide +kernel, by decide +kernel⟩, List.mem_of_getElem? (i := 16) (by decide +kernel), List.mem_of_getElem? (i := 426) (by decide +kernel), List.mem_of_getElem? (i := 427) (by decide +kernel)⟩
theorem lw_p15 : lw_okq (⟨"UnsaidScales", "knownPairs", "()I"⟩, 12) := ⟨⟨by decide +kernel, by decide +kernel⟩, List.mem_of_getElem? (i := 16) (by decide +kernel), List.mem_of_getElem? (i := 443) (by decide +kernel), List.mem_of_getElem? (i := 444) (by decide +kernel)⟩
def lw_privs_1 : List (MethodName × Nat) := [(⟨"UnsaidScales", "beginAnew", "()V"⟩, 12), (⟨"UnsaidScales$Drawer", "offer", "(II)V"⟩, 2), (⟨"UnsaidScales$TextReader", "skipBlanks", "()V"⟩, 4), (⟨"UnsaidScales$TextReader", "readItem", "(LUnsaidScales$ToldShop;)V"⟩, 4), (⟨"UnsaidScales$TextReader", "readWeight", "(LUnsaidScales$ToldShop;)V"⟩, 4), (⟨"UnsaidScales$TextReader", "readNumber", "(II)I"⟩, 4), (⟨"UnsaidScales$TextReader", "readEnd", "()V"⟩, 4), (⟨"UnsaidScales$TextReader", "readPerson", "(LUnsaidScales$ToldShop;)V"⟩, 4), (⟨"UnsaidScales$TextReader", "readGrowth", "(LUnsaidScales$ToldShop;)V"⟩, 4), (⟨"UnsaidScales$TextReader", "readPiece", "(LUnsaidScales$ToldShop;)V"⟩, 4), (⟨"UnsaidScales", "isPerson", "(I)Z"⟩, 12), (⟨"UnsaidScales", "heavinessOf", "(I)I"⟩, 12), (⟨"UnsaidScales", "heavinessAhead", "(II)I"⟩, 12), (⟨"UnsaidScales", "isPair", "(II)Z"⟩, 12), (⟨"UnsaidScales", "knownOf", "(II)I"⟩, 12), (⟨"UnsaidScales", "knownPairs", "()I"⟩, 12)]
theorem lw_r1 : ∀ q ∈ lw_privs_1, lw_okq q := List.forall_mem_cons.mpr ⟨lw_p0, List.forall_mem_cons.mpr ⟨lw_p1, List.forall_mem_cons.mpr ⟨lw_p2, List.forall_mem_cons.mpr ⟨lw_p3, List.forall_mem_cons.mpr ⟨lw_p4, List.forall_mem_cons.mpr ⟨lw_p5, List.forall_mem_cons.mpr ⟨lw_p6, List.forall_mem_cons.mpr ⟨lw_p7, List.forall_mem_cons.mpr ⟨lw_p8, List.forall_mem_cons.mpr ⟨lw_p9, List.forall_mem_cons.mpr ⟨lw_p10, List.forall_mem_cons.mpr ⟨lw_p11, List.forall_mem_cons.mpr ⟨lw_p12, List.forall_mem_cons.mpr ⟨lw_p13, List.forall_mem_cons.mpr ⟨lw_p14, List.forall_mem_cons.mpr ⟨lw_p15, fun _ h => absurd h List.not_mem_nil⟩⟩⟩⟩⟩⟩⟩⟩⟩⟩⟩⟩⟩⟩⟩⟩
theorem lw_p16 : lw_okq (⟨"UnsaidScales", "planned", "(I)I"⟩, 12) := ⟨⟨by decide +kernel, by decide +kernel⟩, List.mem_of_getElem? (i := 16) (by decide +kernel), List.mem_of_getElem? (i := 447) (by decide +kernel), List.mem_of_getElem? (i := 448) (by decide +kernel)⟩
theorem lw_p17 : lw_okq (⟨"UnsaidScales$OrderTable", "countOrders", "(I)I"⟩, 4) := ⟨⟨by decide +kernel, by decide +kernel⟩, List.mem_of_getElem? (i := 125) (by decide +kernel), List.mem_of_getElem? (i := 455) (by decide +kernel), List.mem_of_getElem? (i := 456) (by decide +kernel)⟩
theorem lw_p18 : lw_okq (⟨"UnsaidScales$OrderTable", "isOrder", "(I)Z"⟩, 4) := ⟨⟨by decide +kernel, by decide +kernel⟩, List.mem_of_getElem? (i := 125) (by decide +kernel), List.mem_of_getElem? (i := 467) (by decide +kernel), List.mem_of_getElem? (i := 468) (by decide +kernel)⟩
theorem lw_p19 : lw_okq (⟨"UnsaidScales$OrderTable", "countHeavierOnes", "(I)V"⟩, 4) := ⟨⟨by decide +kernel, by decide +kernel⟩, List.mem_of_getElem? (i := 125) (by decide +kernel), List.mem_of_getElem? (i := 471) (by decide +kernel), List.mem_of_getElem? (i := 472) (by decide +kernel)⟩
theorem lw_p20 : lw_okq (⟨"UnsaidScales$OrderTable", "leastBehind", "(I)I"⟩, 4) := ⟨⟨by decide +kernel, by decide +kernel⟩, List.mem_of_getElem? (i := 125) (by decide +kernel), List.mem_of_getElem? (i := 479) (by decide +kernel), List.mem_of_getElem? (i := 480) (by decide +kernel)⟩
theorem lw_p21 : lw_okq (⟨"UnsaidScales$OrderTable", "worstBehind", "(II)I"⟩, 4) := ⟨⟨by decide +kernel, by decide +kernel⟩, List.mem_of_getElem? (i := 125) (by decide +kernel), List.mem_of_getElem? (i := 483) (by decide +kernel), List.mem_of_getElem? (i := 484) (by decide +kernel)⟩
theorem lw_p22 : lw_okq (⟨"UnsaidScales", "compareLower", "(II)I"⟩, 12) := ⟨⟨by decide +kernel, by decide +kernel⟩, List.mem_of_getElem? (i := 16) (by decide +kernel), List.mem_of_getElem? (i := 534) (by decide +kernel), List.mem_of_getElem? (i := 535) (by decide +kernel)⟩
theorem lw_p23 : lw_okq (⟨"UnsaidScales", "lighterWays", "(IIII)J"⟩, 12) := ⟨⟨by decide +kernel, by decide +kernel⟩, List.mem_of_getElem? (i := 16) (by decide +kernel), List.mem_of_getElem? (i := 596) (by decide +kernel), List.mem_of_getElem? (i := 597) (by decide +kernel)⟩
theorem lw_p24 : lw_okq (⟨"UnsaidScales$Evidence", "fits", "(II)Z"⟩, 9) := ⟨⟨by decide +kernel, by decide +kernel⟩, List.mem_of_getElem? (i := 186) (by decide +kernel), List.mem_of_getElem? (i := 678) (by decide +kernel), List.mem_of_getElem? (i := 679) (by decide +kernel)⟩
theorem lw_p25 : lw_okq (⟨"UnsaidScales", "asPerson", "(I)I"⟩, 12) := ⟨⟨by decide +kernel, by decide +kernel⟩, List.mem_of_getElem? (i := 16) (by decide +kernel), List.mem_of_getElem? (i := 698) (by decide +kernel), List.mem_of_getElem? (i := 699) (by decide +kernel)⟩
theorem lw_p26 : lw_okq (⟨"UnsaidScales", "asBride", "(I)I"⟩, 12) := ⟨⟨by decide +kernel, by decide +kernel⟩, List.mem_of_getElem? (i := 16) (by decide +kernel), List.mem_of_getElem? (i := 702) (by decide +kernel), List.mem_of_getElem? (i := 703) (by decide +kernel)⟩
theorem lw_p27 : lw_okq (⟨"UnsaidScales", "asPartner", "(I)I"⟩, 12) := ⟨⟨by decide +kernel, by decide +kernel⟩, List.mem_of_getElem? (i := 16) (by decide +kernel), List.mem_of_getElem? (i := 710) (by decide +kernel), List.mem_of_getElem? (i := 711) (by decide +kernel)⟩
theorem lw_p28 : lw_okq (⟨"UnsaidScales", "asBrother", "(I)I"⟩, 12) := ⟨⟨by decide +kernel, by decide +kernel⟩, List.mem_of_getElem? (i := 16) (by decide +kernel), List.mem_of_getElem? (i := 715) (by decide +kernel), List.mem_of_getElem? (i := 716) (by decide +kernel)⟩
theorem lw_p29 : lw_okq (⟨"UnsaidScales", "asBankrupt", "(I)I"⟩, 12) := ⟨⟨by decide +kernel, by decide +kernel⟩, List.mem_of_getElem? (i := 16) (by decide +kernel), List.mem_of_getElem? (i := 720) (by decide +kernel), List.mem_of_getElem? (i := 721) (by decide +kernel)⟩
theorem lw_p30 : lw_okq (⟨"UnsaidScales", "asStranger", "(I)I"⟩, 12) := ⟨⟨by decide +kernel, by decide +kernel⟩, List.mem_of_getElem? (i := 16) (by decide +kernel), List.mem_of_getElem? (i := 725) (by decide +kernel), List.mem_of_getElem? (i := 726) (by decide +kernel)⟩
theorem lw_p31 : lw_okq (⟨"UnsaidScalesModel", "begins", "()V"⟩, 34) := ⟨⟨by decide +kernel, by decide +kernel⟩, List.mem_of_getElem? (i := 747) (by decide +kernel), List.mem_of_getElem? (i := 753) (by decide +kernel), List.mem_of_getElem? (i := 754) (by decide +kernel)⟩
def lw_privs_2 : List (MethodName × Nat) := [(⟨"UnsaidScales", "planned", "(I)I"⟩, 12), (⟨"UnsaidScales$OrderTable", "countOrders", "(I)I"⟩, 4), (⟨"UnsaidScales$OrderTable", "isOrder", "(I)Z"⟩, 4), (⟨"UnsaidScales$OrderTable", "countHeavierOnes", "(I)V"⟩, 4), (⟨"UnsaidScales$OrderTable", "leastBehind", "(I)I"⟩, 4), (⟨"UnsaidScales$OrderTable", "worstBehind", "(II)I"⟩, 4), (⟨"UnsaidScales", "compareLower", "(II)I"⟩, 12), (⟨"UnsaidScales", "lighterWays", "(IIII)J"⟩, 12), (⟨"UnsaidScales$Evidence", "fits", "(II)Z"⟩, 9), (⟨"UnsaidScales", "asPerson", "(I)I"⟩, 12), (⟨"UnsaidScales", "asBride", "(I)I"⟩, 12), (⟨"UnsaidScales", "asPartner", "(I)I"⟩, 12), (⟨"UnsaidScales", "asBrother", "(I)I"⟩, 12), (⟨"UnsaidScales", "asBankrupt", "(I)I"⟩, 12), (⟨"UnsaidScales", "asStranger", "(I)I"⟩, 12), (⟨"UnsaidScalesModel", "begins", "()V"⟩, 34)]
theorem lw_r2 : ∀ q ∈ lw_privs_2, lw_okq q := List.forall_mem_cons.mpr ⟨lw_p16, List.forall_mem_cons.mpr ⟨lw_p17, List.forall_mem_cons.mpr ⟨lw_p18, List.forall_mem_cons.mpr ⟨lw_p19, List.forall_mem_cons.mpr ⟨lw_p20, List.forall_mem_cons.mpr ⟨lw_p21, List.forall_mem_cons.mpr ⟨lw_p22, List.forall_mem_cons.mpr ⟨lw_p23, List.forall_mem_cons.mpr ⟨lw_p24, List.forall_mem_cons.mpr ⟨lw_p25, List.forall_mem_cons.mpr ⟨lw_p26, List.forall_mem_cons.mpr ⟨lw_p27, List.forall_mem_cons.mpr ⟨lw_p28, List.forall_mem_cons.mpr ⟨lw_p29, List.forall_mem_cons.mpr ⟨lw_p30, List.forall_mem_cons.mpr ⟨lw_p31, fun _ h => absurd h List.not_mem_nil⟩⟩⟩⟩⟩⟩⟩⟩⟩⟩⟩⟩⟩⟩⟩⟩
theorem lw_p32 : lw_okq (⟨"UnsaidScalesModel", "settles", "()V"⟩, 34) := ⟨⟨by decide +kernel, by decide +kernel⟩, List.mem_of_getElem? (i := 747) (by decide +kernel), List.mem_of_getElem? (i := 757) (by decide +kernel), List.mem_of_getElem? (i := 758) (by decide +kernel)⟩
theorem lw_p33 : lw_okq (⟨"UnsaidScalesModel", "orders", "()V"⟩, 34) := ⟨⟨by decide +kernel, by decide +kernel⟩, List.mem_of_getElem? (i := 747) (by decide +kernel), List.mem_of_getElem? (i := 761) (by decide +kernel), List.mem_of_getElem? (i := 762) (by decide +kernel)⟩
theorem lw_p34 : lw_okq (⟨"UnsaidScalesModel", "isPairNumber", "(I)Z"⟩, 34) := ⟨⟨by decide +kernel, by decide +kernel⟩, List.mem_of_getElem? (i := 747) (by decide +kernel), List.mem_of_getElem? (i := 771) (by decide +kernel), List.mem_of_getElem? (i := 772) (by decide +kernel)⟩
theorem lw_p35 : lw_okq (⟨"UnsaidScalesModel", "worsts", "()V"⟩, 34) := ⟨⟨by decide +kernel, by decide +kernel⟩, List.mem_of_getElem? (i := 747) (by decide +kernel), List.mem_of_getElem? (i := 775) (by decide +kernel), List.mem_of_getElem? (i := 776) (by decide +kernel)⟩
theorem lw_p36 : lw_okq (⟨"UnsaidScalesModel", "worstBehind", "(II)I"⟩, 34) := ⟨⟨by decide +kernel, by decide +kernel⟩, List.mem_of_getElem? (i := 747) (by decide +kernel), List.mem_of_getElem? (i := 780) (by decide +kernel), List.mem_of_getElem? (i := 781) (by decide +kernel)⟩
theorem lw_p37 : lw_okq (⟨"UnsaidScalesModel", "advances", "()V"⟩, 34) := ⟨⟨by decide +kernel, by decide +kernel⟩, List.mem_of_getElem? (i := 747) (by decide +kernel), List.mem_of_getElem? (i := 902) (by decide +kernel), List.mem_of_getElem? (i := 903) (by decide +kernel)⟩
theorem lw_p38 : lw_okq (⟨"UnsaidScalesModel", "letterAt", "(I)I"⟩, 34) := ⟨⟨by decide +kernel, by decide +kernel⟩, List.mem_of_getElem? (i := 747) (by decide +kernel), List.mem_of_getElem? (i := 906) (by decide +kernel), List.mem_of_getElem? (i := 907) (by decide +kernel)⟩
theorem lw_p39 : lw_okq (⟨"UnsaidScalesModel", "isWell", "()Z"⟩, 34) := ⟨⟨by decide +kernel, by decide +kernel⟩, List.mem_of_getElem? (i := 747) (by decide +kernel), List.mem_of_getElem? (i := 910) (by decide +kernel), List.mem_of_getElem? (i := 911) (by decide +kernel)⟩
theorem lw_p40 : lw_okq (⟨"UnsaidScalesModel", "mayBegin", "()Z"⟩, 34) := ⟨⟨by decide +kernel, by decide +kernel⟩, List.mem_of_getElem? (i := 747) (by decide +kernel), List.mem_of_getElem? (i := 914) (by decide +kernel), List.mem_of_getElem? (i := 915) (by decide +kernel)⟩
theorem lw_p41 : lw_okq (⟨"UnsaidScalesModel", "takes", "(Z)I"⟩, 34) := ⟨⟨by decide +kernel, by decide +kernel⟩, List.mem_of_getElem? (i := 747) (by decide +kernel), List.mem_of_getElem? (i := 918) (by decide +kernel), List.mem_of_getElem? (i := 919) (by decide +kernel)⟩
theorem lw_p42 : lw_okq (⟨"UnsaidScalesModel", "readsItem", "(I)V"⟩, 34) := ⟨⟨by decide +kernel, by decide +kernel⟩, List.mem_of_getElem? (i := 747) (by decide +kernel), List.mem_of_getElem? (i := 922) (by decide +kernel), List.mem_of_getElem? (i := 923) (by decide +kernel)⟩
theorem lw_p43 : lw_okq (⟨"UnsaidScalesModel", "number", "(II)I"⟩, 34) := ⟨⟨by decide +kernel, by decide +kernel⟩, List.mem_of_getElem? (i := 747) (by decide +kernel), List.mem_of_getElem? (i := 926) (by decide +kernel), List.mem_of_getElem? (i := 927) (by decide +kernel)⟩
theorem lw_p44 : lw_okq (⟨"UnsaidScalesModel", "isPerson", "(I)Z"⟩, 34) := ⟨⟨by decide +kernel, by decide +kernel⟩, List.mem_of_getElem? (i := 747) (by decide +kernel), List.mem_of_getElem? (i := 934) (by decide +kernel), List.mem_of_getElem? (i := 935) (by decide +kernel)⟩
theorem lw_p45 : lw_okq (⟨"UnsaidScalesModel", "heaviness", "(I)I"⟩, 34) := ⟨⟨by decide +kernel, by decide +kernel⟩, List.mem_of_getElem? (i := 747) (by decide +kernel), List.mem_of_getElem? (i := 953) (by decide +kernel), List.mem_of_getElem? (i := 954) (by decide +kernel)⟩
theorem lw_p46 : lw_okq (⟨"UnsaidScalesModel", "isPair", "(II)Z"⟩, 34) := ⟨⟨by decide +kernel, by decide +kernel⟩, List.mem_of_getElem? (i := 747) (by decide +kernel), List.mem_of_getElem? (i := 961) (by decide +kernel), List.mem_of_getElem? (i := 962) (by decide +kernel)⟩
theorem lw_p47 : lw_okq (⟨"UnsaidScalesModel", "knownMany", "()I"⟩, 34) := ⟨⟨by decide +kernel, by decide +kernel⟩, List.mem_of_getElem? (i := 747) (by decide +kernel), List.mem_of_getElem? (i := 975) (by decide +kernel), List.mem_of_getElem? (i := 976) (by decide +kernel)⟩
def lw_privs_3 : List (MethodName × Nat) := [(⟨"UnsaidScalesModel", "settles", "()V"⟩, 34), (⟨"UnsaidScalesModel", "orders", "()V"⟩, 34), (⟨"UnsaidScalesModel", "isPairNumber", "(I)Z"⟩, 34), (⟨"UnsaidScalesModel", "worsts", "()V"⟩, 34), (⟨"UnsaidScalesModel", "worstBehind", "(II)I"⟩, 34), (⟨"UnsaidScalesModel", "advances", "()V"⟩, 34), (⟨"UnsaidScalesModel", "letterAt", "(I)I"⟩, 34), (⟨"UnsaidScalesModel", "isWell", "()Z"⟩, 34), (⟨"UnsaidScalesModel", "mayBegin", "()Z"⟩, 34), (⟨"UnsaidScalesModel", "takes", "(Z)I"⟩, 34), (⟨"UnsaidScalesModel", "readsItem", "(I)V"⟩, 34), (⟨"UnsaidScalesModel", "number", "(II)I"⟩, 34), (⟨"UnsaidScalesModel", "isPerson", "(I)Z"⟩, 34), (⟨"UnsaidScalesModel", "heaviness", "(I)I"⟩, 34), (⟨"UnsaidScalesModel", "isPair", "(II)Z"⟩, 34), (⟨"UnsaidScalesModel", "knownMany", "()I"⟩, 34)]
theorem lw_r3 : ∀ q ∈ lw_privs_3, lw_okq q := List.forall_mem_cons.mpr ⟨lw_p32, List.forall_mem_cons.mpr ⟨lw_p33, List.forall_mem_cons.mpr ⟨lw_p34, List.forall_mem_cons.mpr ⟨lw_p35, List.forall_mem_cons.mpr ⟨lw_p36, List.forall_mem_cons.mpr ⟨lw_p37, List.forall_mem_cons.mpr ⟨lw_p38, List.forall_mem_cons.mpr ⟨lw_p39, List.forall_mem_cons.mpr ⟨lw_p40, List.forall_mem_cons.mpr ⟨lw_p41, List.forall_mem_cons.mpr ⟨lw_p42, List.forall_mem_cons.mpr ⟨lw_p43, List.forall_mem_cons.mpr ⟨lw_p44, List.forall_mem_cons.mpr ⟨lw_p45, List.forall_mem_cons.mpr ⟨lw_p46, List.forall_mem_cons.mpr ⟨lw_p47, fun _ h => absurd h List.not_mem_nil⟩⟩⟩⟩⟩⟩⟩⟩⟩⟩⟩⟩⟩⟩⟩⟩
theorem lw_p48 : lw_okq (⟨"UnsaidScalesModel", "codeNow", "()I"⟩, 34) := ⟨⟨by decide +kernel, by decide +kernel⟩, List.mem_of_getElem? (i := 747) (by decide +kernel), List.mem_of_getElem? (i := 979) (by decide +kernel), List.mem_of_getElem? (i := 980) (by decide +kernel)⟩
theorem lw_p49 : lw_okq (⟨"UnsaidScalesModel", "nextPair", "()I"⟩, 34) := ⟨⟨by decide +kernel, by decide +kernel⟩, List.mem_of_getElem? (i := 747) (by decide +kernel), List.mem_of_getElem? (i := 983) (by decide +kernel), List.mem_of_getElem? (i := 984) (by decide +kernel)⟩
theorem lw_p50 : lw_okq (⟨"UnsaidScalesModel", "range", "()I"⟩, 34) := ⟨⟨by decide +kernel, by decide +kernel⟩, List.mem_of_getElem? (i := 747) (by decide +kernel), List.mem_of_getElem? (i := 987) (by decide +kernel), List.mem_of_getElem? (i := 988) (by decide +kernel)⟩
theorem lw_p51 : lw_okq (⟨"UnsaidScalesModel", "sumOf", "(I)I"⟩, 34) := ⟨⟨by decide +kernel, by decide +kernel⟩, List.mem_of_getElem? (i := 747) (by decide +kernel), List.mem_of_getElem? (i := 991) (by decide +kernel), List.mem_of_getElem? (i := 992) (by decide +kernel)⟩
theorem lw_p52 : lw_okq (⟨"UnsaidScalesModel", "notes", "()V"⟩, 34) := ⟨⟨by decide +kernel, by decide +kernel⟩, List.mem_of_getElem? (i := 747) (by decide +kernel), List.mem_of_getElem? (i := 999) (by decide +kernel), List.mem_of_getElem? (i := 1000) (by decide +kernel)⟩
theorem lw_p53 : lw_okq (⟨"UnsaidScalesModel", "gets", "(III)V"⟩, 34) := ⟨⟨by decide +kernel, by decide +kernel⟩, List.mem_of_getElem? (i := 747) (by decide +kernel), List.mem_of_getElem? (i := 1003) (by decide +kernel), List.mem_of_getElem? (i := 1004) (by decide +kernel)⟩
theorem lw_p54 : lw_okq (⟨"UnsaidScalesModel", "sheds", "(II)V"⟩, 34) := ⟨⟨by decide +kernel, by decide +kernel⟩, List.mem_of_getElem? (i := 747) (by decide +kernel), List.mem_of_getElem? (i := 1036) (by decide +kernel), List.mem_of_getElem? (i := 1037) (by decide +kernel)⟩
theorem lw_p55 : lw_okq (⟨"UnsaidScalesModel", "canSay", "(II)Z"⟩, 34) := ⟨⟨by decide +kernel, by decide +kernel⟩, List.mem_of_getElem? (i := 747) (by decide +kernel), List.mem_of_getElem? (i := 1040) (by decide +kernel), List.mem_of_getElem? (i := 1041) (by decide +kernel)⟩
theorem lw_p56 : lw_okq (⟨"UnsaidScalesModel", "weighsOf", "(I)I"⟩, 34) := ⟨⟨by decide +kernel, by decide +kernel⟩, List.mem_of_getElem? (i := 747) (by decide +kernel), List.mem_of_getElem? (i := 1044) (by decide +kernel), List.mem_of_getElem? (i := 1045) (by decide +kernel)⟩
theorem lw_p57 : lw_okq (⟨"UnsaidScalesModel", "wayOf", "(III)I"⟩, 34) := ⟨⟨by decide +kernel, by decide +kernel⟩, List.mem_of_getElem? (i := 747) (by decide +kernel), List.mem_of_getElem? (i := 1048) (by decide +kernel), List.mem_of_getElem? (i := 1049) (by decide +kernel)⟩
theorem lw_p58 : lw_okq (⟨"UnsaidScalesModel", "heavinessThen", "(II)I"⟩, 34) := ⟨⟨by decide +kernel, by decide +kernel⟩, List.mem_of_getElem? (i := 747) (by decide +kernel), List.mem_of_getElem? (i := 1056) (by decide +kernel), List.mem_of_getElem? (i := 1057) (by decide +kernel)⟩
theorem lw_p59 : lw_okq (⟨"UnsaidScalesModel", "pieces", "(I)I"⟩, 34) := ⟨⟨by decide +kernel, by decide +kernel⟩, List.mem_of_getElem? (i := 747) (by decide +kernel), List.mem_of_getElem? (i := 1073) (by decide +kernel), List.mem_of_getElem? (i := 1074) (by decide +kernel)⟩
theorem lw_p60 : lw_okq (⟨"UnsaidScalesModel", "isAsShown", "(II)Z"⟩, 34) := ⟨⟨by decide +kernel, by decide +kernel⟩, List.mem_of_getElem? (i := 747) (by decide +kernel), List.mem_of_getElem? (i := 1085) (by decide +kernel), List.mem_of_getElem? (i := 1086) (by decide +kernel)⟩
def lw_privs_4 : List (MethodName × Nat) := [(⟨"UnsaidScalesModel", "codeNow", "()I"⟩, 34), (⟨"UnsaidScalesModel", "nextPair", "()I"⟩, 34), (⟨"UnsaidScalesModel", "range", "()I"⟩, 34), (⟨"UnsaidScalesModel", "sumOf", "(I)I"⟩, 34), (⟨"UnsaidScalesModel", "notes", "()V"⟩, 34), (⟨"UnsaidScalesModel", "gets", "(III)V"⟩, 34), (⟨"UnsaidScalesModel", "sheds", "(II)V"⟩, 34), (⟨"UnsaidScalesModel", "canSay", "(II)Z"⟩, 34), (⟨"UnsaidScalesModel", "weighsOf", "(I)I"⟩, 34), (⟨"UnsaidScalesModel", "wayOf", "(III)I"⟩, 34), (⟨"UnsaidScalesModel", "heavinessThen", "(II)I"⟩, 34), (⟨"UnsaidScalesModel", "pieces", "(I)I"⟩, 34), (⟨"UnsaidScalesModel", "isAsShown", "(II)Z"⟩, 34)]
theorem lw_r4 : ∀ q ∈ lw_privs_4, lw_okq q := List.forall_mem_cons.mpr ⟨lw_p48, List.forall_mem_cons.mpr ⟨lw_p49, List.forall_mem_cons.mpr ⟨lw_p50, List.forall_mem_cons.mpr ⟨lw_p51, List.forall_mem_cons.mpr ⟨lw_p52, List.forall_mem_cons.mpr ⟨lw_p53, List.forall_mem_cons.mpr ⟨lw_p54, List.forall_mem_cons.mpr ⟨lw_p55, List.forall_mem_cons.mpr ⟨lw_p56, List.forall_mem_cons.mpr ⟨lw_p57, List.forall_mem_cons.mpr ⟨lw_p58, List.forall_mem_cons.mpr ⟨lw_p59, List.forall_mem_cons.mpr ⟨lw_p60, fun _ h => absurd h List.not_mem_nil⟩⟩⟩⟩⟩⟩⟩⟩⟩⟩⟩⟩⟩
def lw_privs : List (MethodName × Nat) := lw_privs_1 ++ (lw_privs_2 ++ (lw_privs_3 ++ (lw_privs_4)))
def lw_tbl : List Cond := k2_sels lw_privs ++ tables_1
theorem lw_privs_ok : ∀ q ∈ lw_privs, lw_okq q := by
  show ∀ q ∈ lw_privs_1 ++ (lw_privs_2 ++ (lw_privs_3 ++ (lw_privs_4))), lw_okq q
  exact List.forall_mem_append.mpr ⟨lw_r1, List.forall_mem_append.mpr ⟨lw_r2, List.forall_mem_append.mpr ⟨lw_r3, lw_r4⟩⟩⟩
def RX0 : String := "UnsaidScales$Drawer"
def TX0 : u_T := fun k => match k with
  | 0 => ("UnsaidScales$Drawer", "panWeights", "[I", true)
  | _ => ("UnsaidScales$Drawer", "ways", "[I", true)
def tyX0 : Nat → FieldType := fun k => match k with
  | 0 => .array .int
  | _ => .array .int
abbrev wsX00 : List Cond := u_ws RX0 TX0 2
theorem nmX0 : ∀ a, a < 2 → ∀ b, b < 2 → a ≠ b → (TX0 a).2.1 ≠ (TX0 b).2.1 := by decide +kernel
theorem tyX0_ok : ∀ k, k < 2 → parseFieldDescriptor (TX0 k).2.2.1 = some (tyX0 k) := by decide +kernel
abbrev cX0_init : ByteArray := prog_2_method_1_code
def yX0_init : MethodName := ⟨RX0, "<init>", "()V"⟩
abbrev cX0_layOut : ByteArray := prog_2_method_2_code
def yX0_layOut : MethodName := ⟨RX0, "layOut", "(LUnsaidScales$ToldShop;)V"⟩
abbrev cX0_canWeigh : ByteArray := prog_2_method_3_code
def yX0_canWeigh : MethodName := ⟨RX0, "canWeigh", "(I)Z"⟩
abbrev cX0_fewestPieces : ByteArray := prog_2_method_4_code
def yX0_fewestPieces : MethodName := ⟨RX0, "fewestPieces", "(I)I"⟩
abbrev cX0_heavierPan : ByteArray := prog_2_method_5_code
def yX0_heavierPan : MethodName := ⟨RX0, "heavierPan", "(I)I"⟩
abbrev cX0_otherPan : ByteArray := prog_2_method_6_code
def yX0_otherPan : MethodName := ⟨RX0, "otherPan", "(I)I"⟩
abbrev cX0_range : ByteArray := prog_2_method_7_code
def yX0_range : MethodName := ⟨RX0, "range", "()I"⟩
abbrev cX0_offer : ByteArray := prog_2_method_8_code
def yX0_offer : MethodName := ⟨RX0, "offer", "(II)V"⟩
abbrev cX0_weigh : ByteArray := prog_2_method_9_code
def yX0_weigh : MethodName := ⟨RX0, "weigh", "(ILUnsaidScales$ToldShop;)I"⟩
def RX1 : String := "UnsaidScales$Evidence"
def TX1 : u_T := fun k => match k with
  | 0 => ("UnsaidScales$Evidence", "shownOf", "[I", true)
  | 1 => ("UnsaidScales$Evidence", "shownBrass", "[I", true)
  | 2 => ("UnsaidScales$Evidence", "shownHow", "[I", true)
  | 3 => ("UnsaidScales$Evidence", "seenOf", "[I", true)
  | 4 => ("UnsaidScales$Evidence", "seenGain", "[I", true)
  | 5 => ("UnsaidScales$Evidence", "waysOfHeaviness", "[I", true)
  | 6 => ("UnsaidScales$Evidence", "waysStand", "Z", false)
  | 7 => ("UnsaidScales$Evidence", "shown", "I", false)
  | _ => ("UnsaidScales$Evidence", "seen", "I", false)
def tyX1 : Nat → FieldType := fun k => match k with
  | 0 => .array .int
  | 1 => .array .int
  | 2 => .array .int
  | 3 => .array .int
  | 4 => .array .int
  | 5 => .array .int
  | 6 => .boolean
  | 7 => .int
  | _ => .int
abbrev wsX10 : List Cond := u_ws RX1 TX1 9
theorem nmX1 : ∀ a, a < 9 → ∀ b, b < 9 → a ≠ b → (TX1 a).2.1 ≠ (TX1 b).2.1 := by decide +kernel
theorem tyX1_ok : ∀ k, k < 9 → parseFieldDescriptor (TX1 k).2.2.1 = some (tyX1 k) := by decide +kernel
abbrev cX1_init : ByteArray := prog_3_method_1_code
def yX1_init : MethodName := ⟨RX1, "<init>", "()V"⟩
abbrev cX1_begin : ByteArray := prog_3_method_2_code
def yX1_begin : MethodName := ⟨RX1, "begin", "()V"⟩
abbrev cX1_addShown : ByteArray := prog_3_method_3_code
def yX1_addShown : MethodName := ⟨RX1, "addShown", "(III)Z"⟩
abbrev cX1_addSeen : ByteArray := prog_3_method_4_code
def yX1_addSeen : MethodName := ⟨RX1, "addSeen", "(II)Z"⟩
abbrev cX1_dropRecords : ByteArray := prog_3_method_5_code
def yX1_dropRecords : MethodName := ⟨RX1, "dropRecords", "()V"⟩
abbrev cX1_prepareWays : ByteArray := prog_3_method_6_code
def yX1_prepareWays : MethodName := ⟨RX1, "prepareWays", "([I)V"⟩
abbrev cX1_lowestOf : ByteArray := prog_3_method_7_code
def yX1_lowestOf : MethodName := ⟨RX1, "lowestOf", "(I)I"⟩
abbrev cX1_highestOf : ByteArray := prog_3_method_8_code
def yX1_highestOf : MethodName := ⟨RX1, "highestOf", "(I)I"⟩
abbrev cX1_waysBetween : ByteArray := prog_3_method_9_code
def yX1_waysBetween : MethodName := ⟨RX1, "waysBetween", "(II)I"⟩
abbrev cX1_leastBetween : ByteArray := prog_3_method_10_code
def yX1_leastBetween : MethodName := ⟨RX1, "leastBetween", "(II)I"⟩
abbrev cX1_greatestBetween : ByteArray := prog_3_method_11_code
def yX1_greatestBetween : MethodName := ⟨RX1, "greatestBetween", "(II)I"⟩
abbrev cX1_lawsOf : ByteArray := prog_3_method_12_code
def yX1_lawsOf : MethodName := ⟨RX1, "lawsOf", "(I[I)I"⟩
abbrev cX1_firstLawOf : ByteArray := prog_3_method_13_code
def yX1_firstLawOf : MethodName := ⟨RX1, "firstLawOf", "(I[I)I"⟩
abbrev cX1_gainOf : ByteArray := prog_3_method_14_code
def yX1_gainOf : MethodName := ⟨RX1, "gainOf", "(I[I)I"⟩
abbrev cX1_figuresOf : ByteArray := prog_3_method_15_code
def yX1_figuresOf : MethodName := ⟨RX1, "figuresOf", "(I)I"⟩
abbrev cX1_fits : ByteArray := prog_3_method_16_code
def yX1_fits : MethodName := ⟨RX1, "fits", "(II)Z"⟩
def RX2 : String := "UnsaidScales$History"
def TX2 : u_T := fun k => match k with
  | 0 => ("UnsaidScales$History", "ring", "[LUnsaidScales$Moment;", true)
  | 1 => ("UnsaidScales$History", "next", "I", false)
  | _ => ("UnsaidScales$History", "size", "I", false)
def tyX2 : Nat → FieldType := fun k => match k with
  | 0 => .array (.object "UnsaidScales$Moment")
  | 1 => .int
  | _ => .int
abbrev wsX20 : List Cond := u_ws RX2 TX2 3
theorem nmX2 : ∀ a, a < 3 → ∀ b, b < 3 → a ≠ b → (TX2 a).2.1 ≠ (TX2 b).2.1 := by decide +kernel
theorem tyX2_ok : ∀ k, k < 3 → parseFieldDescriptor (TX2 k).2.2.1 = some (tyX2 k) := by decide +kernel
abbrev cX2_init : ByteArray := prog_4_method_1_code
def yX2_init : MethodName := ⟨RX2, "<init>", "()V"⟩
abbrev cX2_push : ByteArray := prog_4_method_2_code
def yX2_push : MethodName := ⟨RX2, "push", "(LUnsaidScales$Moment;)V"⟩
abbrev cX2_popInto : ByteArray := prog_4_method_3_code
def yX2_popInto : MethodName := ⟨RX2, "popInto", "(LUnsaidScales$Moment;)V"⟩
def RX3 : String := "UnsaidScales$LeastSaid"
def TX3 : u_T := fun k => match k with
  | 0 => ("UnsaidScales$LeastSaid", "firstFewest", "[I", true)
  | 1 => ("UnsaidScales$LeastSaid", "secondFewest", "[I", true)
  | 2 => ("UnsaidScales$LeastSaid", "things", "I", false)
  | 3 => ("UnsaidScales$LeastSaid", "heaviness", "I", false)
  | 4 => ("UnsaidScales$LeastSaid", "firstSheds", "I", false)
  | _ => ("UnsaidScales$LeastSaid", "secondSheds", "I", false)
def tyX3 : Nat → FieldType := fun k => match k with
  | 0 => .array .int
  | 1 => .array .int
  | 2 => .int
  | 3 => .int
  | 4 => .int
  | _ => .int
abbrev wsX30 : List Cond := u_ws RX3 TX3 6
theorem nmX3 : ∀ a, a < 6 → ∀ b, b < 6 → a ≠ b → (TX3 a).2.1 ≠ (TX3 b).2.1 := by decide +kernel
theorem tyX3_ok : ∀ k, k < 6 → parseFieldDescriptor (TX3 k).2.2.1 = some (tyX3 k) := by decide +kernel
abbrev cX3_init : ByteArray := prog_5_method_1_code
def yX3_init : MethodName := ⟨RX3, "<init>", "()V"⟩
abbrev cX3_find : ByteArray := prog_5_method_2_code
def yX3_find : MethodName := ⟨RX3, "find", "([I[III)V"⟩
abbrev cX3_firstSays : ByteArray := prog_5_method_3_code
def yX3_firstSays : MethodName := ⟨RX3, "firstSays", "([I[III)I"⟩
abbrev cX3_secondSays : ByteArray := prog_5_method_4_code
def yX3_secondSays : MethodName := ⟨RX3, "secondSays", "([I[III)I"⟩
abbrev cX3_countFewest : ByteArray := prog_5_method_5_code
def yX3_countFewest : MethodName := ⟨RX3, "countFewest", "([I[I[II)I"⟩
abbrev cX3_offerBundle : ByteArray := prog_5_method_6_code
def yX3_offerBundle : MethodName := ⟨RX3, "offerBundle", "([IIII)V"⟩
abbrev cX3_firstWay : ByteArray := prog_5_method_7_code
def yX3_firstWay : MethodName := ⟨RX3, "firstWay", "([I[IIII)I"⟩
abbrev cX3_figureOf : ByteArray := prog_5_method_8_code
def yX3_figureOf : MethodName := ⟨RX3, "figureOf", "(II)I"⟩
def RX4 : String := "UnsaidScales$Moment"
def TX4 : u_T := fun k => match k with
  | 0 => ("UnsaidScales$Moment", "held", "[I", true)
  | 1 => ("UnsaidScales$Moment", "day", "I", false)
  | _ => ("UnsaidScales$Moment", "pairs", "I", false)
def tyX4 : Nat → FieldType := fun k => match k with
  | 0 => .array .int
  | 1 => .int
  | _ => .int
abbrev wsX40 : List Cond := u_ws RX4 TX4 3
theorem nmX4 : ∀ a, a < 3 → ∀ b, b < 3 → a ≠ b → (TX4 a).2.1 ≠ (TX4 b).2.1 := by decide +kernel
theorem tyX4_ok : ∀ k, k < 3 → parseFieldDescriptor (TX4 k).2.2.1 = some (tyX4 k) := by decide +kernel
abbrev cX4_init : ByteArray := prog_6_method_1_code
def yX4_init : MethodName := ⟨RX4, "<init>", "()V"⟩
abbrev cX4_begin : ByteArray := prog_6_method_2_code
def yX4_begin : MethodName := ⟨RX4, "begin", "(LUnsaidScales$ToldShop;)V"⟩
abbrev cX4_copyFrom : ByteArray := prog_6_method_3_code
def yX4_copyFrom : MethodName := ⟨RX4, "copyFrom", "(LUnsaidScales$Moment;)V"⟩
abbrev cX4_add : ByteArray := prog_6_method_4_code
def yX4_add : MethodName := ⟨RX4, "add", "(II)V"⟩
def RX5 : String := "UnsaidScales$OrderTable"
def TX5 : u_T := fun k => match k with
  | 0 => ("UnsaidScales$OrderTable", "plans", "[S", true)
  | 1 => ("UnsaidScales$OrderTable", "heavierOnes", "[I", true)
  | 2 => ("UnsaidScales$OrderTable", "people", "I", false)
  | _ => ("UnsaidScales$OrderTable", "pairCount", "I", false)
def tyX5 : Nat → FieldType := fun k => match k with
  | 0 => .array .short
  | 1 => .array .int
  | 2 => .int
  | _ => .int
abbrev wsX50 : List Cond := u_ws RX5 TX5 4
theorem nmX5 : ∀ a, a < 4 → ∀ b, b < 4 → a ≠ b → (TX5 a).2.1 ≠ (TX5 b).2.1 := by decide +kernel
theorem tyX5_ok : ∀ k, k < 4 → parseFieldDescriptor (TX5 k).2.2.1 = some (tyX5 k) := by decide +kernel
abbrev cX5_init : ByteArray := prog_7_method_1_code
def yX5_init : MethodName := ⟨RX5, "<init>", "()V"⟩
abbrev cX5_prepare : ByteArray := prog_7_method_2_code
def yX5_prepare : MethodName := ⟨RX5, "prepare", "(I)V"⟩
abbrev cX5_ordersLeft : ByteArray := prog_7_method_3_code
def yX5_ordersLeft : MethodName := ⟨RX5, "ordersLeft", "(I)I"⟩
abbrev cX5_worstOf : ByteArray := prog_7_method_4_code
def yX5_worstOf : MethodName := ⟨RX5, "worstOf", "(I)I"⟩
abbrev cX5_nextPair : ByteArray := prog_7_method_5_code
def yX5_nextPair : MethodName := ⟨RX5, "nextPair", "(I)I"⟩
abbrev cX5_countOrders : ByteArray := prog_7_method_6_code
def yX5_countOrders : MethodName := ⟨RX5, "countOrders", "(I)I"⟩
abbrev cX5_leastBehind : ByteArray := prog_7_method_7_code
def yX5_leastBehind : MethodName := ⟨RX5, "leastBehind", "(I)I"⟩
abbrev cX5_worstBehind : ByteArray := prog_7_method_8_code
def yX5_worstBehind : MethodName := ⟨RX5, "worstBehind", "(II)I"⟩
abbrev cX5_isOrder : ByteArray := prog_7_method_9_code
def yX5_isOrder : MethodName := ⟨RX5, "isOrder", "(I)Z"⟩
abbrev cX5_countHeavierOnes : ByteArray := prog_7_method_10_code
def yX5_countHeavierOnes : MethodName := ⟨RX5, "countHeavierOnes", "(I)V"⟩
abbrev cX5_dueFinding : ByteArray := prog_7_method_11_code
def yX5_dueFinding : MethodName := ⟨RX5, "dueFinding", "(II)I"⟩
def RX6 : String := "UnsaidScales$TextReader"
def TX6 : u_T := fun k => match k with
  | 0 => ("UnsaidScales$TextReader", "letters", "[C", true)
  | 1 => ("UnsaidScales$TextReader", "length", "I", false)
  | 2 => ("UnsaidScales$TextReader", "at", "I", false)
  | _ => ("UnsaidScales$TextReader", "fault", "I", false)
def tyX6 : Nat → FieldType := fun k => match k with
  | 0 => .array .char
  | 1 => .int
  | 2 => .int
  | _ => .int
abbrev wsX60 : List Cond := u_ws RX6 TX6 4
theorem nmX6 : ∀ a, a < 4 → ∀ b, b < 4 → a ≠ b → (TX6 a).2.1 ≠ (TX6 b).2.1 := by decide +kernel
theorem tyX6_ok : ∀ k, k < 4 → parseFieldDescriptor (TX6 k).2.2.1 = some (tyX6 k) := by decide +kernel
abbrev cX6_init : ByteArray := prog_8_method_1_code
def yX6_init : MethodName := ⟨RX6, "<init>", "()V"⟩
abbrev cX6_append : ByteArray := prog_8_method_2_code
def yX6_append : MethodName := ⟨RX6, "append", "(C)Z"⟩
abbrev cX6_hasFault : ByteArray := prog_8_method_3_code
def yX6_hasFault : MethodName := ⟨RX6, "hasFault", "()Z"⟩
abbrev cX6_readInto : ByteArray := prog_8_method_4_code
def yX6_readInto : MethodName := ⟨RX6, "readInto", "(LUnsaidScales$ToldShop;)I"⟩
abbrev cX6_readItem : ByteArray := prog_8_method_5_code
def yX6_readItem : MethodName := ⟨RX6, "readItem", "(LUnsaidScales$ToldShop;)V"⟩
abbrev cX6_readWeight : ByteArray := prog_8_method_6_code
def yX6_readWeight : MethodName := ⟨RX6, "readWeight", "(LUnsaidScales$ToldShop;)V"⟩
abbrev cX6_readPerson : ByteArray := prog_8_method_7_code
def yX6_readPerson : MethodName := ⟨RX6, "readPerson", "(LUnsaidScales$ToldShop;)V"⟩
abbrev cX6_readGrowth : ByteArray := prog_8_method_8_code
def yX6_readGrowth : MethodName := ⟨RX6, "readGrowth", "(LUnsaidScales$ToldShop;)V"⟩
abbrev cX6_readPiece : ByteArray := prog_8_method_9_code
def yX6_readPiece : MethodName := ⟨RX6, "readPiece", "(LUnsaidScales$ToldShop;)V"⟩
abbrev cX6_readNumber : ByteArray := prog_8_method_10_code
def yX6_readNumber : MethodName := ⟨RX6, "readNumber", "(II)I"⟩
abbrev cX6_readEnd : ByteArray := prog_8_method_11_code
def yX6_readEnd : MethodName := ⟨RX6, "readEnd", "()V"⟩
abbrev cX6_skipBlanks : ByteArray := prog_8_method_12_code
def yX6_skipBlanks : MethodName := ⟨RX6, "skipBlanks", "()V"⟩
abbrev cX6_isFigure : ByteArray := prog_8_method_13_code
def yX6_isFigure : MethodName := ⟨RX6, "isFigure", "(C)Z"⟩
def RX7 : String := "UnsaidScales$ToldShop"
def TX7 : u_T := fun k => match k with
  | 0 => ("UnsaidScales$ToldShop", "weights", "[I", true)
  | 1 => ("UnsaidScales$ToldShop", "firstHeld", "[I", true)
  | 2 => ("UnsaidScales$ToldShop", "growth", "[I", true)
  | 3 => ("UnsaidScales$ToldShop", "pieces", "[I", true)
  | 4 => ("UnsaidScales$ToldShop", "people", "I", false)
  | _ => ("UnsaidScales$ToldShop", "pieceCount", "I", false)
def tyX7 : Nat → FieldType := fun k => match k with
  | 0 => .array .int
  | 1 => .array .int
  | 2 => .array .int
  | 3 => .array .int
  | 4 => .int
  | _ => .int
abbrev wsX70 : List Cond := u_ws RX7 TX7 6
theorem nmX7 : ∀ a, a < 6 → ∀ b, b < 6 → a ≠ b → (TX7 a).2.1 ≠ (TX7 b).2.1 := by decide +kernel
theorem tyX7_ok : ∀ k, k < 6 → parseFieldDescriptor (TX7 k).2.2.1 = some (tyX7 k) := by decide +kernel
abbrev cX7_init : ByteArray := prog_9_method_1_code
def yX7_init : MethodName := ⟨RX7, "<init>", "()V"⟩
abbrev cX7_makeEmpty : ByteArray := prog_9_method_2_code
def yX7_makeEmpty : MethodName := ⟨RX7, "makeEmpty", "()V"⟩
abbrev cX7_copyFrom : ByteArray := prog_9_method_3_code
def yX7_copyFrom : MethodName := ⟨RX7, "copyFrom", "(LUnsaidScales$ToldShop;)V"⟩
def RX8 : String := "UnsaidScales"
def TX8 : u_T := fun k => match k with
  | 0 => ("UnsaidScales", "text", "LUnsaidScales$TextReader;", true)
  | 1 => ("UnsaidScales", "told", "LUnsaidScales$ToldShop;", true)
  | 2 => ("UnsaidScales", "draft", "LUnsaidScales$ToldShop;", true)
  | 3 => ("UnsaidScales", "present", "LUnsaidScales$Moment;", true)
  | 4 => ("UnsaidScales", "history", "LUnsaidScales$History;", true)
  | 5 => ("UnsaidScales", "images", "[LUnsaidScales$Moment;", true)
  | 6 => ("UnsaidScales", "kept", "[Z", true)
  | 7 => ("UnsaidScales", "orders", "LUnsaidScales$OrderTable;", true)
  | 8 => ("UnsaidScales", "drawer", "LUnsaidScales$Drawer;", true)
  | 9 => ("UnsaidScales", "leastSaid", "LUnsaidScales$LeastSaid;", true)
  | 10 => ("UnsaidScales", "evidence", "LUnsaidScales$Evidence;", true)
  | _ => ("UnsaidScales", "traced", "J", false)
def tyX8 : Nat → FieldType := fun k => match k with
  | 0 => .object "UnsaidScales$TextReader"
  | 1 => .object "UnsaidScales$ToldShop"
  | 2 => .object "UnsaidScales$ToldShop"
  | 3 => .object "UnsaidScales$Moment"
  | 4 => .object "UnsaidScales$History"
  | 5 => .array (.object "UnsaidScales$Moment")
  | 6 => .array .boolean
  | 7 => .object "UnsaidScales$OrderTable"
  | 8 => .object "UnsaidScales$Drawer"
  | 9 => .object "UnsaidScales$LeastSaid"
  | 10 => .object "UnsaidScales$Evidence"
  | _ => .long
abbrev wsX80 : List Cond := u_ws RX8 TX8 12
theorem nmX8 : ∀ a, a < 12 → ∀ b, b < 12 → a ≠ b → (TX8 a).2.1 ≠ (TX8 b).2.1 := by decide +kernel
theorem tyX8_ok : ∀ k, k < 12 → parseFieldDescriptor (TX8 k).2.2.1 = some (tyX8 k) := by decide +kernel
abbrev cX8_init : ByteArray := prog_1_method_1_code
def yX8_init : MethodName := ⟨RX8, "<init>", "()V"⟩
abbrev cX8_type : ByteArray := prog_1_method_2_code
def yX8_type : MethodName := ⟨RX8, "type", "(I)I"⟩
abbrev cX8_clear : ByteArray := prog_1_method_3_code
def yX8_clear : MethodName := ⟨RX8, "clear", "()I"⟩
abbrev cX8_shop : ByteArray := prog_1_method_4_code
def yX8_shop : MethodName := ⟨RX8, "shop", "()I"⟩
abbrev cX8_holds : ByteArray := prog_1_method_5_code
def yX8_holds : MethodName := ⟨RX8, "holds", "(II)I"⟩
abbrev cX8_grows : ByteArray := prog_1_method_6_code
def yX8_grows : MethodName := ⟨RX8, "grows", "(II)I"⟩
abbrev cX8_weight : ByteArray := prog_1_method_7_code
def yX8_weight : MethodName := ⟨RX8, "weight", "(I)I"⟩
abbrev cX8_heavy : ByteArray := prog_1_method_8_code
def yX8_heavy : MethodName := ⟨RX8, "heavy", "(I)I"⟩
abbrev cX8_known : ByteArray := prog_1_method_9_code
def yX8_known : MethodName := ⟨RX8, "known", "(II)I"⟩
abbrev cX8_now : ByteArray := prog_1_method_10_code
def yX8_now : MethodName := ⟨RX8, "now", "(I)I"⟩
abbrev cX8_tells : ByteArray := prog_1_method_11_code
def yX8_tells : MethodName := ⟨RX8, "tells", "(III)I"⟩
abbrev cX8_keeps : ByteArray := prog_1_method_12_code
def yX8_keeps : MethodName := ⟨RX8, "keeps", "(II)I"⟩
abbrev cX8_day : ByteArray := prog_1_method_13_code
def yX8_day : MethodName := ⟨RX8, "day", "()I"⟩
abbrev cX8_weighs : ByteArray := prog_1_method_14_code
def yX8_weighs : MethodName := ⟨RX8, "weighs", "(II)I"⟩
abbrev cX8_forgets : ByteArray := prog_1_method_15_code
def yX8_forgets : MethodName := ⟨RX8, "forgets", "()I"⟩
abbrev cX8_undo : ByteArray := prog_1_method_16_code
def yX8_undo : MethodName := ⟨RX8, "undo", "()I"⟩
abbrev cX8_beam : ByteArray := prog_1_method_17_code
def yX8_beam : MethodName := ⟨RX8, "beam", "(II)I"⟩
abbrev cX8_level : ByteArray := prog_1_method_18_code
def yX8_level : MethodName := ⟨RX8, "level", "(III)I"⟩
abbrev cX8_when : ByteArray := prog_1_method_19_code
def yX8_when : MethodName := ⟨RX8, "when", "(II)I"⟩
abbrev cX8_odds : ByteArray := prog_1_method_20_code
def yX8_odds : MethodName := ⟨RX8, "odds", "(IIIII)J"⟩
abbrev cX8_brass : ByteArray := prog_1_method_21_code
def yX8_brass : MethodName := ⟨RX8, "brass", "(II)I"⟩
abbrev cX8_shows : ByteArray := prog_1_method_22_code
def yX8_shows : MethodName := ⟨RX8, "shows", "(III)I"⟩
abbrev cX8_can : ByteArray := prog_1_method_23_code
def yX8_can : MethodName := ⟨RX8, "can", "(II)I"⟩
abbrev cX8_saw : ByteArray := prog_1_method_24_code
def yX8_saw : MethodName := ⟨RX8, "saw", "(II)I"⟩
abbrev cX8_laws : ByteArray := prog_1_method_25_code
def yX8_laws : MethodName := ⟨RX8, "laws", "(II)I"⟩
abbrev cX8_clean : ByteArray := prog_1_method_26_code
def yX8_clean : MethodName := ⟨RX8, "clean", "()I"⟩
abbrev cX8_rate : ByteArray := prog_1_method_27_code
def yX8_rate : MethodName := ⟨RX8, "rate", "(II)I"⟩
abbrev cX8_keep : ByteArray := prog_1_method_28_code
def yX8_keep : MethodName := ⟨RX8, "keep", "(I)I"⟩
abbrev cX8_back : ByteArray := prog_1_method_29_code
def yX8_back : MethodName := ⟨RX8, "back", "(I)I"⟩
abbrev cX8_count : ByteArray := prog_1_method_30_code
def yX8_count : MethodName := ⟨RX8, "count", "(I)I"⟩
abbrev cX8_trace : ByteArray := prog_1_method_31_code
def yX8_trace : MethodName := ⟨RX8, "trace", "()J"⟩
abbrev cX8_beginAnew : ByteArray := prog_1_method_32_code
def yX8_beginAnew : MethodName := ⟨RX8, "beginAnew", "()V"⟩
abbrev cX8_within : ByteArray := prog_1_method_33_code
def yX8_within : MethodName := ⟨RX8, "within", "(III)Z"⟩
abbrev cX8_isSort : ByteArray := prog_1_method_34_code
def yX8_isSort : MethodName := ⟨RX8, "isSort", "(I)Z"⟩
abbrev cX8_isPerson : ByteArray := prog_1_method_35_code
def yX8_isPerson : MethodName := ⟨RX8, "isPerson", "(I)Z"⟩
abbrev cX8_isPair : ByteArray := prog_1_method_36_code
def yX8_isPair : MethodName := ⟨RX8, "isPair", "(II)Z"⟩
abbrev cX8_heavinessOf : ByteArray := prog_1_method_37_code
def yX8_heavinessOf : MethodName := ⟨RX8, "heavinessOf", "(I)I"⟩
abbrev cX8_heavinessAhead : ByteArray := prog_1_method_38_code
def yX8_heavinessAhead : MethodName := ⟨RX8, "heavinessAhead", "(II)I"⟩
abbrev cX8_pairOf : ByteArray := prog_1_method_39_code
def yX8_pairOf : MethodName := ⟨RX8, "pairOf", "(II)I"⟩
abbrev cX8_foundOf : ByteArray := prog_1_method_40_code
def yX8_foundOf : MethodName := ⟨RX8, "foundOf", "(II)I"⟩
abbrev cX8_withFound : ByteArray := prog_1_method_41_code
def yX8_withFound : MethodName := ⟨RX8, "withFound", "(III)I"⟩
abbrev cX8_compareLower : ByteArray := prog_1_method_42_code
def yX8_compareLower : MethodName := ⟨RX8, "compareLower", "(II)I"⟩
abbrev cX8_knownOf : ByteArray := prog_1_method_43_code
def yX8_knownOf : MethodName := ⟨RX8, "knownOf", "(II)I"⟩
abbrev cX8_knownPairs : ByteArray := prog_1_method_44_code
def yX8_knownPairs : MethodName := ⟨RX8, "knownPairs", "()I"⟩
abbrev cX8_planned : ByteArray := prog_1_method_45_code
def yX8_planned : MethodName := ⟨RX8, "planned", "(I)I"⟩
abbrev cX8_lighterWays : ByteArray := prog_1_method_46_code
def yX8_lighterWays : MethodName := ⟨RX8, "lighterWays", "(IIII)J"⟩
abbrev cX8_power : ByteArray := prog_1_method_47_code
def yX8_power : MethodName := ⟨RX8, "power", "(II)J"⟩
abbrev cX8_commonDivisor : ByteArray := prog_1_method_48_code
def yX8_commonDivisor : MethodName := ⟨RX8, "commonDivisor", "(JJ)J"⟩
abbrev cX8_asPerson : ByteArray := prog_1_method_49_code
def yX8_asPerson : MethodName := ⟨RX8, "asPerson", "(I)I"⟩
abbrev cX8_asBride : ByteArray := prog_1_method_50_code
def yX8_asBride : MethodName := ⟨RX8, "asBride", "(I)I"⟩
abbrev cX8_asPartner : ByteArray := prog_1_method_51_code
def yX8_asPartner : MethodName := ⟨RX8, "asPartner", "(I)I"⟩
abbrev cX8_asBrother : ByteArray := prog_1_method_52_code
def yX8_asBrother : MethodName := ⟨RX8, "asBrother", "(I)I"⟩
abbrev cX8_asBankrupt : ByteArray := prog_1_method_53_code
def yX8_asBankrupt : MethodName := ⟨RX8, "asBankrupt", "(I)I"⟩
abbrev cX8_asStranger : ByteArray := prog_1_method_54_code
def yX8_asStranger : MethodName := ⟨RX8, "asStranger", "(I)I"⟩
abbrev cX8_sumOfSorts : ByteArray := prog_1_method_55_code
def yX8_sumOfSorts : MethodName := ⟨RX8, "sumOfSorts", "([II)I"⟩
def RX9 : String := "UnsaidScalesModel"
def TX9 : u_T := fun k => match k with
  | 0 => ("UnsaidScalesModel", "thrown", "I", false)
  | 1 => ("UnsaidScalesModel", "trace", "J", false)
  | 2 => ("UnsaidScalesModel", "text", "[I", true)
  | 3 => ("UnsaidScalesModel", "typed", "I", false)
  | 4 => ("UnsaidScalesModel", "next", "I", false)
  | 5 => ("UnsaidScalesModel", "token", "I", false)
  | 6 => ("UnsaidScalesModel", "place", "I", false)
  | 7 => ("UnsaidScalesModel", "value", "I", false)
  | 8 => ("UnsaidScalesModel", "fault", "I", false)
  | 9 => ("UnsaidScalesModel", "many", "[I", true)
  | 10 => ("UnsaidScalesModel", "weight", "[I", true)
  | 11 => ("UnsaidScalesModel", "begun", "[I", true)
  | 12 => ("UnsaidScalesModel", "grows", "[I", true)
  | 13 => ("UnsaidScalesModel", "brass", "[I", true)
  | 14 => ("UnsaidScalesModel", "s", "[I", true)
  | 15 => ("UnsaidScalesModel", "kept", "[I", true)
  | 16 => ("UnsaidScalesModel", "isKept", "[Z", true)
  | 17 => ("UnsaidScalesModel", "undos", "[I", true)
  | 18 => ("UnsaidScalesModel", "undoMany", "I", false)
  | 19 => ("UnsaidScalesModel", "shownOf", "[I", true)
  | 20 => ("UnsaidScalesModel", "shownBrass", "[I", true)
  | 21 => ("UnsaidScalesModel", "shownHow", "[I", true)
  | 22 => ("UnsaidScalesModel", "shown", "I", false)
  | 23 => ("UnsaidScalesModel", "seenOf", "[I", true)
  | 24 => ("UnsaidScalesModel", "seenMore", "[I", true)
  | 25 => ("UnsaidScalesModel", "seen", "I", false)
  | 26 => ("UnsaidScalesModel", "orders", "[I", true)
  | 27 => ("UnsaidScalesModel", "orderMany", "I", false)
  | 28 => ("UnsaidScalesModel", "ordersBy", "[I", true)
  | 29 => ("UnsaidScalesModel", "worstBy", "[I", true)
  | 30 => ("UnsaidScalesModel", "fewest", "[I", true)
  | 31 => ("UnsaidScalesModel", "canWeigh", "[Z", true)
  | 32 => ("UnsaidScalesModel", "pan", "I", false)
  | _ => ("UnsaidScalesModel", "otherPan", "I", false)
def tyX9 : Nat → FieldType := fun k => match k with
  | 0 => .int
  | 1 => .long
  | 2 => .array .int
  | 3 => .int
  | 4 => .int
  | 5 => .int
  | 6 => .int
  | 7 => .int
  | 8 => .int
  | 9 => .array .int
  | 10 => .array .int
  | 11 => .array .int
  | 12 => .array .int
  | 13 => .array .int
  | 14 => .array .int
  | 15 => .array .int
  | 16 => .array .boolean
  | 17 => .array .int
  | 18 => .int
  | 19 => .array .int
  | 20 => .array .int
  | 21 => .array .int
  | 22 => .int
  | 23 => .array .int
  | 24 => .array .int
  | 25 => .int
  | 26 => .array .int
  | 27 => .int
  | 28 => .array .int
  | 29 => .array .int
  | 30 => .array .int
  | 31 => .array .boolean
  | 32 => .int
  | _ => .int
abbrev wsX90 : List Cond := u_ws RX9 TX9 34
theorem nmX9 : ∀ a, a < 34 → ∀ b, b < 34 → a ≠ b → (TX9 a).2.1 ≠ (TX9 b).2.1 := by decide +kernel
theorem tyX9_ok : ∀ k, k < 34 → parseFieldDescriptor (TX9 k).2.2.1 = some (tyX9 k) := by decide +kernel
abbrev cX9_init : ByteArray := prog_11_method_1_code
def yX9_init : MethodName := ⟨RX9, "<init>", "()V"⟩
abbrev cX9_in : ByteArray := prog_11_method_3_code
def yX9_in : MethodName := ⟨RX9, "in", "(III)Z"⟩
abbrev cX9_type : ByteArray := prog_11_method_4_code
def yX9_type : MethodName := ⟨RX9, "type", "(I)I"⟩
abbrev cX9_clear : ByteArray := prog_11_method_5_code
def yX9_clear : MethodName := ⟨RX9, "clear", "()I"⟩
abbrev cX9_letterAt : ByteArray := prog_11_method_6_code
def yX9_letterAt : MethodName := ⟨RX9, "letterAt", "(I)I"⟩
abbrev cX9_advances : ByteArray := prog_11_method_7_code
def yX9_advances : MethodName := ⟨RX9, "advances", "()V"⟩
abbrev cX9_isWell : ByteArray := prog_11_method_8_code
def yX9_isWell : MethodName := ⟨RX9, "isWell", "()Z"⟩
abbrev cX9_takes : ByteArray := prog_11_method_9_code
def yX9_takes : MethodName := ⟨RX9, "takes", "(Z)I"⟩
abbrev cX9_number : ByteArray := prog_11_method_10_code
def yX9_number : MethodName := ⟨RX9, "number", "(II)I"⟩
abbrev cX9_begins : ByteArray := prog_11_method_11_code
def yX9_begins : MethodName := ⟨RX9, "begins", "()V"⟩
abbrev cX9_readsItem : ByteArray := prog_11_method_12_code
def yX9_readsItem : MethodName := ⟨RX9, "readsItem", "(I)V"⟩
abbrev cX9_mayBegin : ByteArray := prog_11_method_13_code
def yX9_mayBegin : MethodName := ⟨RX9, "mayBegin", "()Z"⟩
abbrev cX9_shop : ByteArray := prog_11_method_14_code
def yX9_shop : MethodName := ⟨RX9, "shop", "()I"⟩
abbrev cX9_settles : ByteArray := prog_11_method_15_code
def yX9_settles : MethodName := ⟨RX9, "settles", "()V"⟩
abbrev cX9_isPerson : ByteArray := prog_11_method_16_code
def yX9_isPerson : MethodName := ⟨RX9, "isPerson", "(I)Z"⟩
abbrev cX9_isSort : ByteArray := prog_11_method_17_code
def yX9_isSort : MethodName := ⟨RX9, "isSort", "(I)Z"⟩
abbrev cX9_isPair : ByteArray := prog_11_method_18_code
def yX9_isPair : MethodName := ⟨RX9, "isPair", "(II)Z"⟩
abbrev cX9_heaviness : ByteArray := prog_11_method_19_code
def yX9_heaviness : MethodName := ⟨RX9, "heaviness", "(I)I"⟩
abbrev cX9_holds : ByteArray := prog_11_method_20_code
def yX9_holds : MethodName := ⟨RX9, "holds", "(II)I"⟩
abbrev cX9_grows : ByteArray := prog_11_method_21_code
def yX9_grows : MethodName := ⟨RX9, "grows", "(II)I"⟩
abbrev cX9_weight : ByteArray := prog_11_method_22_code
def yX9_weight : MethodName := ⟨RX9, "weight", "(I)I"⟩
abbrev cX9_heavy : ByteArray := prog_11_method_23_code
def yX9_heavy : MethodName := ⟨RX9, "heavy", "(I)I"⟩
abbrev cX9_pairOf : ByteArray := prog_11_method_24_code
def yX9_pairOf : MethodName := ⟨RX9, "pairOf", "(II)I"⟩
abbrev cX9_lowerOf : ByteArray := prog_11_method_25_code
def yX9_lowerOf : MethodName := ⟨RX9, "lowerOf", "(I)I"⟩
abbrev cX9_upperOf : ByteArray := prog_11_method_26_code
def yX9_upperOf : MethodName := ⟨RX9, "upperOf", "(I)I"⟩
abbrev cX9_isPairNumber : ByteArray := prog_11_method_27_code
def yX9_isPairNumber : MethodName := ⟨RX9, "isPairNumber", "(I)Z"⟩
abbrev cX9_turned : ByteArray := prog_11_method_28_code
def yX9_turned : MethodName := ⟨RX9, "turned", "(I)I"⟩
abbrev cX9_known : ByteArray := prog_11_method_29_code
def yX9_known : MethodName := ⟨RX9, "known", "(II)I"⟩
abbrev cX9_orders : ByteArray := prog_11_method_30_code
def yX9_orders : MethodName := ⟨RX9, "orders", "()V"⟩
abbrev cX9_worsts : ByteArray := prog_11_method_31_code
def yX9_worsts : MethodName := ⟨RX9, "worsts", "()V"⟩
abbrev cX9_worstBehind : ByteArray := prog_11_method_32_code
def yX9_worstBehind : MethodName := ⟨RX9, "worstBehind", "(II)I"⟩
abbrev cX9_codeNow : ByteArray := prog_11_method_33_code
def yX9_codeNow : MethodName := ⟨RX9, "codeNow", "()I"⟩
abbrev cX9_nextPair : ByteArray := prog_11_method_34_code
def yX9_nextPair : MethodName := ⟨RX9, "nextPair", "()I"⟩
abbrev cX9_knownMany : ByteArray := prog_11_method_35_code
def yX9_knownMany : MethodName := ⟨RX9, "knownMany", "()I"⟩
abbrev cX9_range : ByteArray := prog_11_method_36_code
def yX9_range : MethodName := ⟨RX9, "range", "()I"⟩
abbrev cX9_now : ByteArray := prog_11_method_37_code
def yX9_now : MethodName := ⟨RX9, "now", "(I)I"⟩
abbrev cX9_notes : ByteArray := prog_11_method_38_code
def yX9_notes : MethodName := ⟨RX9, "notes", "()V"⟩
abbrev cX9_gets : ByteArray := prog_11_method_39_code
def yX9_gets : MethodName := ⟨RX9, "gets", "(III)V"⟩
abbrev cX9_tells : ByteArray := prog_11_method_40_code
def yX9_tells : MethodName := ⟨RX9, "tells", "(III)I"⟩
abbrev cX9_keeps : ByteArray := prog_11_method_41_code
def yX9_keeps : MethodName := ⟨RX9, "keeps", "(II)I"⟩
abbrev cX9_day : ByteArray := prog_11_method_42_code
def yX9_day : MethodName := ⟨RX9, "day", "()I"⟩
abbrev cX9_weighs : ByteArray := prog_11_method_43_code
def yX9_weighs : MethodName := ⟨RX9, "weighs", "(II)I"⟩
abbrev cX9_forgets : ByteArray := prog_11_method_44_code
def yX9_forgets : MethodName := ⟨RX9, "forgets", "()I"⟩
abbrev cX9_undo : ByteArray := prog_11_method_45_code
def yX9_undo : MethodName := ⟨RX9, "undo", "()I"⟩
abbrev cX9_beam : ByteArray := prog_11_method_46_code
def yX9_beam : MethodName := ⟨RX9, "beam", "(II)I"⟩
abbrev cX9_sheds : ByteArray := prog_11_method_47_code
def yX9_sheds : MethodName := ⟨RX9, "sheds", "(II)V"⟩
abbrev cX9_canSay : ByteArray := prog_11_method_48_code
def yX9_canSay : MethodName := ⟨RX9, "canSay", "(II)Z"⟩
abbrev cX9_weighsOf : ByteArray := prog_11_method_49_code
def yX9_weighsOf : MethodName := ⟨RX9, "weighsOf", "(I)I"⟩
abbrev cX9_wayOf : ByteArray := prog_11_method_50_code
def yX9_wayOf : MethodName := ⟨RX9, "wayOf", "(III)I"⟩
abbrev cX9_level : ByteArray := prog_11_method_51_code
def yX9_level : MethodName := ⟨RX9, "level", "(III)I"⟩
abbrev cX9_heavinessThen : ByteArray := prog_11_method_52_code
def yX9_heavinessThen : MethodName := ⟨RX9, "heavinessThen", "(II)I"⟩
abbrev cX9_when : ByteArray := prog_11_method_53_code
def yX9_when : MethodName := ⟨RX9, "when", "(II)I"⟩
abbrev cX9_gcd : ByteArray := prog_11_method_54_code
def yX9_gcd : MethodName := ⟨RX9, "gcd", "(JJ)J"⟩
abbrev cX9_odds : ByteArray := prog_11_method_55_code
def yX9_odds : MethodName := ⟨RX9, "odds", "(IIIII)J"⟩
abbrev cX9_sumOf : ByteArray := prog_11_method_56_code
def yX9_sumOf : MethodName := ⟨RX9, "sumOf", "(I)I"⟩
abbrev cX9_pieces : ByteArray := prog_11_method_57_code
def yX9_pieces : MethodName := ⟨RX9, "pieces", "(I)I"⟩
abbrev cX9_brass : ByteArray := prog_11_method_58_code
def yX9_brass : MethodName := ⟨RX9, "brass", "(II)I"⟩
abbrev cX9_shows : ByteArray := prog_11_method_59_code
def yX9_shows : MethodName := ⟨RX9, "shows", "(III)I"⟩
abbrev cX9_isAsShown : ByteArray := prog_11_method_60_code
def yX9_isAsShown : MethodName := ⟨RX9, "isAsShown", "(II)Z"⟩
abbrev cX9_can : ByteArray := prog_11_method_61_code
def yX9_can : MethodName := ⟨RX9, "can", "(II)I"⟩
abbrev cX9_saw : ByteArray := prog_11_method_62_code
def yX9_saw : MethodName := ⟨RX9, "saw", "(II)I"⟩
abbrev cX9_laws : ByteArray := prog_11_method_63_code
def yX9_laws : MethodName := ⟨RX9, "laws", "(II)I"⟩
abbrev cX9_clean : ByteArray := prog_11_method_64_code
def yX9_clean : MethodName := ⟨RX9, "clean", "()I"⟩
abbrev cX9_rate : ByteArray := prog_11_method_65_code
def yX9_rate : MethodName := ⟨RX9, "rate", "(II)I"⟩
abbrev cX9_keep : ByteArray := prog_11_method_66_code
def yX9_keep : MethodName := ⟨RX9, "keep", "(I)I"⟩
abbrev cX9_back : ByteArray := prog_11_method_67_code
def yX9_back : MethodName := ⟨RX9, "back", "(I)I"⟩
abbrev cX9_count : ByteArray := prog_11_method_68_code
def yX9_count : MethodName := ⟨RX9, "count", "(I)I"⟩
abbrev cX9_trace : ByteArray := prog_11_method_69_code
def yX9_trace : MethodName := ⟨RX9, "trace", "()J"⟩
def RJ6 : String := "java/lang/Integer"
def TJ6 : u_T := fun k => match k with
  | _ => ("", "", "", false)
def tyJ6 : Nat → FieldType := fun k => match k with
  | _ => .int
abbrev wsJ60 : List Cond := u_ws RJ6 TJ6 0
theorem nmJ6 : ∀ a, a < 0 → ∀ b, b < 0 → a ≠ b → (TJ6 a).2.1 ≠ (TJ6 b).2.1 := by decide +kernel
theorem tyJ6_ok : ∀ k, k < 0 → parseFieldDescriptor (TJ6 k).2.2.1 = some (tyJ6 k) := by decide +kernel
abbrev cJ6_bitCount_0f7a4 : ByteArray := prog_12_method_49_code
def yJ6_bitCount_0f7a4 : MethodName := ⟨RJ6, "bitCount", "(I)I"⟩
def RJ9 : String := "java/lang/Math"
def TJ9 : u_T := fun k => match k with
  | _ => ("", "", "", false)
def tyJ9 : Nat → FieldType := fun k => match k with
  | _ => .int
abbrev wsJ90 : List Cond := u_ws RJ9 TJ9 0
theorem nmJ9 : ∀ a, a < 0 → ∀ b, b < 0 → a ≠ b → (TJ9 a).2.1 ≠ (TJ9 b).2.1 := by decide +kernel
theorem tyJ9_ok : ∀ k, k < 0 → parseFieldDescriptor (TJ9 k).2.2.1 = some (tyJ9 k) := by decide +kernel
abbrev cJ9_max_7cf53 : ByteArray := prog_13_method_65_code
def yJ9_max_7cf53 : MethodName := ⟨RJ9, "max", "(II)I"⟩
abbrev cJ9_min_7cf53 : ByteArray := prog_13_method_69_code
def yJ9_min_7cf53 : MethodName := ⟨RJ9, "min", "(II)I"⟩
def RJ10 : String := "java/lang/System"
def TJ10 : u_T := fun k => match k with
  | _ => ("", "", "", false)
def tyJ10 : Nat → FieldType := fun k => match k with
  | _ => .int
abbrev wsJ100 : List Cond := u_ws RJ10 TJ10 0
theorem nmJ10 : ∀ a, a < 0 → ∀ b, b < 0 → a ≠ b → (TJ10 a).2.1 ≠ (TJ10 b).2.1 := by decide +kernel
theorem tyJ10_ok : ∀ k, k < 0 → parseFieldDescriptor (TJ10 k).2.2.1 = some (tyJ10 k) := by decide +kernel
def RJ7 : String := "java/util/Arrays"
def TJ7 : u_T := fun k => match k with
  | _ => ("", "", "", false)
def tyJ7 : Nat → FieldType := fun k => match k with
  | _ => .int
abbrev wsJ70 : List Cond := u_ws RJ7 TJ7 0
theorem nmJ7 : ∀ a, a < 0 → ∀ b, b < 0 → a ≠ b → (TJ7 a).2.1 ≠ (TJ7 b).2.1 := by decide +kernel
theorem tyJ7_ok : ∀ k, k < 0 → parseFieldDescriptor (TJ7 k).2.2.1 = some (tyJ7 k) := by decide +kernel
abbrev cJ7_fill_53178 : ByteArray := prog_15_method_103_code
def yJ7_fill_53178 : MethodName := ⟨RJ7, "fill", "([II)V"⟩
def RL : String := "UnsaidScalesLaw"
abbrev cL_law : ByteArray := code
def yL_law : MethodName := ⟨RL, "law", "([I)Z"⟩
abbrev vwCl : List vw_C := [(RX0, TX0, 2), (RX1, TX1, 9), (RX2, TX2, 3), (RX3, TX3, 6), (RX4, TX4, 3), (RX5, TX5, 4), (RX6, TX6, 4), (RX7, TX7, 6), (RX8, TX8, 12), (RX9, TX9, 34)]
end
section
-- ABSTRACT STATE: values, heap (cell, place), references, and what the machine's heap must hold for it
abbrev aV : Type := Int ⊕ (Int ⊕ Option Nat)
abbrev vI (x : Int) : aV := Sum.inl x
abbrev vL (x : Int) : aV := Sum.inr (Sum.inl x)
abbrev vR (k : Nat) : aV := Sum.inr (Sum.inr (some k))
abbrev aH : Type := Nat → Int → Int
abbrev aG : Type := Nat → Int → Option Nat
abbrev Gm : Type := va_G × (Nat → ClassId) × Nat × Nat × Nat
def ad (Γ : Gm) (k : Nat) : Nat := if k = 1000 then Γ.2.2.2.1 else if k = 1001 then Γ.2.2.2.2 else Γ.2.2.1 + k
def AA (Γ : Gm) : Nat → Prop := fun q => Γ.2.2.1 ≤ q
def enc (Γ : Gm) (v : aV) : Value := match v with
  | .inl x => .int (Int32.ofInt x)
  | .inr (.inl x) => .long (Int64.ofInt x)
  | .inr (.inr r) => va_rf (r.map (ad Γ))
/-- the cells in the order in which they are made: (class 0 .. 9, 0) or (10 int, 11 char, 12 short, 13 boolean, 14 Moment; length) -/
def kdl : List (Nat × Nat) := [(8,0), (6,0), (11,150), (7,0), (10,4), (10,16), (10,16), (10,5), (7,0), (10,4), (10,16), (10,16), (10,5), (4,0), (10,16), (2,0), (14,10), (4,0), (10,16), (4,0), (10,16), (4,0), (10,16), (4,0), (10,16), (4,0), (10,16), (4,0), (10,16), (4,0), (10,16), (4,0), (10,16), (4,0), (10,16), (4,0), (10,16), (14,2), (4,0), (10,16), (4,0), (10,16), (13,2), (5,0), (12,4096), (10,4), (0,0), (10,32), (10,301), (3,0), (10,721), (10,721), (1,0), (10,6), (10,6), (10,6), (10,6), (10,6), (10,721), (9,0), (10,150), (10,4), (10,8), (10,16), (10,32), (10,10), (10,23), (10,46), (13,2), (10,230), (10,6), (10,6), (10,6), (10,6), (10,6), (10,75), (10,4096), (10,4096), (10,1442), (13,301)]
def kd (k : Nat) : Nat × Nat := kdl.getD k (10, 0)
def nf (ci : Nat) : Nat := ([2, 9, 3, 6, 3, 4, 4, 6, 12, 34] : List Nat).getD ci 0
def tyOf (ci : Nat) : Nat → FieldType := match ci with
  | 0 => tyX0
  | 1 => tyX1
  | 2 => tyX2
  | 3 => tyX3
  | 4 => tyX4
  | 5 => tyX5
  | 6 => tyX6
  | 7 => tyX7
  | 8 => tyX8
  | _ => tyX9
def fval (Γ : Gm) (ty : FieldType) (x : Int) (r : Option Nat) : Value := match ty with
  | .int => .int (Int32.ofInt x)
  | .boolean => .int (Int32.ofInt x)
  | .long => .long (Int64.ofInt x)
  | _ => va_rf (r.map (ad Γ))
def cw (Γ : Gm) (g : aG) (h : aH) (k : Nat) : va_E :=
  if (kd k).1 < 10 then .inr ((kd k).1, (List.range (nf (kd k).1)).map (fun j => fval Γ (tyOf (kd k).1 j) (h k (j : Int)) (g k (j : Int))))
  else if (kd k).1 < 14 then .inl (Γ.2.1 ((kd k).1 - 10), (kd k).2, .inl (fun j => Int32.ofInt (h k (j : Int))))
  else .inl (Γ.2.1 4, (kd k).2, .inr (.inr (.inr (.inr (fun j => (g k (j : Int)).map (ad Γ))))))
def aw (Γ : Gm) (n : Nat) (g : aG) (h : aH) : va_W := (List.range n).map (fun k => (Γ.2.2.1 + k, cw Γ g h k))
def tysG (Γ : Gm) : List (ClassId × FieldType) := [(Γ.2.1 0, .int), (Γ.2.1 1, .char), (Γ.2.1 2, .short), (Γ.2.1 3, .boolean), (Γ.2.1 4, .object RX4)]
def HR (Γ : Gm) (n : Nat) (g : aG) (h : aH) (H : Heap) : Prop := n ≤ 1000 ∧ va_P Γ.1 vwCl (aw Γ n g h) H
def sl (n : Nat) : Nat := ((List.range n).map (fun k => if (kd k).1 < 10 then nf (kd k).1 else (kd k).2)).sum
def up (h : aH) (k : Nat) (i : Int) (x : Int) : aH := fun k' i' => if k' = k ∧ i' = i then x else h k' i'
def upg (g : aG) (k : Nat) (i : Int) (x : Option Nat) : aG := fun k' i' => if k' = k ∧ i' = i then x else g k' i'
def inR (x : Int) : Prop := -2147483648 ≤ x ∧ x < 2147483648
def inL (x : Int) : Prop := -9223372036854775808 ≤ x ∧ x < 9223372036854775808
-- THE WORDS
def gtb : List Cond := lw_tbl.filter goodWord
theorem gtb_good : ∀ w ∈ gtb, (w.onTables && w.keeps) = true ∨ ∃ ty, w = .arrayClass ty := fun _ h => good_of_word (List.mem_filter.mp h).2
def isNest (w : Cond) : Bool := match w with
  | .fieldLinkNest _ _ _ _ _ _ => true
  | .methodLinkNest _ _ _ _ => true
  | _ => false
theorem isNest_warm {w : Cond} (hw : isNest w = true) {s U : State} (hW : s.WarmedH U.vm) (h : va_Nw w s) : va_Nw w U := by
  cases w <;> first | exact va_Nw.warmF hW h | exact va_Nw.warmM hW h | cases hw
theorem isNest_tab {w : Cond} (hw : isNest w = true) : w.onTables = true := by
  cases w <;> first | rfl | cases hw
def cC (ci : Nat) : String := (vwCl.getD ci (RX9, TX9, 34)).1
def cT (ci : Nat) : u_T := (vwCl.getD ci (RX9, TX9, 34)).2.1
def Cf (ci : Nat) : Prop := vwCl[ci]? = some (cC ci, cT ci, nf ci) ∧ (∀ w ∈ u_ws (cC ci) (cT ci) (nf ci), w ∈ gtb) ∧ (∀ k, k < nf ci → parseFieldDescriptor (cT ci k).2.2.1 = some (tyOf ci k)) ∧ (∀ a, a < nf ci → ∀ b, b < nf ci → a ≠ b → (cT ci a).2.1 ≠ (cT ci b).2.1) ∧ ∀ k, k < nf ci → (cT ci k).1 = cC ci
set_option maxRecDepth 100000 in
theorem cf0 : Cf 0 := ⟨rfl, by decide +kernel, tyX0_ok, nmX0, by decide +kernel⟩
set_option maxRecDepth 100000 in
theorem cf1 : Cf 1 := ⟨rfl, by decide +kernel, tyX1_ok, nmX1, by decide +kernel⟩
set_option maxRecDepth 100000 in
theorem cf2 : Cf 2 := ⟨rfl, by decide +kernel, tyX2_ok, nmX2, by decide +kernel⟩
set_option maxRecDepth 100000 in
theorem cf3 : Cf 3 := ⟨rfl, by decide +kernel, tyX3_ok, nmX3, by decide +kernel⟩
set_option maxRecDepth 100000 in
theorem cf4 : Cf 4 := ⟨rfl, by decide +kernel, tyX4_ok, nmX4, by decide +kernel⟩
set_option maxRecDepth 100000 in
theorem cf5 : Cf 5 := ⟨rfl, by decide +kernel, tyX5_ok, nmX5, by decide +kernel⟩
set_option maxRecDepth 100000 in
theorem cf6 : Cf 6 := ⟨rfl, by decide +kernel, tyX6_ok, nmX6, by decide +kernel⟩
set_option maxRecDepth 100000 in
theorem cf7 : Cf 7 := ⟨rfl, by decide +kernel, tyX7_ok, nmX7, by decide +kernel⟩
set_option maxRecDepth 100000 in
theorem cf8 : Cf 8 := ⟨rfl, by decide +kernel, tyX8_ok, nmX8, by decide +kernel⟩
set_option maxRecDepth 100000 in
theorem cf9 : Cf 9 := ⟨rfl, by decide +kernel, tyX9_ok, nmX9, by decide +kernel⟩
theorem cf_all {ci : Nat} (h : ci < 10) : Cf ci := by
  rcases (show ci = 0 ∨ ci = 1 ∨ ci = 2 ∨ ci = 3 ∨ ci = 4 ∨ ci = 5 ∨ ci = 6 ∨ ci = 7 ∨ ci = 8 ∨ ci = 9 by omega) with rfl | rfl | rfl | rfl | rfl | rfl | rfl | rfl | rfl | rfl
  · exact cf0
  · exact cf1
  · exact cf2
  · exact cf3
  · exact cf4
  · exact cf5
  · exact cf6
  · exact cf7
  · exact cf8
  · exact cf9
def Lf (own : String) (idx ci j : Nat) : Prop := ci < 10 ∧ j < nf ci ∧ ((Cond.fieldLink own idx (cC ci) (cT ci j).2.1 (cT ci j).2.2.1 ∈ gtb) ∨ ∃ host, Cond.fieldLinkNest own idx (cC ci) (cT ci j).2.1 (cT ci j).2.2.1 host ∈ lw_tbl)
def fwv (j : Nat) : Int := ([1, 4, 9, 16] : List Int).getD j 0
def KK (Γ : Gm) (U : State) : Prop := va_K Γ.1 vwCl (tysG Γ) U ∧ (∀ w ∈ lw_tbl, isNest w = true → va_Nw w U) ∧ va_Z RX8 "FIRST_WEIGHTS" "[I" (.ref Γ.2.2.2.2) (AA Γ) U U.heap ∧ va_T .int Γ.2.2.2.2 4 (fun j => .int (Int32.ofInt (fwv j))) (AA Γ) U U.heap ∧ Γ.2.2.2.1 < Γ.2.2.1 ∧ Γ.2.2.2.2 < Γ.2.2.1 ∧ Γ.2.2.1 ≤ U.heap.size
/-- from a method's start to a state that it comes to -/
theorem KK.go {Γ : Gm} {s U : State} {H : Heap} {locs : List Loc} (h : KK Γ s) (hS : va_S (AA Γ) s.heap H locs) (hU : U.heap = H) (hW : s.WarmedH U.vm) : KK Γ U := by
  obtain ⟨h1, h2, h3, h4, h5, h6, h7⟩ := h
  refine ⟨va_K.moved hW.alike h1, fun w hw hn => isNest_warm hn hW (h2 w hw hn), ?_, ?_, h5, h6, ?_⟩
  · rw [hU]; exact va_Z.kept (va_Z.moved hW.alike h3) (fun a ha hA => hS.2.1 a ha hA)
  · rw [hU]; exact va_T.kept (va_T.moved hW.alike h4) (fun a ha hA => hS.2.1 a ha hA)
  · rw [hU]; exact Nat.le_trans h7 hS.1
theorem KK.blind {Γ : Gm} {U : State} {g : JFrame} {mk : MethodId} {a : Array Value} (h : KK Γ U) : KK Γ (U.calling g mk a) := by
  obtain ⟨h1, h2, h3, h4, h5, h6, h7⟩ := h
  exact ⟨va_K.moved (u := U) (U := U.calling g mk a) (Vm.Alike.refl U.vm) h1, fun w hw hn => va_Nw.same (u := U) (U := U.calling g mk a) (isNest_tab hn) rfl (h2 w hw hn), va_Z.moved (u := U) (U := U.calling g mk a) (Vm.Alike.refl U.vm) h3, va_T.moved (u := U) (U := U.calling g mk a) (Vm.Alike.refl U.vm) h4, h5, h6, h7⟩
-- AN ACTIVATION
def Ac (Γ : Gm) (p : Program) (s : State) (m : MethodId) (args : Array Value) (meth : Method) (c : Code) (own : String) (cc : ByteArray) (nL : Nat) (rt : Option FieldType) : Prop :=
  p.tables.exec = Jvm.exec ∧ c.code = cc ∧ c.maxLocals = nL ∧ meth.sig.returnType = rt ∧ meth.locks = false ∧ s.vm.findClass own = some m.cls ∧ (∀ w ∈ gtb, w.before args s = true) ∧ KK Γ s
def LR (Γ : Gm) (nL : Nat) (L : List (Option aV)) (ls : Array Slot) : Prop := ls.size = nL ∧ lv_wf ls ∧ L.length = nL ∧ ∀ (i : Nat) (v : aV), L[i]? = some (some v) → ls[i]? = some (.val (enc Γ v))
def lvOf (Γ : Gm) (L : List (Option aV)) : List (Nat × Value) := (List.range L.length).filterMap (fun j => match L[j]? with
  | some (some w) => some (j, enc Γ w)
  | _ => none)
theorem lvOf_mem {Γ : Gm} {L : List (Option aV)} {j : Nat} {w : aV} (h : L[j]? = some (some w)) : (j, enc Γ w) ∈ lvOf Γ L := by
  have hj : j < L.length := (List.getElem?_eq_some_iff.mp h).1
  exact List.mem_filterMap.mpr ⟨j, List.mem_range.mpr hj, by rw [h]⟩
theorem lvOf_of {Γ : Gm} {L : List (Option aV)} {q : Nat × Value} (h : q ∈ lvOf Γ L) : ∃ w, L[q.1]? = some (some w) ∧ q.2 = enc Γ w := by
  obtain ⟨j, -, hj⟩ := List.mem_filterMap.mp h
  split at hj
  · rename_i w hw
    cases hj
    exact ⟨w, hw, rfl⟩
  · cases hj
theorem LR.has {Γ : Gm} {nL : Nat} {L : List (Option aV)} {ls : Array Slot} (h : LR Γ nL L ls) : lv_has ls nL (lvOf Γ L) := by
  refine ⟨h.1, h.2.1, fun q hq => ?_⟩
  obtain ⟨w, hw, e⟩ := lvOf_of hq
  rw [e]
  exact h.2.2.2 _ _ hw
def nlg (L : List (Option aV)) (i : Nat) : Bool := match i with
  | 0 => true
  | j + 1 => match L[j]? with
    | some (some (.inr (.inl _))) => false
    | _ => true
theorem enc_cat1 {Γ : Gm} {v : aV} (h : (enc Γ v).category = 2) : ∃ x, v = vL x := by
  rcases v with x | x | r
  · simp [enc, Value.category] at h
  · exact ⟨x, rfl⟩
  · cases r <;> simp [enc, va_rf, Value.category] at h
theorem nlg_spec {Γ : Gm} {L : List (Option aV)} {i j : Nat} {w : aV} (hn : nlg L i = true) (hj : L[j]? = some (some w)) (hi : j + 1 = i) : ¬ (enc Γ w).category = 2 := by
  intro h
  obtain ⟨x, rfl⟩ := enc_cat1 h
  subst hi
  simp [nlg, hj] at hn
theorem LR.st1 {Γ : Gm} {nL : Nat} {L : List (Option aV)} {ls ls' : Array Slot} {i : Nat} {v : aV} (h : LR Γ nL L ls) (hn : nlg L i = true)
    (h' : lv_has ls' nL ((i, enc Γ v) :: (lvOf Γ L).filter (fun q => !(q.1 == i) && !(q.1 + 1 == i && q.2.category == 2)))) : LR Γ nL (L.set i (some v)) ls' := by
  refine ⟨h'.1, h'.2.1, by rw [List.length_set]; exact h.2.2.1, fun j w hj => ?_⟩
  by_cases hij : i = j
  · subst hij
    rw [List.getElem?_set_self' ] at hj
    cases hl : L[i]? with
    | none => rw [hl] at hj; cases hj
    | some o =>
      rw [hl] at hj
      have hw : v = w := by simpa using hj
      subst hw
      exact h'.2.2 (i, enc Γ v) List.mem_cons_self
  · rw [List.getElem?_set_ne hij] at hj
    refine h'.2.2 (j, enc Γ w) (List.mem_cons_of_mem _ (List.mem_filter.mpr ⟨lvOf_mem hj, ?_⟩))
    have h1 : (j == i) = false := by simp; exact fun q => hij q.symm
    by_cases h2 : j + 1 = i
    · have := nlg_spec (Γ := Γ) hn hj h2
      simp [h1, h2, this]
    · simp [h1, h2]
theorem LR.st2 {Γ : Gm} {nL : Nat} {L : List (Option aV)} {ls ls' : Array Slot} {i : Nat} {v : aV} (h : LR Γ nL L ls) (hn : nlg L i = true)
    (h' : lv_has ls' nL ((i, enc Γ v) :: (lvOf Γ L).filter (fun q => !(q.1 == i) && (!(q.1 == i + 1) && !(q.1 + 1 == i && q.2.category == 2))))) : LR Γ nL ((L.set i (some v)).set (i + 1) none) ls' := by
  refine ⟨h'.1, h'.2.1, by rw [List.length_set, List.length_set]; exact h.2.2.1, fun j w hj => ?_⟩
  by_cases hj1 : i + 1 = j
  · subst hj1
    rw [List.getElem?_set_self'] at hj
    cases hl : (L.set i (some v))[i + 1]? with
    | none => rw [hl] at hj; cases hj
    | some o => rw [hl] at hj; cases hj
  rw [List.getElem?_set_ne hj1] at hj
  by_cases hij : i = j
  · subst hij
    rw [List.getElem?_set_self' ] at hj
    cases hl : L[i]? with
    | none => rw [hl] at hj; cases hj
    | some o =>
      rw [hl] at hj
      have hw : v = w := by simpa using hj
      subst hw
      exact h'.2.2 (i, enc Γ v) List.mem_cons_self
  · rw [List.getElem?_set_ne hij] at hj
    refine h'.2.2 (j, enc Γ w) (List.mem_cons_of_mem _ (List.mem_filter.mpr ⟨lvOf_mem hj, ?_⟩))
    have h1 : (j == i) = false := by simp; exact fun q => hij q.symm
    have h3 : (j == i + 1) = false := by simp; exact fun q => hj1 q.symm
    by_cases h2 : j + 1 = i
    · have := nlg_spec (Γ := Γ) hn hj h2
      simp [h1, h2, h3, this]
    · simp [h1, h2, h3]
theorem LR.drop {Γ : Gm} {nL : Nat} {L : List (Option aV)} {ls : Array Slot} (i : Nat) (h : LR Γ nL L ls) : LR Γ nL (L.set i none) ls := by
  refine ⟨h.1, h.2.1, by rw [List.length_set]; exact h.2.2.1, fun j w hj => h.2.2.2 j w ?_⟩
  by_cases hij : i = j
  · subst hij
    rw [List.getElem?_set_self'] at hj
    cases hl : L[i]? with
    | none => rw [hl] at hj; cases hj
    | some o => rw [hl] at hj; cases hj
  · rw [List.getElem?_set_ne hij] at hj
    exact hj
/-- the machine at a place of a method: whatever heap and locals stand for the abstract ones, it comes to Q -/
def OK (Γ : Gm) (p : Program) (l : Launch) (e : Env) (R : Room) (s : State) (m : MethodId) (args : Array Value) (below : List Frame) (meth : Method) (c : Code) (n0 : Nat) (Q : State → Prop) (pc : Nat) (L : List (Option aV)) (st : List aV) (n : Nat) (g : aG) (h : aH) : Prop :=
  ∀ (H : Heap) (locs : List Loc) (ls : Array Slot), HR Γ n g h H → va_S (AA Γ) s.heap H locs → LR Γ c.maxLocals L ls → W p l e R s m args below meth c H locs (n - n0) (sl n - sl n0) Q (F0 m pc ls (st.map (enc Γ)))
end
section
section ROWS
variable {Γ : Gm} {p : Program} {l : Launch} {e : Env} {R : Room} {s : State} {m : MethodId} {args : Array Value} {below : List Frame} {meth : Method} {c : Code} {own : String} {cc : ByteArray} {nL : Nat} {rt : Option FieldType} {n0 : Nat} {Q : State → Prop} {pc : Nat} {L : List (Option aV)} {st : List aV} {n : Nat} {g : aG} {h : aH}
theorem i32T {x : Int} (h : inR x) : (Int32.ofInt x).toInt = x := Int32.toInt_ofInt_of_le (by have := h.1; omega) (by have := h.2; omega)
theorem i64T {x : Int} (h : inL x) : (Int64.ofInt x).toInt = x := Int64.toInt_ofInt_of_le (by have := h.1; omega) (by have := h.2; omega)
theorem i32_eq {x y : Int} (hx : inR x) (hy : inR y) : Int32.ofInt x = Int32.ofInt y ↔ x = y := ⟨fun q => by rw [← i32T hx, ← i32T hy, q], fun q => by rw [q]⟩
theorem i32_lt {x y : Int} (hx : inR x) (hy : inR y) : Int32.ofInt x < Int32.ofInt y ↔ x < y := by rw [Int32.lt_iff_toInt_lt, i32T hx, i32T hy]
theorem i32_le {x y : Int} (hx : inR x) (hy : inR y) : Int32.ofInt x ≤ Int32.ofInt y ↔ x ≤ y := by rw [Int32.le_iff_toInt_le, i32T hx, i32T hy]
theorem inR0 : inR 0 := ⟨by decide, by decide⟩
theorem i32_0 : (0 : Int32) = Int32.ofInt 0 := by decide
theorem i32_cl {x : Int} (h0 : 0 ≤ x) (h1 : x < 2147483648) : (Int32.ofInt x).toNatClampNeg = x.toNat := by
  show (Int32.ofInt x).toInt.toNat = x.toNat
  rw [i32T ⟨by omega, h1⟩]
theorem i32_in {x : Int} {N : Nat} (h0 : 0 ≤ x) (h1 : x < N) (hN : N < 2147483648) : vp_in (Int32.ofInt x) N := by
  rw [vp_in_iff, i32T ⟨by omega, by omega⟩]
  exact ⟨h0, h1⟩
theorem ok_iconst (a : Ac Γ p s m args meth c own cc nL rt) {k : Int} (d : decode cc pc = .ok (.iconst k, 1)) (kk : OK Γ p l e R s m args below meth c n0 Q (pc + 1) L (vI k :: st) n g h) : OK Γ p l e R s m args below meth c n0 Q pc L st n g h := by
  intro H locs ls hH hS hL
  exact lv_iconst a.1 a.2.1 d rfl (kk H locs ls hH hS hL)
theorem ok_bipush (a : Ac Γ p s m args meth c own cc nL rt) {k : Int} (d : decode cc pc = .ok (.bipush k, 2)) (hv : (Int8.ofInt k).toInt32 = Int32.ofInt k) (kk : OK Γ p l e R s m args below meth c n0 Q (pc + 2) L (vI k :: st) n g h) : OK Γ p l e R s m args below meth c n0 Q pc L st n g h := by
  intro H locs ls hH hS hL
  exact lv_bipush a.1 a.2.1 d hv (kk H locs ls hH hS hL)
theorem ok_sipush (a : Ac Γ p s m args meth c own cc nL rt) {k : Int} (d : decode cc pc = .ok (.sipush k, 3)) (hv : (Int16.ofInt k).toInt32 = Int32.ofInt k) (kk : OK Γ p l e R s m args below meth c n0 Q (pc + 3) L (vI k :: st) n g h) : OK Γ p l e R s m args below meth c n0 Q pc L st n g h := by
  intro H locs ls hH hS hL
  exact lv_sipush a.1 a.2.1 d hv (kk H locs ls hH hS hL)
theorem ok_lconst (a : Ac Γ p s m args meth c own cc nL rt) {k : Fin 2} {x : Int} (d : decode cc pc = .ok (.lconst k, 1)) (hv : Int64.ofNat (k : Nat) = Int64.ofInt x) (kk : OK Γ p l e R s m args below meth c n0 Q (pc + 1) L (vL x :: st) n g h) : OK Γ p l e R s m args below meth c n0 Q pc L st n g h := by
  intro H locs ls hH hS hL
  exact lv_lconst a.1 a.2.1 d hv (kk H locs ls hH hS hL)
theorem ok_ldc (a : Ac Γ p s m args meth c own cc nL rt) {i : Nat} {v : Int32} {x : Int} (d : decode cc pc = .ok (.ldc i, 2)) (hw : Cond.constant own i v ∈ gtb) (hv : v = Int32.ofInt x) (kk : OK Γ p l e R s m args below meth c n0 Q (pc + 2) L (vI x :: st) n g h) : OK Γ p l e R s m args below meth c n0 Q pc L st n g h := by
  intro H locs ls hH hS hL
  subst hv
  exact lv_ldc a.1 a.2.1 a.2.2.2.2.2.1 (a.2.2.2.2.2.2.1 _ hw) d (kk H locs ls hH hS hL)
theorem ok_ldcw (a : Ac Γ p s m args meth c own cc nL rt) {i : Nat} {v : Int32} {x : Int} (d : decode cc pc = .ok (.ldc_w i, 3)) (hw : Cond.constant own i v ∈ gtb) (hv : v = Int32.ofInt x) (kk : OK Γ p l e R s m args below meth c n0 Q (pc + 3) L (vI x :: st) n g h) : OK Γ p l e R s m args below meth c n0 Q pc L st n g h := by
  intro H locs ls hH hS hL
  subst hv
  exact lv_ldcw a.1 a.2.1 a.2.2.2.2.2.1 (a.2.2.2.2.2.2.1 _ hw) d (kk H locs ls hH hS hL)
theorem ok_ldc2 (a : Ac Γ p s m args meth c own cc nL rt) {i : Nat} {v : Int64} {x : Int} (d : decode cc pc = .ok (.ldc2_w i, 3)) (hw : Cond.constantLong own i v ∈ gtb) (hv : v = Int64.ofInt x) (kk : OK Γ p l e R s m args below meth c n0 Q (pc + 3) L (vL x :: st) n g h) : OK Γ p l e R s m args below meth c n0 Q pc L st n g h := by
  intro H locs ls hH hS hL
  subst hv
  exact lv_ldc2 a.1 a.2.1 a.2.2.2.2.2.1 (a.2.2.2.2.2.2.1 _ hw) d (kk H locs ls hH hS hL)
theorem ok_iload_n (a : Ac Γ p s m args meth c own cc nL rt) {k : Fin 4} {i : Nat} {x : Int} (d : decode cc pc = .ok (.iload_n k, 1)) (hi : (k : Nat) = i) (hl : L[i]? = some (some (vI x))) (kk : OK Γ p l e R s m args below meth c n0 Q (pc + 1) L (vI x :: st) n g h) : OK Γ p l e R s m args below meth c n0 Q pc L st n g h := by
  intro H locs ls hH hS hL
  exact lv_iload_n a.1 a.2.1 d hi (hL.2.2.2 i _ hl) (kk H locs ls hH hS hL)
theorem ok_iload (a : Ac Γ p s m args meth c own cc nL rt) {i : Nat} {x : Int} (d : decode cc pc = .ok (.iload i, 2)) (hl : L[i]? = some (some (vI x))) (kk : OK Γ p l e R s m args below meth c n0 Q (pc + 2) L (vI x :: st) n g h) : OK Γ p l e R s m args below meth c n0 Q pc L st n g h := by
  intro H locs ls hH hS hL
  exact lv_iload a.1 a.2.1 d (hL.2.2.2 i _ hl) (kk H locs ls hH hS hL)
theorem ok_lload_n (a : Ac Γ p s m args meth c own cc nL rt) {k : Fin 4} {i : Nat} {x : Int} (d : decode cc pc = .ok (.lload_n k, 1)) (hi : (k : Nat) = i) (hl : L[i]? = some (some (vL x))) (kk : OK Γ p l e R s m args below meth c n0 Q (pc + 1) L (vL x :: st) n g h) : OK Γ p l e R s m args below meth c n0 Q pc L st n g h := by
  intro H locs ls hH hS hL
  exact lv_lload_n a.1 a.2.1 d hi (hL.2.2.2 i _ hl) (kk H locs ls hH hS hL)
theorem ok_lload (a : Ac Γ p s m args meth c own cc nL rt) {i : Nat} {x : Int} (d : decode cc pc = .ok (.lload i, 2)) (hl : L[i]? = some (some (vL x))) (kk : OK Γ p l e R s m args below meth c n0 Q (pc + 2) L (vL x :: st) n g h) : OK Γ p l e R s m args below meth c n0 Q pc L st n g h := by
  intro H locs ls hH hS hL
  exact lv_lload a.1 a.2.1 d (hL.2.2.2 i _ hl) (kk H locs ls hH hS hL)
theorem ok_aload_n (a : Ac Γ p s m args meth c own cc nL rt) {k : Fin 4} {i x : Nat} (d : decode cc pc = .ok (.aload_n k, 1)) (hi : (k : Nat) = i) (hl : L[i]? = some (some (vR x))) (kk : OK Γ p l e R s m args below meth c n0 Q (pc + 1) L (vR x :: st) n g h) : OK Γ p l e R s m args below meth c n0 Q pc L st n g h := by
  intro H locs ls hH hS hL
  exact lv_aload_n a.1 a.2.1 d hi (hL.2.2.2 i _ hl) (kk H locs ls hH hS hL)
theorem ok_aload (a : Ac Γ p s m args meth c own cc nL rt) {i x : Nat} (d : decode cc pc = .ok (.aload i, 2)) (hl : L[i]? = some (some (vR x))) (kk : OK Γ p l e R s m args below meth c n0 Q (pc + 2) L (vR x :: st) n g h) : OK Γ p l e R s m args below meth c n0 Q pc L st n g h := by
  intro H locs ls hH hS hL
  exact lv_aload a.1 a.2.1 d (hL.2.2.2 i _ hl) (kk H locs ls hH hS hL)
theorem ok_istore_n (a : Ac Γ p s m args meth c own cc nL rt) {k : Fin 4} {i : Nat} {x : Int} (d : decode cc pc = .ok (.istore_n k, 1)) (hi : (k : Nat) = i) (hn : i < nL) (hg : nlg L i = true) (kk : OK Γ p l e R s m args below meth c n0 Q (pc + 1) (L.set i (some (vI x))) st n g h) : OK Γ p l e R s m args below meth c n0 Q pc L (vI x :: st) n g h := by
  intro H locs ls hH hS hL
  exact lv_istore_n a.1 a.2.1 d hi hL.has (by rw [a.2.2.1]; exact hn) rfl (fun ls' hl' => kk H locs ls' hH hS (hL.st1 hg hl'))
theorem ok_istore (a : Ac Γ p s m args meth c own cc nL rt) {i : Nat} {x : Int} (d : decode cc pc = .ok (.istore i, 2)) (hn : i < nL) (hg : nlg L i = true) (kk : OK Γ p l e R s m args below meth c n0 Q (pc + 2) (L.set i (some (vI x))) st n g h) : OK Γ p l e R s m args below meth c n0 Q pc L (vI x :: st) n g h := by
  intro H locs ls hH hS hL
  exact lv_istore a.1 a.2.1 d hL.has (by rw [a.2.2.1]; exact hn) rfl (fun ls' hl' => kk H locs ls' hH hS (hL.st1 hg hl'))
theorem ok_astore_n (a : Ac Γ p s m args meth c own cc nL rt) {k : Fin 4} {i x : Nat} (d : decode cc pc = .ok (.astore_n k, 1)) (hi : (k : Nat) = i) (hn : i < nL) (hg : nlg L i = true) (kk : OK Γ p l e R s m args below meth c n0 Q (pc + 1) (L.set i (some (vR x))) st n g h) : OK Γ p l e R s m args below meth c n0 Q pc L (vR x :: st) n g h := by
  intro H locs ls hH hS hL
  exact lv_astore_n a.1 a.2.1 d hi hL.has (by rw [a.2.2.1]; exact hn) rfl (fun ls' hl' => kk H locs ls' hH hS (hL.st1 hg hl'))
theorem ok_lstore_n (a : Ac Γ p s m args meth c own cc nL rt) {k : Fin 4} {i : Nat} {x : Int} (d : decode cc pc = .ok (.lstore_n k, 1)) (hi : (k : Nat) = i) (hn : i + 1 < nL) (hg : nlg L i = true) (kk : OK Γ p l e R s m args below meth c n0 Q (pc + 1) ((L.set i (some (vL x))).set (i + 1) none) st n g h) : OK Γ p l e R s m args below meth c n0 Q pc L (vL x :: st) n g h := by
  intro H locs ls hH hS hL
  exact lv_lstore_n a.1 a.2.1 d hi hL.has (by rw [a.2.2.1]; exact hn) rfl (fun ls' hl' => kk H locs ls' hH hS (hL.st2 hg hl'))
theorem ok_lstore (a : Ac Γ p s m args meth c own cc nL rt) {i : Nat} {x : Int} (d : decode cc pc = .ok (.lstore i, 2)) (hn : i + 1 < nL) (hg : nlg L i = true) (kk : OK Γ p l e R s m args below meth c n0 Q (pc + 2) ((L.set i (some (vL x))).set (i + 1) none) st n g h) : OK Γ p l e R s m args below meth c n0 Q pc L (vL x :: st) n g h := by
  intro H locs ls hH hS hL
  exact lv_lstore a.1 a.2.1 d hL.has (by rw [a.2.2.1]; exact hn) rfl (fun ls' hl' => kk H locs ls' hH hS (hL.st2 hg hl'))
theorem ok_iinc (a : Ac Γ p s m args meth c own cc nL rt) {i : Nat} {k x : Int} (d : decode cc pc = .ok (.iinc i k, 3)) (hl : L[i]? = some (some (vI x))) (hn : i < nL) (hg : nlg L i = true) (kk : OK Γ p l e R s m args below meth c n0 Q (pc + 3) (L.set i (some (vI (x + k)))) st n g h) : OK Γ p l e R s m args below meth c n0 Q pc L st n g h := by
  intro H locs ls hH hS hL
  obtain ⟨q, hq⟩ := List.getElem?_of_mem (lvOf_mem (Γ := Γ) hl)
  exact lv_iinc a.1 a.2.1 d hL.has hq (Int32.ofInt_add x k).symm (by rw [a.2.2.1]; exact hn) rfl (fun ls' hl' => kk H locs ls' hH hS (hL.st1 (v := vI (x + k)) hg hl'))
theorem ok_forget (i : Nat) (kk : OK Γ p l e R s m args below meth c n0 Q pc (L.set i none) st n g h) : OK Γ p l e R s m args below meth c n0 Q pc L st n g h := fun H locs ls hH hS hL => kk H locs ls hH hS (hL.drop i)
theorem ok_goto (a : Ac Γ p s m args meth c own cc nL rt) {off : Int} (tgt : Nat) (d : decode cc pc = .ok (.goto off, 3)) (ht : (pc : Int) + off = (tgt : Int)) (kk : OK Γ p l e R s m args below meth c n0 Q tgt L st n g h) : OK Γ p l e R s m args below meth c n0 Q pc L st n g h := by
  intro H locs ls hH hS hL
  exact lv_goto a.1 a.2.1 d ht (kk H locs ls hH hS hL)
theorem ok_dup (a : Ac Γ p s m args meth c own cc nL rt) {v : aV} (d : decode cc pc = .ok (.dup, 1)) (hv : (enc Γ v).category = 1) (kk : OK Γ p l e R s m args below meth c n0 Q (pc + 1) L (v :: v :: st) n g h) : OK Γ p l e R s m args below meth c n0 Q pc L (v :: st) n g h := by
  intro H locs ls hH hS hL
  exact lv_dup a.1 a.2.1 d hv (kk H locs ls hH hS hL)
theorem ok_dup2 (a : Ac Γ p s m args meth c own cc nL rt) {v w : aV} (d : decode cc pc = .ok (.dup2, 1)) (hv : (enc Γ v).category = 1) (hw : (enc Γ w).category = 1) (kk : OK Γ p l e R s m args below meth c n0 Q (pc + 1) L (v :: w :: v :: w :: st) n g h) : OK Γ p l e R s m args below meth c n0 Q pc L (v :: w :: st) n g h := by
  intro H locs ls hH hS hL
  exact lv_dup2_11 a.1 a.2.1 d hv hw (kk H locs ls hH hS hL)
theorem ok_pop (a : Ac Γ p s m args meth c own cc nL rt) {v : aV} (d : decode cc pc = .ok (.pop, 1)) (hv : (enc Γ v).category = 1) (kk : OK Γ p l e R s m args below meth c n0 Q (pc + 1) L st n g h) : OK Γ p l e R s m args below meth c n0 Q pc L (v :: st) n g h := by
  intro H locs ls hH hS hL
  exact lv_pop a.1 a.2.1 d hv (kk H locs ls hH hS hL)
theorem ok_iadd (a : Ac Γ p s m args meth c own cc nL rt) {x y : Int} (d : decode cc pc = .ok (.iadd, 1)) (kk : OK Γ p l e R s m args below meth c n0 Q (pc + 1) L (vI (x + y) :: st) n g h) : OK Γ p l e R s m args below meth c n0 Q pc L (vI y :: vI x :: st) n g h := by
  intro H locs ls hH hS hL
  have k1 := kk H locs ls hH hS hL
  simp only [List.map_cons, enc, Int32.ofInt_add] at k1
  exact lv_iadd a.1 a.2.1 d k1
theorem ok_ladd (a : Ac Γ p s m args meth c own cc nL rt) {x y : Int} (d : decode cc pc = .ok (.ladd, 1)) (kk : OK Γ p l e R s m args below meth c n0 Q (pc + 1) L (vL (x + y) :: st) n g h) : OK Γ p l e R s m args below meth c n0 Q pc L (vL y :: vL x :: st) n g h := by
  intro H locs ls hH hS hL
  have k1 := kk H locs ls hH hS hL
  simp only [List.map_cons, enc, Int64.ofInt_add] at k1
  exact lv_ladd a.1 a.2.1 d k1
theorem ok_isub (a : Ac Γ p s m args meth c own cc nL rt) {x y : Int} (d : decode cc pc = .ok (.isub, 1)) (kk : OK Γ p l e R s m args below meth c n0 Q (pc + 1) L (vI (x - y) :: st) n g h) : OK Γ p l e R s m args below meth c n0 Q pc L (vI y :: vI x :: st) n g h := by
  intro H locs ls hH hS hL
  have k1 := kk H locs ls hH hS hL
  simp only [List.map_cons, enc, Int32.ofInt_sub] at k1
  exact lv_isub a.1 a.2.1 d k1
theorem ok_lsub (a : Ac Γ p s m args meth c own cc nL rt) {x y : Int} (d : decode cc pc = .ok (.lsub, 1)) (kk : OK Γ p l e R s m args below meth c n0 Q (pc + 1) L (vL (x - y) :: st) n g h) : OK Γ p l e R s m args below meth c n0 Q pc L (vL y :: vL x :: st) n g h := by
  intro H locs ls hH hS hL
  have k1 := kk H locs ls hH hS hL
  simp only [List.map_cons, enc, Int64.ofInt_sub] at k1
  exact lv_lsub a.1 a.2.1 d k1
theorem ok_imul (a : Ac Γ p s m args meth c own cc nL rt) {x y : Int} (d : decode cc pc = .ok (.imul, 1)) (kk : OK Γ p l e R s m args below meth c n0 Q (pc + 1) L (vI (x * y) :: st) n g h) : OK Γ p l e R s m args below meth c n0 Q pc L (vI y :: vI x :: st) n g h := by
  intro H locs ls hH hS hL
  have k1 := kk H locs ls hH hS hL
  simp only [List.map_cons, enc, Int32.ofInt_mul] at k1
  exact lv_imul a.1 a.2.1 d k1
theorem ok_lmul (a : Ac Γ p s m args meth c own cc nL rt) {x y : Int} (d : decode cc pc = .ok (.lmul, 1)) (kk : OK Γ p l e R s m args below meth c n0 Q (pc + 1) L (vL (x * y) :: st) n g h) : OK Γ p l e R s m args below meth c n0 Q pc L (vL y :: vL x :: st) n g h := by
  intro H locs ls hH hS hL
  have k1 := kk H locs ls hH hS hL
  simp only [List.map_cons, enc, Int64.ofInt_mul] at k1
  exact lv_lmul a.1 a.2.1 d k1
def band (x y : Int) : Int := (Int32.ofInt x &&& Int32.ofInt y).toInt
theorem ok_iand (a : Ac Γ p s m args meth c own cc nL rt) {x y : Int} (d : decode cc pc = .ok (.iand, 1)) (kk : OK Γ p l e R s m args below meth c n0 Q (pc + 1) L (vI (band x y) :: st) n g h) : OK Γ p l e R s m args below meth c n0 Q pc L (vI y :: vI x :: st) n g h := by
  intro H locs ls hH hS hL
  have k1 := kk H locs ls hH hS hL
  simp only [List.map_cons, enc, band, Int32.ofInt_toInt] at k1
  exact lv_iand a.1 a.2.1 d k1
def bor (x y : Int) : Int := (Int32.ofInt x ||| Int32.ofInt y).toInt
theorem ok_ior (a : Ac Γ p s m args meth c own cc nL rt) {x y : Int} (d : decode cc pc = .ok (.ior, 1)) (kk : OK Γ p l e R s m args below meth c n0 Q (pc + 1) L (vI (bor x y) :: st) n g h) : OK Γ p l e R s m args below meth c n0 Q pc L (vI y :: vI x :: st) n g h := by
  intro H locs ls hH hS hL
  have k1 := kk H locs ls hH hS hL
  simp only [List.map_cons, enc, bor, Int32.ofInt_toInt] at k1
  exact lv_ior a.1 a.2.1 d k1
def bxor (x y : Int) : Int := (Int32.ofInt x ^^^ Int32.ofInt y).toInt
theorem ok_ixor (a : Ac Γ p s m args meth c own cc nL rt) {x y : Int} (d : decode cc pc = .ok (.ixor, 1)) (kk : OK Γ p l e R s m args below meth c n0 Q (pc + 1) L (vI (bxor x y) :: st) n g h) : OK Γ p l e R s m args below meth c n0 Q pc L (vI y :: vI x :: st) n g h := by
  intro H locs ls hH hS hL
  have k1 := kk H locs ls hH hS hL
  simp only [List.map_cons, enc, bxor, Int32.ofInt_toInt] at k1
  exact lv_ixor a.1 a.2.1 d k1
def bshl (x y : Int) : Int := (Int32.ofInt x <<< (Int32.ofInt y &&& 31)).toInt
def bshr (x y : Int) : Int := (Int32.ofInt x >>> (Int32.ofInt y &&& 31)).toInt
def bushr (x y : Int) : Int := ((Int32.ofInt x).toUInt32 >>> ((Int32.ofInt y).toUInt32 &&& Int32.toUInt32 31)).toInt32.toInt
theorem ok_ishl (a : Ac Γ p s m args meth c own cc nL rt) {x y : Int} (d : decode cc pc = .ok (.ishl, 1)) (kk : OK Γ p l e R s m args below meth c n0 Q (pc + 1) L (vI (bshl x y) :: st) n g h) : OK Γ p l e R s m args below meth c n0 Q pc L (vI y :: vI x :: st) n g h := by
  intro H locs ls hH hS hL
  have k1 := kk H locs ls hH hS hL
  simp only [List.map_cons, enc, bshl, Int32.ofInt_toInt] at k1
  exact lv_ishl a.1 a.2.1 d k1
theorem ok_ishr (a : Ac Γ p s m args meth c own cc nL rt) {x y : Int} (d : decode cc pc = .ok (.ishr, 1)) (kk : OK Γ p l e R s m args below meth c n0 Q (pc + 1) L (vI (bshr x y) :: st) n g h) : OK Γ p l e R s m args below meth c n0 Q pc L (vI y :: vI x :: st) n g h := by
  intro H locs ls hH hS hL
  have k1 := kk H locs ls hH hS hL
  simp only [List.map_cons, enc, bshr, Int32.ofInt_toInt] at k1
  exact lv_ishr a.1 a.2.1 d k1
theorem ok_iushr (a : Ac Γ p s m args meth c own cc nL rt) {x y : Int} (d : decode cc pc = .ok (.iushr, 1)) (kk : OK Γ p l e R s m args below meth c n0 Q (pc + 1) L (vI (bushr x y) :: st) n g h) : OK Γ p l e R s m args below meth c n0 Q pc L (vI y :: vI x :: st) n g h := by
  intro H locs ls hH hS hL
  have k1 := kk H locs ls hH hS hL
  simp only [List.map_cons, enc, bushr, Int32.ofInt_toInt] at k1
  exact lv_iushr a.1 a.2.1 d rfl k1
theorem i32_div {x y : Int} (h0 : 0 ≤ x) (h1 : x < 2147483648) (h2 : 0 < y) (h3 : y < 2147483648) : Int32.ofInt (x / y) = Int32.ofInt x / Int32.ofInt y := by
  rw [← Int32.ofInt_tdiv (by show (-2147483648 : Int) ≤ x; omega) (by show x ≤ (2147483647 : Int); omega) (by show (-2147483648 : Int) ≤ y; omega) (by show y ≤ (2147483647 : Int); omega), Int.tdiv_eq_ediv_of_nonneg h0]
theorem i64_div {x y : Int} (h0 : 0 ≤ x) (h1 : x < 9223372036854775808) (h2 : 0 < y) (h3 : y < 9223372036854775808) : Int64.ofInt (x / y) = Int64.ofInt x / Int64.ofInt y := by
  rw [← Int64.ofInt_tdiv (by show (-9223372036854775808 : Int) ≤ x; omega) (by show x ≤ (9223372036854775807 : Int); omega) (by show (-9223372036854775808 : Int) ≤ y; omega) (by show y ≤ (9223372036854775807 : Int); omega), Int.tdiv_eq_ediv_of_nonneg h0]
theorem ok_idiv (a : Ac Γ p s m args meth c own cc nL rt) {x y : Int} (d : decode cc pc = .ok (.idiv, 1)) (h0 : (0 ≤ x ∧ x < 2147483648) ∧ 0 < y ∧ y < 2147483648) (kk : OK Γ p l e R s m args below meth c n0 Q (pc + 1) L (vI (x / y) :: st) n g h) : OK Γ p l e R s m args below meth c n0 Q pc L (vI y :: vI x :: st) n g h := by
  intro H locs ls hH hS hL
  have k1 := kk H locs ls hH hS hL
  simp only [List.map_cons, enc, i32_div h0.1.1 h0.1.2 h0.2.1 h0.2.2] at k1
  exact lv_idiv a.1 a.2.1 d (by rw [i32_0, i32_eq ⟨by omega, by omega⟩ inR0]; omega) k1
theorem ok_irem (a : Ac Γ p s m args meth c own cc nL rt) {x y : Int} (d : decode cc pc = .ok (.irem, 1)) (h0 : (0 ≤ x ∧ x < 2147483648) ∧ 0 < y ∧ y < 2147483648) (kk : OK Γ p l e R s m args below meth c n0 Q (pc + 1) L (vI (x % y) :: st) n g h) : OK Γ p l e R s m args below meth c n0 Q pc L (vI y :: vI x :: st) n g h := by
  intro H locs ls hH hS hL
  have k1 := kk H locs ls hH hS hL
  have e : Int32.ofInt (x % y) = Int32.ofInt x - Int32.ofInt x / Int32.ofInt y * Int32.ofInt y := by
    rw [Int.emod_def, Int32.ofInt_sub, Int32.ofInt_mul, i32_div h0.1.1 h0.1.2 h0.2.1 h0.2.2, Int32.mul_comm]
  simp only [List.map_cons, enc, e] at k1
  exact lv_irem a.1 a.2.1 d (by rw [i32_0, i32_eq ⟨by omega, by omega⟩ inR0]; omega) k1
theorem i64_ne {y : Int} (h2 : 0 < y) (h3 : y < 9223372036854775808) : ¬ Int64.ofInt y = 0 := by
  intro q
  have := congrArg Int64.toInt q
  rw [i64T ⟨by omega, by omega⟩] at this
  have h0 : (0 : Int64).toInt = 0 := by decide
  omega
theorem ok_ldiv (a : Ac Γ p s m args meth c own cc nL rt) {x y : Int} (d : decode cc pc = .ok (.ldiv, 1)) (h0 : (0 ≤ x ∧ x < 9223372036854775808) ∧ 0 < y ∧ y < 9223372036854775808) (kk : OK Γ p l e R s m args below meth c n0 Q (pc + 1) L (vL (x / y) :: st) n g h) : OK Γ p l e R s m args below meth c n0 Q pc L (vL y :: vL x :: st) n g h := by
  intro H locs ls hH hS hL
  have k1 := kk H locs ls hH hS hL
  simp only [List.map_cons, enc, i64_div h0.1.1 h0.1.2 h0.2.1 h0.2.2] at k1
  exact lv_ldiv a.1 a.2.1 d (i64_ne h0.2.1 h0.2.2) k1
theorem ok_lrem (a : Ac Γ p s m args meth c own cc nL rt) {x y : Int} (d : decode cc pc = .ok (.lrem, 1)) (h0 : (0 ≤ x ∧ x < 9223372036854775808) ∧ 0 < y ∧ y < 9223372036854775808) (kk : OK Γ p l e R s m args below meth c n0 Q (pc + 1) L (vL (x % y) :: st) n g h) : OK Γ p l e R s m args below meth c n0 Q pc L (vL y :: vL x :: st) n g h := by
  intro H locs ls hH hS hL
  have k1 := kk H locs ls hH hS hL
  have e : Int64.ofInt (x % y) = Int64.ofInt x - Int64.ofInt x / Int64.ofInt y * Int64.ofInt y := by
    rw [Int.emod_def, Int64.ofInt_sub, Int64.ofInt_mul, i64_div h0.1.1 h0.1.2 h0.2.1 h0.2.2, Int64.mul_comm]
  simp only [List.map_cons, enc, e] at k1
  exact lv_lrem a.1 a.2.1 d (i64_ne h0.2.1 h0.2.2) k1
theorem ok_i2l (a : Ac Γ p s m args meth c own cc nL rt) {x : Int} (d : decode cc pc = .ok (.i2l, 1)) (hx : inR x) (kk : OK Γ p l e R s m args below meth c n0 Q (pc + 1) L (vL x :: st) n g h) : OK Γ p l e R s m args below meth c n0 Q pc L (vI x :: st) n g h := by
  intro H locs ls hH hS hL
  exact lv_i2l a.1 a.2.1 d (Int32.toInt64_ofInt (by show (-2147483648 : Int) ≤ x; exact hx.1) (by show x ≤ (2147483647 : Int); have := hx.2; omega)) (kk H locs ls hH hS hL)
theorem ofInt_nI {x : Int} (h0 : 0 ≤ x) : Int32.ofInt x = nI x.toNat := by
  obtain ⟨k, rfl⟩ := Int.eq_ofNat_of_zero_le h0
  first | rfl | simp [nI, Int32.ofInt_eq_ofNat]
theorem ok_i2c (a : Ac Γ p s m args meth c own cc nL rt) {x : Int} (d : decode cc pc = .ok (.i2c, 1)) (hx : 0 ≤ x ∧ x < 65536) (kk : OK Γ p l e R s m args below meth c n0 Q (pc + 1) L (vI x :: st) n g h) : OK Γ p l e R s m args below meth c n0 Q pc L (vI x :: st) n g h := by
  intro H locs ls hH hS hL
  refine lv_i2c a.1 a.2.1 d ?_ (kk H locs ls hH hS hL)
  rw [pk_char, ofInt_nI hx.1, pk_tn (by omega), Nat.mod_eq_of_lt (by omega)]
theorem i2s_id {x : Int} (hx : 0 ≤ x ∧ x < 32768) : (Int32.ofInt x).toInt16.toInt32 = Int32.ofInt x := by
  apply Int32.toInt_inj.mp
  rw [Int16.toInt_toInt32, Int32.toInt_toInt16, i32T ⟨by omega, by omega⟩]
  exact Int.bmod_eq_of_le (by omega) (by omega)
theorem ok_i2s (a : Ac Γ p s m args meth c own cc nL rt) {x : Int} (d : decode cc pc = .ok (.i2s, 1)) (hx : 0 ≤ x ∧ x < 32768) (kk : OK Γ p l e R s m args below meth c n0 Q (pc + 1) L (vI x :: st) n g h) : OK Γ p l e R s m args below meth c n0 Q pc L (vI x :: st) n g h := by
  intro H locs ls hH hS hL
  exact lv_i2s a.1 a.2.1 d (i2s_id hx) (kk H locs ls hH hS hL)
theorem ok_icmp_eq (a : Ac Γ p s m args meth c own cc nL rt) {x y off : Int} (tgt : Nat) (d : decode cc pc = .ok (.if_icmp .eq off, 3)) (ht : (pc : Int) + off = (tgt : Int)) (hx : inR x) (hy : inR y) (kt : x = y → OK Γ p l e R s m args below meth c n0 Q tgt L st n g h) (kf : ¬ x = y → OK Γ p l e R s m args below meth c n0 Q (pc + 3) L st n g h) : OK Γ p l e R s m args below meth c n0 Q pc L (vI y :: vI x :: st) n g h := by
  intro H locs ls hH hS hL
  exact lv_icmp_eq a.1 a.2.1 d ht (fun q => kt ((i32_eq hx hy).mp q) H locs ls hH hS hL) (fun q => kf (fun z => q ((i32_eq hx hy).mpr z)) H locs ls hH hS hL)
theorem ok_if_eq (a : Ac Γ p s m args meth c own cc nL rt) {x off : Int} (tgt : Nat) (d : decode cc pc = .ok (.ifCond .eq off, 3)) (ht : (pc : Int) + off = (tgt : Int)) (hx : inR x) (kt : x = 0 → OK Γ p l e R s m args below meth c n0 Q tgt L st n g h) (kf : ¬ x = 0 → OK Γ p l e R s m args below meth c n0 Q (pc + 3) L st n g h) : OK Γ p l e R s m args below meth c n0 Q pc L (vI x :: st) n g h := by
  intro H locs ls hH hS hL
  exact lv_if_eq a.1 a.2.1 d ht (fun q => kt ((i32_eq hx inR0).mp q) H locs ls hH hS hL) (fun q => kf (fun z => q ((i32_eq hx inR0).mpr z)) H locs ls hH hS hL)
theorem ok_icmp_ne (a : Ac Γ p s m args meth c own cc nL rt) {x y off : Int} (tgt : Nat) (d : decode cc pc = .ok (.if_icmp .ne off, 3)) (ht : (pc : Int) + off = (tgt : Int)) (hx : inR x) (hy : inR y) (kt : ¬ x = y → OK Γ p l e R s m args below meth c n0 Q tgt L st n g h) (kf : x = y → OK Γ p l e R s m args below meth c n0 Q (pc + 3) L st n g h) : OK Γ p l e R s m args below meth c n0 Q pc L (vI y :: vI x :: st) n g h := by
  intro H locs ls hH hS hL
  exact lv_icmp_ne a.1 a.2.1 d ht (fun q => kt (fun z => q ((i32_eq hx hy).mpr z)) H locs ls hH hS hL) (fun q => kf ((i32_eq hx hy).mp q) H locs ls hH hS hL)
theorem ok_if_ne (a : Ac Γ p s m args meth c own cc nL rt) {x off : Int} (tgt : Nat) (d : decode cc pc = .ok (.ifCond .ne off, 3)) (ht : (pc : Int) + off = (tgt : Int)) (hx : inR x) (kt : ¬ x = 0 → OK Γ p l e R s m args below meth c n0 Q tgt L st n g h) (kf : x = 0 → OK Γ p l e R s m args below meth c n0 Q (pc + 3) L st n g h) : OK Γ p l e R s m args below meth c n0 Q pc L (vI x :: st) n g h := by
  intro H locs ls hH hS hL
  exact lv_if_ne a.1 a.2.1 d ht (fun q => kt (fun z => q (by rw [z]; rfl)) H locs ls hH hS hL) (fun q => kf ((i32_eq hx inR0).mp q) H locs ls hH hS hL)
theorem ok_icmp_lt (a : Ac Γ p s m args meth c own cc nL rt) {x y off : Int} (tgt : Nat) (d : decode cc pc = .ok (.if_icmp .lt off, 3)) (ht : (pc : Int) + off = (tgt : Int)) (hx : inR x) (hy : inR y) (kt : x < y → OK Γ p l e R s m args below meth c n0 Q tgt L st n g h) (kf : ¬ x < y → OK Γ p l e R s m args below meth c n0 Q (pc + 3) L st n g h) : OK Γ p l e R s m args below meth c n0 Q pc L (vI y :: vI x :: st) n g h := by
  intro H locs ls hH hS hL
  exact lv_icmp_lt a.1 a.2.1 d ht (fun q => kt ((i32_lt hx hy).mp q) H locs ls hH hS hL) (fun q => kf (fun z => q ((i32_lt hx hy).mpr z)) H locs ls hH hS hL)
theorem ok_if_lt (a : Ac Γ p s m args meth c own cc nL rt) {x off : Int} (tgt : Nat) (d : decode cc pc = .ok (.ifCond .lt off, 3)) (ht : (pc : Int) + off = (tgt : Int)) (hx : inR x) (kt : x < 0 → OK Γ p l e R s m args below meth c n0 Q tgt L st n g h) (kf : ¬ x < 0 → OK Γ p l e R s m args below meth c n0 Q (pc + 3) L st n g h) : OK Γ p l e R s m args below meth c n0 Q pc L (vI x :: st) n g h := by
  intro H locs ls hH hS hL
  exact lv_if_lt a.1 a.2.1 d ht (fun q => kt ((i32_lt hx inR0).mp q) H locs ls hH hS hL) (fun q => kf (fun z => q ((i32_lt hx inR0).mpr z)) H locs ls hH hS hL)
theorem ok_icmp_ge (a : Ac Γ p s m args meth c own cc nL rt) {x y off : Int} (tgt : Nat) (d : decode cc pc = .ok (.if_icmp .ge off, 3)) (ht : (pc : Int) + off = (tgt : Int)) (hx : inR x) (hy : inR y) (kt : y ≤ x → OK Γ p l e R s m args below meth c n0 Q tgt L st n g h) (kf : ¬ y ≤ x → OK Γ p l e R s m args below meth c n0 Q (pc + 3) L st n g h) : OK Γ p l e R s m args below meth c n0 Q pc L (vI y :: vI x :: st) n g h := by
  intro H locs ls hH hS hL
  exact lv_icmp_ge a.1 a.2.1 d ht (fun q => kt ((i32_le hy hx).mp q) H locs ls hH hS hL) (fun q => kf (fun z => q ((i32_le hy hx).mpr z)) H locs ls hH hS hL)
theorem ok_if_ge (a : Ac Γ p s m args meth c own cc nL rt) {x off : Int} (tgt : Nat) (d : decode cc pc = .ok (.ifCond .ge off, 3)) (ht : (pc : Int) + off = (tgt : Int)) (hx : inR x) (kt : 0 ≤ x → OK Γ p l e R s m args below meth c n0 Q tgt L st n g h) (kf : ¬ 0 ≤ x → OK Γ p l e R s m args below meth c n0 Q (pc + 3) L st n g h) : OK Γ p l e R s m args below meth c n0 Q pc L (vI x :: st) n g h := by
  intro H locs ls hH hS hL
  exact lv_if_ge a.1 a.2.1 d ht (fun q => kt ((i32_le inR0 hx).mp q) H locs ls hH hS hL) (fun q => kf (fun z => q ((i32_le inR0 hx).mpr z)) H locs ls hH hS hL)
theorem ok_icmp_gt (a : Ac Γ p s m args meth c own cc nL rt) {x y off : Int} (tgt : Nat) (d : decode cc pc = .ok (.if_icmp .gt off, 3)) (ht : (pc : Int) + off = (tgt : Int)) (hx : inR x) (hy : inR y) (kt : y < x → OK Γ p l e R s m args below meth c n0 Q tgt L st n g h) (kf : ¬ y < x → OK Γ p l e R s m args below meth c n0 Q (pc + 3) L st n g h) : OK Γ p l e R s m args below meth c n0 Q pc L (vI y :: vI x :: st) n g h := by
  intro H locs ls hH hS hL
  exact lv_icmp_gt a.1 a.2.1 d ht (fun q => kt ((i32_lt hy hx).mp q) H locs ls hH hS hL) (fun q => kf (fun z => q ((i32_lt hy hx).mpr z)) H locs ls hH hS hL)
theorem ok_if_gt (a : Ac Γ p s m args meth c own cc nL rt) {x off : Int} (tgt : Nat) (d : decode cc pc = .ok (.ifCond .gt off, 3)) (ht : (pc : Int) + off = (tgt : Int)) (hx : inR x) (kt : 0 < x → OK Γ p l e R s m args below meth c n0 Q tgt L st n g h) (kf : ¬ 0 < x → OK Γ p l e R s m args below meth c n0 Q (pc + 3) L st n g h) : OK Γ p l e R s m args below meth c n0 Q pc L (vI x :: st) n g h := by
  intro H locs ls hH hS hL
  exact lv_if_gt a.1 a.2.1 d ht (fun q => kt ((i32_lt inR0 hx).mp q) H locs ls hH hS hL) (fun q => kf (fun z => q ((i32_lt inR0 hx).mpr z)) H locs ls hH hS hL)
theorem ok_icmp_le (a : Ac Γ p s m args meth c own cc nL rt) {x y off : Int} (tgt : Nat) (d : decode cc pc = .ok (.if_icmp .le off, 3)) (ht : (pc : Int) + off = (tgt : Int)) (hx : inR x) (hy : inR y) (kt : x ≤ y → OK Γ p l e R s m args below meth c n0 Q tgt L st n g h) (kf : ¬ x ≤ y → OK Γ p l e R s m args below meth c n0 Q (pc + 3) L st n g h) : OK Γ p l e R s m args below meth c n0 Q pc L (vI y :: vI x :: st) n g h := by
  intro H locs ls hH hS hL
  exact lv_icmp_le a.1 a.2.1 d ht (fun q => kt ((i32_le hx hy).mp q) H locs ls hH hS hL) (fun q => kf (fun z => q ((i32_le hx hy).mpr z)) H locs ls hH hS hL)
theorem ok_if_le (a : Ac Γ p s m args meth c own cc nL rt) {x off : Int} (tgt : Nat) (d : decode cc pc = .ok (.ifCond .le off, 3)) (ht : (pc : Int) + off = (tgt : Int)) (hx : inR x) (kt : x ≤ 0 → OK Γ p l e R s m args below meth c n0 Q tgt L st n g h) (kf : ¬ x ≤ 0 → OK Γ p l e R s m args below meth c n0 Q (pc + 3) L st n g h) : OK Γ p l e R s m args below meth c n0 Q pc L (vI x :: st) n g h := by
  intro H locs ls hH hS hL
  exact lv_if_le a.1 a.2.1 d ht (fun q => kt ((i32_le hx inR0).mp q) H locs ls hH hS hL) (fun q => kf (fun z => q ((i32_le hx inR0).mpr z)) H locs ls hH hS hL)
theorem ok_tabIn (a : Ac Γ p s m args meth c own cc nL rt) {x : Int} {df lo hi off : Int} {offs : Array Int} {len : Nat} (tgt : Nat) (d : decode cc pc = .ok (.tableswitch df lo hi offs, len)) (hx : inR x) (h1 : lo ≤ x) (h2 : x ≤ hi) (ho : offs[(x - lo).toNat]? = some off) (ht : (pc : Int) + off = (tgt : Int)) (kk : OK Γ p l e R s m args below meth c n0 Q tgt L st n g h) : OK Γ p l e R s m args below meth c n0 Q pc L (vI x :: st) n g h := by
  intro H locs ls hH hS hL
  refine lv_tableIn a.1 a.2.1 d ?_ ?_ ?_ ht (kk H locs ls hH hS hL)
  · rw [i32T hx]; omega
  · rw [i32T hx]; omega
  · rw [i32T hx]; exact ho
theorem ok_tabOut (a : Ac Γ p s m args meth c own cc nL rt) {x : Int} {df lo hi : Int} {offs : Array Int} {len : Nat} (tgt : Nat) (d : decode cc pc = .ok (.tableswitch df lo hi offs, len)) (hx : inR x) (h1 : x < lo ∨ hi < x) (ht : (pc : Int) + df = (tgt : Int)) (kk : OK Γ p l e R s m args below meth c n0 Q tgt L st n g h) : OK Γ p l e R s m args below meth c n0 Q pc L (vI x :: st) n g h := by
  intro H locs ls hH hS hL
  refine lv_tableOut a.1 a.2.1 d ?_ ht (kk H locs ls hH hS hL)
  rw [i32T hx]; exact h1
def cmpL (x y : Int) : Int := if x < y then -1 else if x = y then 0 else 1
end ROWS
end
section
theorem ad_lt {Γ : Gm} {k : Nat} (h : k < 1000) : ad Γ k = Γ.2.2.1 + k := by
  unfold ad
  rw [if_neg (by omega), if_neg (by omega)]
theorem enc_R {Γ : Gm} {k : Nat} (h : k < 1000) : enc Γ (vR k) = .ref (Γ.2.2.1 + k) := by
  show Value.ref (ad Γ k) = _
  rw [ad_lt h]
theorem aw_at {Γ : Gm} {n k : Nat} {g : aG} {h : aH} (hk : k < n) : (aw Γ n g h)[k]? = some (Γ.2.2.1 + k, cw Γ g h k) := by simp [aw, hk]
theorem aw_of {Γ : Gm} {n k : Nat} {g : aG} {h : aH} {q : Nat × va_E} (hq : (aw Γ n g h)[k]? = some q) : k < n ∧ q = (Γ.2.2.1 + k, cw Γ g h k) := by
  have hk : k < n := by
    have := (List.getElem?_eq_some_iff.mp hq).1
    simpa [aw] using this
  rw [aw_at hk] at hq
  exact ⟨hk, (Option.some.inj hq).symm⟩
theorem aw_D {Γ : Gm} {n : Nat} {g : aG} {h : aH} : va_D (AA Γ) (aw Γ n g h) := by
  refine ⟨fun i j p q hi hj e => ?_, fun k q hk => ?_⟩
  · have h1 := (aw_of hi).2
    have h2 := (aw_of hj).2
    subst h1
    subst h2
    have : Γ.2.2.1 + i = Γ.2.2.1 + j := e
    omega
  · rw [(aw_of hk).2]
    show Γ.2.2.1 ≤ Γ.2.2.1 + k
    omega
theorem aw_set {Γ : Gm} {n k : Nat} {g g' : aG} {h h' : aH} {x : va_E} (hk : k < n) (hx : x = cw Γ g' h' k) (ho : ∀ k', k' ≠ k → cw Γ g h k' = cw Γ g' h' k') : (aw Γ n g h).set k (Γ.2.2.1 + k, x) = aw Γ n g' h' := by
  apply List.ext_getElem?
  intro i
  by_cases hi : k = i
  · subst hi
    rw [aw_at hk, List.getElem?_set_self (by simp [aw]; exact hk), hx]
  · rw [List.getElem?_set_ne hi]
    by_cases hn : i < n
    · rw [aw_at hn, aw_at hn, ho i (fun q => hi q.symm)]
    · rw [List.getElem?_eq_none (by simp [aw]; omega), List.getElem?_eq_none (by simp [aw]; omega)]
theorem cw_obj {Γ : Gm} {g : aG} {h : aH} {k ci : Nat} (hc : (kd k).1 = ci) (hci : ci < 10) : cw Γ g h k = .inr (ci, (List.range (nf ci)).map (fun j => fval Γ (tyOf ci j) (h k (j : Int)) (g k (j : Int)))) := by
  subst hc
  unfold cw
  rw [if_pos hci]
theorem cw_arr {Γ : Gm} {g : aG} {h : aH} {k t len : Nat} (hc : kd k = (10 + t, len)) (ht : t < 4) : cw Γ g h k = .inl (Γ.2.1 t, len, .inl (fun j => Int32.ofInt (h k (j : Int)))) := by
  unfold cw
  rw [hc, if_neg (by show ¬ 10 + t < 10; omega), if_pos (by show 10 + t < 14; omega)]
  show (Sum.inl (Γ.2.1 (10 + t - 10), len, _) : va_E) = _
  rw [show 10 + t - 10 = t by omega]
theorem cw_ref {Γ : Gm} {g : aG} {h : aH} {k len : Nat} (hc : kd k = (14, len)) : cw Γ g h k = .inl (Γ.2.1 4, len, .inr (.inr (.inr (.inr (fun j => (g k (j : Int)).map (ad Γ)))))) := by
  unfold cw
  rw [hc, if_neg (by show ¬ (14 : Nat) < 10; decide), if_neg (by show ¬ (14 : Nat) < 14; decide)]
theorem cw_oth {Γ : Gm} {g : aG} {h : aH} {k : Nat} {i x : Int} : ∀ k', k' ≠ k → cw Γ g h k' = cw Γ g (up h k i x) k' := by
  intro k' hk
  have e : ∀ j, up h k i x k' j = h k' j := fun j => by simp [up, hk]
  unfold cw
  simp only [e]
theorem map_set {f f' : Nat → Value} {N j : Nat} {y : Value} (h1 : f' j = y) (h2 : ∀ i, i ≠ j → f' i = f i) : ((List.range N).map f).set j y = (List.range N).map f' := by
  apply List.ext_getElem?
  intro i
  by_cases hi : j = i
  · subst hi
    by_cases hj : j < N
    · rw [List.getElem?_set_self (by simpa using hj)]
      simp [hj, h1]
    · rw [List.getElem?_eq_none (by simp; omega), List.getElem?_eq_none (by simp; omega)]
  · rw [List.getElem?_set_ne hi]
    by_cases hn : i < N
    · simp [hn, h2 i (fun q => hi q.symm)]
    · rw [List.getElem?_eq_none (by simp; omega), List.getElem?_eq_none (by simp; omega)]
section HEAP
variable {Γ : Gm} {p : Program} {l : Launch} {e : Env} {R : Room} {s : State} {m : MethodId} {args : Array Value} {below : List Frame} {meth : Method} {c : Code} {own : String} {cc : ByteArray} {nL : Nat} {rt : Option FieldType} {n0 : Nat} {Q : State → Prop} {pc : Nat} {L : List (Option aV)} {st : List aV} {n : Nat} {g : aG} {h : aH}
theorem ok_get (a : Ac Γ p s m args meth c own cc nL rt) {idx ci j k : Nat} {v : aV} (d : decode cc pc = .ok (.getfield idx, 3)) (f : Lf own idx ci j) (hk : k < n) (hc : (kd k).1 = ci) (hv : fval Γ (tyOf ci j) (h k (j : Int)) (g k (j : Int)) = enc Γ v) (kk : OK Γ p l e R s m args below meth c n0 Q (pc + 3) L (v :: st) n g h) : OK Γ p l e R s m args below meth c n0 Q pc L (vR k :: st) n g h := by
  intro H locs ls hH hS hL
  have k1 := kk H locs ls hH hS hL
  obtain ⟨hn, hP⟩ := hH
  have he := aw_at (Γ := Γ) (g := g) (h := h) hk
  rw [cw_obj hc f.1] at he
  have hvv : ((List.range (nf ci)).map (fun j => fval Γ (tyOf ci j) (h k (j : Int)) (g k (j : Int))))[j]? = some (enc Γ v) := by simp [f.2.1, hv]
  have cf := cf_all f.1
  simp only [List.map_cons, enc_R (Γ := Γ) (show k < 1000 by omega)]
  rcases f.2.2 with hf | ⟨host, hf⟩
  · exact va_get (D := Γ.1) (ci := ci) (C := cC ci) (T := cT ci) (N := nf ci) a.1 a.2.1 a.2.2.2.2.2.2.1 cf.2.1 a.2.2.2.2.2.1 a.2.2.2.2.2.2.2.1 hP k he cf.1 j f.2.1 (a.2.2.2.2.2.2.1 _ hf) (fun _ h9 => by rw [cf.2.2.2.2 j f.2.1] at h9; exact h9) hvv d k1
  · exact va_getN (D := Γ.1) (ci := ci) (C := cC ci) (T := cT ci) (N := nf ci) a.1 a.2.1 a.2.2.2.2.2.2.1 cf.2.1 a.2.2.2.2.2.1 a.2.2.2.2.2.2.2.1 hP k he cf.1 j f.2.1 (va_Nw.use (by rfl) (a.2.2.2.2.2.2.2.2.1 _ hf rfl)) (fun _ h9 => by rw [cf.2.2.2.2 j f.2.1] at h9; exact h9) hvv d k1
theorem ok_put (a : Ac Γ p s m args meth c own cc nL rt) {idx ci j k : Nat} {v : aV} {x : Int} (d : decode cc pc = .ok (.putfield idx, 3)) (f : Lf own idx ci j) (hfin : (cT ci j).2.2.2 = false) (hk : k < n) (hc : (kd k).1 = ci) (hv : ∀ r, fval Γ (tyOf ci j) x r = enc Γ v) (hnr : narrow (tyOf ci j) (enc Γ v) = enc Γ v) (hft : fits (tyOf ci j) (enc Γ v) = true) (kk : OK Γ p l e R s m args below meth c n0 Q (pc + 3) L st n g (up h k (j : Int) x)) : OK Γ p l e R s m args below meth c n0 Q pc L (v :: vR k :: st) n g h := by
  intro H locs ls hH hS hL
  obtain ⟨hn, hP⟩ := hH
  have he := aw_at (Γ := Γ) (g := g) (h := h) hk
  rw [cw_obj hc f.1] at he
  have cf := cf_all f.1
  have hset : (aw Γ n g h).set k (Γ.2.2.1 + k, .inr (ci, ((List.range (nf ci)).map (fun j => fval Γ (tyOf ci j) (h k (j : Int)) (g k (j : Int)))).set j (enc Γ v))) = aw Γ n g (up h k (j : Int) x) := by
    refine aw_set hk ?_ cw_oth
    rw [cw_obj hc f.1]
    congr 2
    refine map_set ?_ ?_
    · simp only [up, and_self, if_true]; exact hv _
    · intro i hi
      have : ¬ ((k = k) ∧ ((i : Int) = (j : Int))) := fun q => hi (by omega)
      show fval Γ (tyOf ci i) (if k = k ∧ (i : Int) = (j : Int) then x else h k (i : Int)) (g k (i : Int)) = _
      rw [if_neg this]
  have k1 : ∀ (H1 : Heap) (locs1 : List Loc), va_P Γ.1 vwCl ((aw Γ n g h).set k (Γ.2.2.1 + k, .inr (ci, ((List.range (nf ci)).map (fun j => fval Γ (tyOf ci j) (h k (j : Int)) (g k (j : Int)))).set j (enc Γ v)))) H1 → va_D (AA Γ) ((aw Γ n g h).set k (Γ.2.2.1 + k, .inr (ci, ((List.range (nf ci)).map (fun j => fval Γ (tyOf ci j) (h k (j : Int)) (g k (j : Int)))).set j (enc Γ v)))) → va_S (AA Γ) s.heap H1 locs1 → W p l e R s m args below meth c H1 locs1 (n - n0) (sl n - sl n0) Q (F0 m (pc + 3) ls (st.map (enc Γ))) := fun H1 locs1 q1 _ q3 => kk H1 locs1 ls ⟨hn, by rw [← hset]; exact q1⟩ q3 hL
  simp only [List.map_cons, enc_R (Γ := Γ) (show k < 1000 by omega)]
  rcases f.2.2 with hf | ⟨host, hf⟩
  · exact va_put (D := Γ.1) (ci := ci) (C := cC ci) (T := cT ci) (N := nf ci) a.1 a.2.1 a.2.2.2.2.2.2.1 cf.2.1 (tyOf ci) cf.2.2.1 cf.2.2.2.1 a.2.2.2.2.2.1 a.2.2.2.2.2.2.2.1 hP aw_D hS k he cf.1 j f.2.1 (a.2.2.2.2.2.2.1 _ hf) (fun _ h9 => by rw [cf.2.2.2.2 j f.2.1] at h9; exact h9) hfin (cf.2.2.1 j f.2.1) hnr hft (by simp; exact f.2.1) d k1
  · exact va_putN (D := Γ.1) (ci := ci) (C := cC ci) (T := cT ci) (N := nf ci) a.1 a.2.1 a.2.2.2.2.2.2.1 cf.2.1 (tyOf ci) cf.2.2.1 cf.2.2.2.1 a.2.2.2.2.2.1 a.2.2.2.2.2.2.2.1 hP aw_D hS k he cf.1 j f.2.1 (va_Nw.use (by rfl) (a.2.2.2.2.2.2.2.2.1 _ hf rfl)) (fun _ h9 => by rw [cf.2.2.2.2 j f.2.1] at h9; exact h9) hfin (cf.2.2.1 j f.2.1) hnr hft (by simp; exact f.2.1) d k1
theorem ok_putI (a : Ac Γ p s m args meth c own cc nL rt) {idx ci j k : Nat} {x : Int} (d : decode cc pc = .ok (.putfield idx, 3)) (f : Lf own idx ci j) (hfin : (cT ci j).2.2.2 = false) (hk : k < n) (hc : (kd k).1 = ci) (ht : tyOf ci j = .int) (kk : OK Γ p l e R s m args below meth c n0 Q (pc + 3) L st n g (up h k (j : Int) x)) : OK Γ p l e R s m args below meth c n0 Q pc L (vI x :: vR k :: st) n g h :=
  ok_put a d f hfin hk hc (fun r => by rw [ht]; rfl) (by rw [ht]; rfl) (by rw [ht]; rfl) kk
theorem ok_putL (a : Ac Γ p s m args meth c own cc nL rt) {idx ci j k : Nat} {x : Int} (d : decode cc pc = .ok (.putfield idx, 3)) (f : Lf own idx ci j) (hfin : (cT ci j).2.2.2 = false) (hk : k < n) (hc : (kd k).1 = ci) (ht : tyOf ci j = .long) (kk : OK Γ p l e R s m args below meth c n0 Q (pc + 3) L st n g (up h k (j : Int) x)) : OK Γ p l e R s m args below meth c n0 Q pc L (vL x :: vR k :: st) n g h :=
  ok_put a d f hfin hk hc (fun r => by rw [ht]; rfl) (by rw [ht]; rfl) (by rw [ht]; rfl) kk
theorem ok_putZ (a : Ac Γ p s m args meth c own cc nL rt) {idx ci j k : Nat} {x : Int} (d : decode cc pc = .ok (.putfield idx, 3)) (f : Lf own idx ci j) (hfin : (cT ci j).2.2.2 = false) (hk : k < n) (hc : (kd k).1 = ci) (ht : tyOf ci j = .boolean) (hx : x = 0 ∨ x = 1) (kk : OK Γ p l e R s m args below meth c n0 Q (pc + 3) L st n g (up h k (j : Int) x)) : OK Γ p l e R s m args below meth c n0 Q pc L (vI x :: vR k :: st) n g h := by
  rcases hx with rfl | rfl
  · exact ok_put a d f hfin hk hc (fun r => by rw [ht]; rfl) (by rw [ht]; rfl) (by rw [ht]; rfl) kk
  · exact ok_put a d f hfin hk hc (fun r => by rw [ht]; rfl) (by rw [ht]; rfl) (by rw [ht]; rfl) kk
theorem ok_getI (a : Ac Γ p s m args meth c own cc nL rt) {idx ci j k : Nat} (d : decode cc pc = .ok (.getfield idx, 3)) (f : Lf own idx ci j) (hk : k < n) (hc : (kd k).1 = ci) (ht : tyOf ci j = .int ∨ tyOf ci j = .boolean) (kk : OK Γ p l e R s m args below meth c n0 Q (pc + 3) L (vI (h k (j : Int)) :: st) n g h) : OK Γ p l e R s m args below meth c n0 Q pc L (vR k :: st) n g h :=
  ok_get a d f hk hc (by rcases ht with ht | ht <;> rw [ht] <;> rfl) kk
theorem ok_getL (a : Ac Γ p s m args meth c own cc nL rt) {idx ci j k : Nat} (d : decode cc pc = .ok (.getfield idx, 3)) (f : Lf own idx ci j) (hk : k < n) (hc : (kd k).1 = ci) (ht : tyOf ci j = .long) (kk : OK Γ p l e R s m args below meth c n0 Q (pc + 3) L (vL (h k (j : Int)) :: st) n g h) : OK Γ p l e R s m args below meth c n0 Q pc L (vR k :: st) n g h :=
  ok_get a d f hk hc (by rw [ht]; rfl) kk
def isRefT (t : FieldType) : Bool := match t with
  | .int => false
  | .boolean => false
  | .long => false
  | _ => true
theorem ok_getR (a : Ac Γ p s m args meth c own cc nL rt) {idx ci j k r : Nat} (d : decode cc pc = .ok (.getfield idx, 3)) (f : Lf own idx ci j) (hk : k < n) (hc : (kd k).1 = ci) (ht : isRefT (tyOf ci j) = true) (hg : g k (j : Int) = some r) (kk : OK Γ p l e R s m args below meth c n0 Q (pc + 3) L (vR r :: st) n g h) : OK Γ p l e R s m args below meth c n0 Q pc L (vR k :: st) n g h :=
  ok_get a d f hk hc (by rw [hg]; generalize tyOf ci j = t at ht; cases t <;> first | rfl | cases ht) kk
-- ARRAYS
theorem ok_ald (a : Ac Γ p s m args meth c own cc nL rt) {i : Int} {k t len : Nat} (hk : k < n) (hc : kd k = (10 + t, len)) (hlen : len < 2147483648) (hi : 0 ≤ i ∧ i < len)
    (d : (t = 0 ∧ decode cc pc = .ok (.iaload, 1)) ∨ (t = 1 ∧ decode cc pc = .ok (.caload, 1)) ∨ (t = 2 ∧ decode cc pc = .ok (.saload, 1)) ∨ (t = 3 ∧ decode cc pc = .ok (.baload, 1))) (kk : OK Γ p l e R s m args below meth c n0 Q (pc + 1) L (vI (h k i) :: st) n g h) : OK Γ p l e R s m args below meth c n0 Q pc L (vI i :: vR k :: st) n g h := by
  intro H locs ls hH hS hL
  have k1 := kk H locs ls hH hS hL
  obtain ⟨hn, hP⟩ := hH
  have ht : t < 4 := by rcases d with d | d | d | d <;> omega
  have he := aw_at (Γ := Γ) (g := g) (h := h) hk
  rw [cw_arr hc ht] at he
  have hin := i32_in hi.1 hi.2 hlen
  have hcl := i32_cl hi.1 (by omega : i < 2147483648)
  have e2 : ((i.toNat : Nat) : Int) = i := Int.toNat_of_nonneg hi.1
  have k2 : W p l e R s m args below meth c H locs (n - n0) (sl n - sl n0) Q (F0 m (pc + 1) ls (.int ((fun j : Nat => Int32.ofInt (h k (j : Int))) (Int32.ofInt i).toNatClampNeg) :: st.map (enc Γ))) := by
    show W p l e R s m args below meth c H locs (n - n0) (sl n - sl n0) Q (F0 m (pc + 1) ls (.int (Int32.ofInt (h k (((Int32.ofInt i).toNatClampNeg : Nat) : Int))) :: st.map (enc Γ)))
    rw [hcl, e2]
    exact k1
  simp only [List.map_cons, enc_R (Γ := Γ) (show k < 1000 by omega)]
  have hK := a.2.2.2.2.2.2.2.1
  rcases d with ⟨rfl, d⟩ | ⟨rfl, d⟩ | ⟨rfl, d⟩ | ⟨rfl, d⟩
  · exact va_iald (D := Γ.1) a.1 a.2.1 hK hP k 0 he rfl hin d k2
  · exact va_cald (D := Γ.1) a.1 a.2.1 hK hP k 1 he rfl hin d k2
  · exact va_sald (D := Γ.1) a.1 a.2.1 hK hP k 2 he rfl hin d k2
  · exact va_zald (D := Γ.1) a.1 a.2.1 hK hP k 3 he rfl hin d k2
theorem ok_iald (a : Ac Γ p s m args meth c own cc nL rt) {i : Int} {k len : Nat} (d : decode cc pc = .ok (.iaload, 1)) (hk : k < n) (hc : kd k = (10, len)) (hlen : len < 2147483648) (hi : 0 ≤ i ∧ i < len) (kk : OK Γ p l e R s m args below meth c n0 Q (pc + 1) L (vI (h k i) :: st) n g h) : OK Γ p l e R s m args below meth c n0 Q pc L (vI i :: vR k :: st) n g h := ok_ald a (t := 0) hk hc hlen hi (Or.inl ⟨rfl, d⟩) kk
theorem ok_cald (a : Ac Γ p s m args meth c own cc nL rt) {i : Int} {k len : Nat} (d : decode cc pc = .ok (.caload, 1)) (hk : k < n) (hc : kd k = (11, len)) (hlen : len < 2147483648) (hi : 0 ≤ i ∧ i < len) (kk : OK Γ p l e R s m args below meth c n0 Q (pc + 1) L (vI (h k i) :: st) n g h) : OK Γ p l e R s m args below meth c n0 Q pc L (vI i :: vR k :: st) n g h := ok_ald a (t := 1) hk hc hlen hi (Or.inr (Or.inl ⟨rfl, d⟩)) kk
theorem ok_sald (a : Ac Γ p s m args meth c own cc nL rt) {i : Int} {k len : Nat} (d : decode cc pc = .ok (.saload, 1)) (hk : k < n) (hc : kd k = (12, len)) (hlen : len < 2147483648) (hi : 0 ≤ i ∧ i < len) (kk : OK Γ p l e R s m args below meth c n0 Q (pc + 1) L (vI (h k i) :: st) n g h) : OK Γ p l e R s m args below meth c n0 Q pc L (vI i :: vR k :: st) n g h := ok_ald a (t := 2) hk hc hlen hi (Or.inr (Or.inr (Or.inl ⟨rfl, d⟩))) kk
theorem ok_bald (a : Ac Γ p s m args meth c own cc nL rt) {i : Int} {k len : Nat} (d : decode cc pc = .ok (.baload, 1)) (hk : k < n) (hc : kd k = (13, len)) (hlen : len < 2147483648) (hi : 0 ≤ i ∧ i < len) (kk : OK Γ p l e R s m args below meth c n0 Q (pc + 1) L (vI (h k i) :: st) n g h) : OK Γ p l e R s m args below meth c n0 Q pc L (vI i :: vR k :: st) n g h := ok_ald a (t := 3) hk hc hlen hi (Or.inr (Or.inr (Or.inr ⟨rfl, d⟩))) kk
theorem vp_nar_c {x : Int} (hx : 0 ≤ x ∧ x < 65536) : vp_nar .char (Int32.ofInt x) = Int32.ofInt x := by
  unfold vp_nar
  rw [ofInt_nI hx.1, (pk_charN (by omega)).1]
theorem vp_nar_s {x : Int} (hx : 0 ≤ x ∧ x < 32768) : vp_nar .short (Int32.ofInt x) = Int32.ofInt x := by
  rw [vp_nar_short, i2s_id hx]
theorem vp_nar_z {x : Int} (hx : x = 0 ∨ x = 1) : vp_nar .boolean (Int32.ofInt x) = Int32.ofInt x := by
  rcases hx with rfl | rfl <;> decide
theorem ok_ast (a : Ac Γ p s m args meth c own cc nL rt) {i x : Int} {k t len : Nat} (hk : k < n) (hc : kd k = (10 + t, len)) (hlen : len < 2147483648) (hi : 0 ≤ i ∧ i < len)
    (d : (t = 0 ∧ decode cc pc = .ok (.iastore, 1)) ∨ (t = 1 ∧ decode cc pc = .ok (.castore, 1) ∧ 0 ≤ x ∧ x < 65536) ∨ (t = 2 ∧ decode cc pc = .ok (.sastore, 1) ∧ 0 ≤ x ∧ x < 32768) ∨ (t = 3 ∧ decode cc pc = .ok (.bastore, 1) ∧ (x = 0 ∨ x = 1))) (kk : OK Γ p l e R s m args below meth c n0 Q (pc + 1) L st n g (up h k i x)) : OK Γ p l e R s m args below meth c n0 Q pc L (vI x :: vI i :: vR k :: st) n g h := by
  intro H locs ls hH hS hL
  obtain ⟨hn, hP⟩ := hH
  have ht : t < 4 := by rcases d with d | d | d | d <;> omega
  have he := aw_at (Γ := Γ) (g := g) (h := h) hk
  rw [cw_arr hc ht] at he
  have hin := i32_in hi.1 hi.2 hlen
  have hcl := i32_cl hi.1 (by omega : i < 2147483648)
  have hf : upd (fun j : Nat => Int32.ofInt (h k (j : Int))) (Int32.ofInt i).toNatClampNeg (Int32.ofInt x) = fun j : Nat => Int32.ofInt (up h k i x k (j : Int)) := by
    funext j
    rw [hcl]
    by_cases hj : j = i.toNat
    · subst hj
      have e2 : ((i.toNat : Nat) : Int) = i := Int.toNat_of_nonneg hi.1
      simp [upd, up, e2]
    · have : ¬ (j : Int) = i := by omega
      simp [upd, up, hj, this]
  have hset : (aw Γ n g h).set k (Γ.2.2.1 + k, .inl (Γ.2.1 t, len, .inl (upd (fun j : Nat => Int32.ofInt (h k (j : Int))) (Int32.ofInt i).toNatClampNeg (Int32.ofInt x)))) = aw Γ n g (up h k i x) := by
    refine aw_set hk ?_ cw_oth
    rw [cw_arr hc ht, hf]
  have k1 : ∀ (H1 : Heap) (locs1 : List Loc), va_P Γ.1 vwCl ((aw Γ n g h).set k (Γ.2.2.1 + k, .inl (Γ.2.1 t, len, .inl (upd (fun j : Nat => Int32.ofInt (h k (j : Int))) (Int32.ofInt i).toNatClampNeg (Int32.ofInt x))))) H1 → va_D (AA Γ) ((aw Γ n g h).set k (Γ.2.2.1 + k, .inl (Γ.2.1 t, len, .inl (upd (fun j : Nat => Int32.ofInt (h k (j : Int))) (Int32.ofInt i).toNatClampNeg (Int32.ofInt x))))) → va_S (AA Γ) s.heap H1 locs1 → W p l e R s m args below meth c H1 locs1 (n - n0) (sl n - sl n0) Q (F0 m (pc + 1) ls (st.map (enc Γ))) := fun H1 locs1 q1 _ q3 => kk H1 locs1 ls ⟨hn, by rw [← hset]; exact q1⟩ q3 hL
  simp only [List.map_cons, enc_R (Γ := Γ) (show k < 1000 by omega)]
  have hK := a.2.2.2.2.2.2.2.1
  rcases d with ⟨rfl, d⟩ | ⟨rfl, d, hx⟩ | ⟨rfl, d, hx⟩ | ⟨rfl, d, hx⟩
  · exact va_iast (D := Γ.1) a.1 a.2.1 hK hP aw_D hS k 0 he rfl hin d k1
  · refine va_cast (D := Γ.1) a.1 a.2.1 hK hP aw_D hS k 1 he rfl hin d ?_
    rw [vp_nar_c hx]; exact k1
  · refine va_sast (D := Γ.1) a.1 a.2.1 hK hP aw_D hS k 2 he rfl hin d ?_
    rw [vp_nar_s hx]; exact k1
  · refine va_zast (D := Γ.1) a.1 a.2.1 hK hP aw_D hS k 3 he rfl hin d ?_
    rw [vp_nar_z hx]; exact k1
theorem ok_iast (a : Ac Γ p s m args meth c own cc nL rt) {i x : Int} {k len : Nat} (d : decode cc pc = .ok (.iastore, 1)) (hk : k < n) (hc : kd k = (10, len)) (hlen : len < 2147483648) (hi : 0 ≤ i ∧ i < len) (kk : OK Γ p l e R s m args below meth c n0 Q (pc + 1) L st n g (up h k i x)) : OK Γ p l e R s m args below meth c n0 Q pc L (vI x :: vI i :: vR k :: st) n g h := ok_ast a (t := 0) hk hc hlen hi (Or.inl ⟨rfl, d⟩) kk
theorem ok_cast (a : Ac Γ p s m args meth c own cc nL rt) {i x : Int} {k len : Nat} (d : decode cc pc = .ok (.castore, 1)) (hk : k < n) (hc : kd k = (11, len)) (hlen : len < 2147483648) (hi : 0 ≤ i ∧ i < len) (hx : 0 ≤ x ∧ x < 65536) (kk : OK Γ p l e R s m args below meth c n0 Q (pc + 1) L st n g (up h k i x)) : OK Γ p l e R s m args below meth c n0 Q pc L (vI x :: vI i :: vR k :: st) n g h := ok_ast a (t := 1) hk hc hlen hi (Or.inr (Or.inl ⟨rfl, d, hx⟩)) kk
theorem ok_sast (a : Ac Γ p s m args meth c own cc nL rt) {i x : Int} {k len : Nat} (d : decode cc pc = .ok (.sastore, 1)) (hk : k < n) (hc : kd k = (12, len)) (hlen : len < 2147483648) (hi : 0 ≤ i ∧ i < len) (hx : 0 ≤ x ∧ x < 32768) (kk : OK Γ p l e R s m args below meth c n0 Q (pc + 1) L st n g (up h k i x)) : OK Γ p l e R s m args below meth c n0 Q pc L (vI x :: vI i :: vR k :: st) n g h := ok_ast a (t := 2) hk hc hlen hi (Or.inr (Or.inr (Or.inl ⟨rfl, d, hx⟩))) kk
theorem ok_bast (a : Ac Γ p s m args meth c own cc nL rt) {i x : Int} {k len : Nat} (d : decode cc pc = .ok (.bastore, 1)) (hk : k < n) (hc : kd k = (13, len)) (hlen : len < 2147483648) (hi : 0 ≤ i ∧ i < len) (hx : x = 0 ∨ x = 1) (kk : OK Γ p l e R s m args below meth c n0 Q (pc + 1) L st n g (up h k i x)) : OK Γ p l e R s m args below meth c n0 Q pc L (vI x :: vI i :: vR k :: st) n g h := ok_ast a (t := 3) hk hc hlen hi (Or.inr (Or.inr (Or.inr ⟨rfl, d, hx⟩))) kk
theorem ok_aald (a : Ac Γ p s m args meth c own cc nL rt) {i : Int} {k len r : Nat} (d : decode cc pc = .ok (.aaload, 1)) (hk : k < n) (hc : kd k = (14, len)) (hlen : len < 2147483648) (hi : 0 ≤ i ∧ i < len) (hg : g k i = some r) (kk : OK Γ p l e R s m args below meth c n0 Q (pc + 1) L (vR r :: st) n g h) : OK Γ p l e R s m args below meth c n0 Q pc L (vI i :: vR k :: st) n g h := by
  intro H locs ls hH hS hL
  have k1 := kk H locs ls hH hS hL
  obtain ⟨hn, hP⟩ := hH
  have he := aw_at (Γ := Γ) (g := g) (h := h) hk
  rw [cw_ref hc] at he
  have hin := i32_in hi.1 hi.2 hlen
  have hcl := i32_cl hi.1 (by omega : i < 2147483648)
  have e2 : ((i.toNat : Nat) : Int) = i := Int.toNat_of_nonneg hi.1
  simp only [List.map_cons, enc_R (Γ := Γ) (show k < 1000 by omega)]
  refine va_aldq (D := Γ.1) a.1 a.2.1 a.2.2.2.2.2.2.2.1 hP k 4 he rfl hin d ?_
  show W p l e R s m args below meth c H locs (n - n0) (sl n - sl n0) Q (F0 m (pc + 1) ls (va_rf ((g k (((Int32.ofInt i).toNatClampNeg : Nat) : Int)).map (ad Γ)) :: st.map (enc Γ)))
  rw [hcl, e2, hg]
  exact k1
theorem ok_alen (a : Ac Γ p s m args meth c own cc nL rt) {k t len : Nat} (d : decode cc pc = .ok (.arraylength, 1)) (hk : k < n) (hc : kd k = (10 + t, len)) (ht : t < 4) (kk : OK Γ p l e R s m args below meth c n0 Q (pc + 1) L (vI (len : Int) :: st) n g h) : OK Γ p l e R s m args below meth c n0 Q pc L (vR k :: st) n g h := by
  intro H locs ls hH hS hL
  have k1 := kk H locs ls hH hS hL
  obtain ⟨hn, hP⟩ := hH
  have he := aw_at (Γ := Γ) (g := g) (h := h) hk
  rw [cw_arr hc ht] at he
  simp only [List.map_cons, enc_R (Γ := Γ) (show k < 1000 by omega)]
  have hty : ∃ ty, (tysG Γ)[t]? = some (Γ.2.1 t, ty) := by
    rcases (show t = 0 ∨ t = 1 ∨ t = 2 ∨ t = 3 by omega) with rfl | rfl | rfl | rfl <;> exact ⟨_, rfl⟩
  obtain ⟨ty, hty⟩ := hty
  exact va_alen (D := Γ.1) a.1 a.2.1 a.2.2.2.2.2.2.2.1 hP k t he hty (by show Int32.ofNat len = Int32.ofInt (len : Int); rw [ofInt_nI (by omega)]; rfl) d k1
def cpy (h : aH) (ks : Nat) (sp : Int) (kt : Nat) (dp len : Int) : aH := fun k i => if k = kt ∧ dp ≤ i ∧ i < dp + len then h ks (sp + (i - dp)) else h k i
def catA (v : aV) : Nat := match v with
  | .inr (.inl _) => 2
  | _ => 1
theorem cat_enc {Γ : Gm} (v : aV) : (enc Γ v).category = catA v := by
  rcases v with x | x | r
  · rfl
  · rfl
  · cases r <;> rfl
theorem cat_sum {Γ : Gm} (st : List aV) : ((st.map (enc Γ)).map (fun v => v.category)).sum = (st.map catA).sum := by
  rw [List.map_map]
  congr 1
  exact List.map_congr_left (fun v _ => cat_enc v)
def LkC (own : String) (idx : Nat) : Prop := Cond.methodLink own idx arraycopyName ∈ gtb ∧ Cond.native arraycopyName ∈ gtb ∧ Cond.static arraycopyName ∈ gtb ∧ Cond.initialized "java/lang/System" ∈ gtb
theorem ok_copy (a : Ac Γ p s m args meth c own cc nL rt) {idx ks kt n1 n2 : Nat} {sp dp len : Int} (d : decode cc pc = .ok (.invokestatic idx, 3)) (lk : LkC own idx) (hk1 : ks < n) (hk2 : kt < n) (hc1 : kd ks = (10, n1)) (hc2 : kd kt = (10, n2)) (hl1 : n1 < 2147483648) (hl2 : n2 < 2147483648) (h0 : 0 ≤ sp ∧ 0 ≤ dp ∧ 0 ≤ len ∧ sp + len ≤ n1 ∧ dp + len ≤ n2) (hfr : 1 ≤ R.frames) (hlo : (st.map catA).sum + (nativeFrameWords "java/lang/System" "arraycopy" 5 + 11) ≤ R.locals)
    (kk : OK Γ p l e R s m args below meth c n0 Q (pc + 3) L st n g (cpy h ks sp kt dp len)) : OK Γ p l e R s m args below meth c n0 Q pc L (vI len :: vI dp :: vR kt :: vI sp :: vR ks :: st) n g h := by
  intro H locs ls hH hS hL
  obtain ⟨hn, hP⟩ := hH
  have he1 := aw_at (Γ := Γ) (g := g) (h := h) hk1
  rw [cw_arr (t := 0) hc1 (by decide)] at he1
  have he2 := aw_at (Γ := Γ) (g := g) (h := h) hk2
  rw [cw_arr (t := 0) hc2 (by decide)] at he2
  have c1 := i32_cl h0.1 (by omega : sp < 2147483648)
  have c2 := i32_cl h0.2.1 (by omega : dp < 2147483648)
  have c3 := i32_cl h0.2.2.1 (by omega : len < 2147483648)
  have nn : ∀ z : Int, 0 ≤ z → z < 2147483648 → ¬ Int32.ofInt z < 0 := fun z hz hz2 q => by
    rw [i32_0, i32_lt ⟨by omega, by omega⟩ inR0] at q
    omega
  have hf : va_cpy (fun j : Nat => Int32.ofInt (h ks (j : Int))) (fun j : Nat => Int32.ofInt (h kt (j : Int))) sp.toNat dp.toNat len.toNat = fun j : Nat => Int32.ofInt (cpy h ks sp kt dp len kt (j : Int)) := by
    funext j
    by_cases hj : dp.toNat ≤ j ∧ j < dp.toNat + len.toNat
    · have : kt = kt ∧ dp ≤ (j : Int) ∧ (j : Int) < dp + len := ⟨rfl, by omega, by omega⟩
      have e9 : ((sp.toNat + (j - dp.toNat) : Nat) : Int) = sp + ((j : Int) - dp) := by omega
      show (if dp.toNat ≤ j ∧ j < dp.toNat + len.toNat then Int32.ofInt (h ks ((sp.toNat + (j - dp.toNat) : Nat) : Int)) else Int32.ofInt (h kt (j : Int))) = Int32.ofInt (if kt = kt ∧ dp ≤ (j : Int) ∧ (j : Int) < dp + len then h ks (sp + ((j : Int) - dp)) else h kt (j : Int))
      rw [if_pos hj, if_pos this, e9]
    · have : ¬ (kt = kt ∧ dp ≤ (j : Int) ∧ (j : Int) < dp + len) := fun q => hj ⟨by omega, by omega⟩
      show (if dp.toNat ≤ j ∧ j < dp.toNat + len.toNat then Int32.ofInt (h ks ((sp.toNat + (j - dp.toNat) : Nat) : Int)) else Int32.ofInt (h kt (j : Int))) = Int32.ofInt (if kt = kt ∧ dp ≤ (j : Int) ∧ (j : Int) < dp + len then h ks (sp + ((j : Int) - dp)) else h kt (j : Int))
      rw [if_neg hj, if_neg this]
  have hset : (aw Γ n g h).set kt (Γ.2.2.1 + kt, .inl (Γ.2.1 0, n2, .inl (va_cpy (fun j : Nat => Int32.ofInt (h ks (j : Int))) (fun j : Nat => Int32.ofInt (h kt (j : Int))) (Int32.ofInt sp).toNatClampNeg (Int32.ofInt dp).toNatClampNeg (Int32.ofInt len).toNatClampNeg))) = aw Γ n g (cpy h ks sp kt dp len) := by
    refine aw_set hk2 ?_ ?_
    · rw [cw_arr (t := 0) hc2 (by decide), c1, c2, c3, hf]
    · intro k' hk'
      have e : ∀ j, cpy h ks sp kt dp len k' j = h k' j := fun j => by simp [cpy, hk']
      unfold cw
      simp only [e]
  simp only [List.map_cons, enc_R (Γ := Γ) (show ks < 1000 by omega), enc_R (Γ := Γ) (show kt < 1000 by omega)]
  refine va_copyi (D := Γ.1) a.1 a.2.1 hL.1.symm a.2.2.2.2.2.1 (a.2.2.2.2.2.2.1 _ lk.1) (a.2.2.2.2.2.2.1 _ lk.2.1) (a.2.2.2.2.2.2.1 _ lk.2.2.1) (a.2.2.2.2.2.2.1 _ lk.2.2.2) a.2.2.2.2.2.2.2.1 hP aw_D hS ks kt 0 0 he1 he2 rfl rfl rfl (nn sp h0.1 (by omega)) (nn dp h0.2.1 (by omega)) (nn len h0.2.2.1 (by omega)) (by rw [c1, c3]; omega) (by rw [c2, c3]; omega) (fun _ _ => rfl) hfr (by rw [cat_sum]; exact hlo) d (fun H1 locs1 q1 _ q3 => ?_)
  exact kk H1 locs1 ls ⟨hn, by rw [← hset]; exact q1⟩ q3 hL
end HEAP
end
section
-- CONTRACTS
def wsy (y : MethodName) (cc : ByteArray) (nL : Nat) (rt : Option FieldType) : List Cond := Cond.code y cc nL rt :: gtb
def QQ (Γ : Gm) (nE : Nat) (Q : Option aV → aG → aH → Prop) : Array Value → State → Outcome → State → Prop := fun _ sT oc t => (∃ (v : Option aV) (g : aG) (h : aH), oc = .returned (v.map (enc Γ)) ∧ Q v g h ∧ HR Γ nE g h t.heap) ∧ va_F (AA Γ) sT t
def rmd (d n nE : Nat) : Room := { frames := d, cells := nE - n, slots := sl nE - sl n, locals := 40 * d }
abbrev MI : Type := MethodName × ByteArray × Nat × Option FieldType × Nat
/-- method y (name, code, locals, return type, depth) called with as: no cell is made, it returns, and Q holds of what it gives -/
def Cl (Γ : Gm) (l : Launch) (y : MI) (as : List aV) (n : Nat) (g : aG) (h : aH) (Q : Option aV → aG → aH → Prop) : Prop :=
  Met l y.1 (wsy y.1 y.2.1 y.2.2.1 y.2.2.2.1) (rmd y.2.2.2.2 n n) (va_Pc (as.map (enc Γ)) (fun U => HR Γ n g h U.heap ∧ KK Γ U)) (QQ Γ n Q) (n - n) (sl n - sl n) (AA Γ)
def entL (as : List aV) : List (Option aV) := match as with
  | [] => []
  | .inr (.inl x) :: vs => some (.inr (.inl x)) :: none :: entL vs
  | v :: vs => some v :: entL vs
theorem entL_mem {Γ : Gm} : ∀ (as : List aV) (o i : Nat) (v : aV), (entL as)[i]? = some (some v) → (o + i, enc Γ v) ∈ lv_args o (as.map (enc Γ))
  | [], o, i, v, h => by simp [entL] at h
  | .inl x :: vs, o, 0, v, h => by
    simp [entL] at h
    subst h
    exact List.mem_cons_self
  | .inl x :: vs, o, i + 1, v, h => by
    have h1 : (entL vs)[i]? = some (some v) := by simpa [entL] using h
    have := entL_mem (Γ := Γ) vs (o + 1) i v h1
    rw [show o + 1 + i = o + (i + 1) by omega] at this
    exact List.mem_cons_of_mem _ this
  | .inr (.inl x) :: vs, o, 0, v, h => by
    simp [entL] at h
    subst h
    exact List.mem_cons_self
  | .inr (.inl x) :: vs, o, 1, v, h => by simp [entL] at h
  | .inr (.inl x) :: vs, o, i + 2, v, h => by
    have h1 : (entL vs)[i]? = some (some v) := by simpa [entL] using h
    have := entL_mem (Γ := Γ) vs (o + 2) i v h1
    rw [show o + 2 + i = o + (i + 2) by omega] at this
    exact List.mem_cons_of_mem _ this
  | .inr (.inr x) :: vs, o, 0, v, h => by
    simp [entL] at h
    subst h
    exact List.mem_cons_self
  | .inr (.inr x) :: vs, o, i + 1, v, h => by
    have h1 : (entL vs)[i]? = some (some v) := by simpa [entL] using h
    have := entL_mem (Γ := Γ) vs (o + 1) i v h1
    rw [show o + 1 + i = o + (i + 1) by omega] at this
    have hc : (enc Γ (.inr (.inr x))).category = 1 := by rw [cat_enc]; rfl
    show _ ∈ (o, enc Γ (.inr (.inr x))) :: lv_args (if (enc Γ (.inr (.inr x))).category = 2 then o + 2 else o + 1) (vs.map (enc Γ))
    rw [if_neg (by rw [hc]; decide)]
    exact List.mem_cons_of_mem _ this
theorem lg_len {Γ : Gm} : ∀ as : List aV, (lg_sl (as.map (enc Γ))).length = (entL as).length
  | [] => rfl
  | .inl x :: vs => by simp [lg_sl, enc, entL, Value.category, ← lg_len (Γ := Γ) vs]
  | .inr (.inl x) :: vs => by simp [lg_sl, enc, entL, Value.category, ← lg_len (Γ := Γ) vs]
  | .inr (.inr none) :: vs => by simp [lg_sl, enc, entL, va_rf, Value.category, ← lg_len (Γ := Γ) vs]
  | .inr (.inr (some k)) :: vs => by simp [lg_sl, enc, entL, va_rf, Value.category, ← lg_len (Γ := Γ) vs]
theorem Cl.of {Γ : Gm} {l : Launch} {y : MethodName} {cc : ByteArray} {nL d : Nat} {rt : Option FieldType} {as : List aV} {n : Nat} {g : aG} {h : aH} {Q : Option aV → aG → aH → Prop} (hy : plainName y.cls = true) (L0 : List (Option aV)) (hL0 : entL as ++ List.replicate (nL - (entL as).length) none = L0) (hlen : (entL as).length ≤ nL)
    (body : ∀ (p : Program) (e : Env) (s : State) (m : MethodId) (args : Array Value) (below : List Frame) (meth : Method) (c : Code), Ac Γ p s m args meth c y.cls cc nL rt → OK Γ p l e (rmd d n n) s m args below meth c n (MQ below (QQ Γ n Q) args s (n - n) (sl n - sl n) (AA Γ)) 0 L0 [] n g h) : Cl Γ l (y, cc, nL, rt, d) as n g h Q := by
  refine Met.ofW (cc := cc) (maxL := nL) (ret := rt) hy rfl ?_
  intro p e s m args below meth c s₁ B hml hv
  obtain ⟨rfl, hH, hK⟩ := hv
  have hts := atoms_spec (ws := wsy y cc nL rt) B.pre
  have a : Ac Γ p s m (as.map (enc Γ)).toArray meth c y.cls cc nL rt := ⟨B.exec, B.bytes, hml, B.returns, B.notSynchronized, findClass_of_methodNamed B.named, fun w hw => hts w (List.mem_cons_of_mem _ hw), hK⟩
  have hl := lv_entry (as.map (enc Γ)) (n := nL) (by rw [lg_len]; exact hlen)
  rw [lg_entry_eq]
  generalize (lg_sl (as.map (enc Γ)) ++ List.replicate (nL - (lg_sl (as.map (enc Γ))).length) Slot.unset).toArray = ls at hl ⊢
  have hLR : LR Γ c.maxLocals L0 ls := by
    rw [hml]
    refine ⟨hl.1, hl.2.1, by rw [← hL0]; simp; omega, fun i v hi => ?_⟩
    rw [← hL0] at hi
    by_cases hlt : i < (entL as).length
    · rw [List.getElem?_append_left hlt] at hi
      have := entL_mem (Γ := Γ) as 0 i v hi
      rw [Nat.zero_add] at this
      exact hl.2.2 _ this
    · rw [List.getElem?_append_right (by omega)] at hi
      have := List.mem_of_getElem? hi
      rw [List.mem_replicate] at this
      cases this.2
  have k := body p e s m _ below meth c a s.heap [] ls hH va_S.rf hLR
  rw [Nat.sub_self, Nat.sub_self] at k
  rw [Nat.sub_self, Nat.sub_self]
  exact k
section CALL
variable {Γ : Gm} {p : Program} {l : Launch} {e : Env} {R : Room} {s : State} {m : MethodId} {args : Array Value} {below : List Frame} {meth : Method} {c : Code} {own : String} {cc : ByteArray} {nL : Nat} {rt : Option FieldType} {n0 : Nat} {Q : State → Prop} {pc : Nat} {L : List (Option aV)} {st : List aV} {n : Nat} {g : aG} {h : aH} {Q' : Option aV → aG → aH → Prop}
theorem ok_iret (a : Ac Γ p s m args meth c own cc nL (some .int)) {x : Int} (d : decode cc pc = .ok (.ireturn, 1)) (hq : Q' (some (vI x)) g h) : OK Γ p l e R s m args below meth c n0 (MQ below (QQ Γ n Q') args s (n - n0) (sl n - sl n0) (AA Γ)) pc L [vI x] n g h := by
  intro H locs ls hH hS hL
  exact W.iret a.1 a.2.1 a.2.2.2.1 (fun t ht _ => ⟨⟨some (vI x), g, h, rfl, hq, by rw [ht]; exact hH⟩, hS.F ht⟩) hS.2.2 d a.2.2.2.2.1
theorem ok_zret (a : Ac Γ p s m args meth c own cc nL (some .boolean)) {x : Int} (d : decode cc pc = .ok (.ireturn, 1)) (hx : x = 0 ∨ x = 1) (hq : Q' (some (vI x)) g h) : OK Γ p l e R s m args below meth c n0 (MQ below (QQ Γ n Q') args s (n - n0) (sl n - sl n0) (AA Γ)) pc L [vI x] n g h := by
  intro H locs ls hH hS hL
  exact W.zret a.1 a.2.1 a.2.2.2.1 (by rcases hx with rfl | rfl <;> rfl) (fun t ht _ => ⟨⟨some (vI x), g, h, rfl, hq, by rw [ht]; exact hH⟩, hS.F ht⟩) hS.2.2 d a.2.2.2.2.1
theorem ok_lret (a : Ac Γ p s m args meth c own cc nL (some .long)) {x : Int} (d : decode cc pc = .ok (.lreturn, 1)) (hq : Q' (some (vL x)) g h) : OK Γ p l e R s m args below meth c n0 (MQ below (QQ Γ n Q') args s (n - n0) (sl n - sl n0) (AA Γ)) pc L [vL x] n g h := by
  intro H locs ls hH hS hL
  exact W.lret a.1 a.2.1 a.2.2.2.1 (fun t ht _ => ⟨⟨some (vL x), g, h, rfl, hq, by rw [ht]; exact hH⟩, hS.F ht⟩) hS.2.2 d a.2.2.2.2.1
theorem ok_vret (a : Ac Γ p s m args meth c own cc nL none) (d : decode cc pc = .ok (.return_, 1)) (hq : Q' none g h) : OK Γ p l e R s m args below meth c n0 (MQ below (QQ Γ n Q') args s (n - n0) (sl n - sl n0) (AA Γ)) pc L [] n g h := by
  intro H locs ls hH hS hL
  exact W.vret a.1 a.2.1 a.2.2.2.1 (fun t ht _ => ⟨⟨none, g, h, rfl, hq, by rw [ht]; exact hH⟩, hS.F ht⟩) hS.2.2 d a.2.2.2.2.1
/-- the words of a call -/
def LkB (y : MI) (na : Nat) : Prop := Cond.initialized y.1.cls ∈ gtb ∧ Cond.code y.1 y.2.1 y.2.2.1 y.2.2.2.1 ∈ gtb ∧ (y.1.cls ≠ "java/lang/invoke/MethodHandle" ∧ y.1.cls ≠ "java/lang/invoke/VarHandle" ∧ (parseMethodDescriptor y.1.desc).map (fun d => d.parameters.length) = some na)
def LkM (own : String) (idx : Nat) (y : MI) : Prop := Cond.methodLink own idx y.1 ∈ gtb ∨ ∃ host, Cond.methodLinkNest own idx y.1 host ∈ lw_tbl
def LkV (own : String) (idx : Nat) (y : MI) (na : Nat) : Prop := LkB y na ∧ LkM own idx y ∧ Cond.instanceMethod y.1 ∈ gtb ∧ Cond.selects y.1.cls y.1 y.1 ∈ gtb
def LkS (own : String) (idx : Nat) (y : MI) (na : Nat) : Prop := LkB y na ∧ LkM own idx y ∧ Cond.static y.1 ∈ gtb
theorem good_wsy {y : MI} {na : Nat} (b : LkB y na) : GoodIn gtb (wsy y.1 y.2.1 y.2.2.1 y.2.2.2.1) := by
  intro w hw
  rcases List.mem_cons.mp hw with rfl | hw
  · exact ⟨b.2.1, gtb_good _ b.2.1⟩
  · exact ⟨hw, gtb_good _ hw⟩
theorem blind_pc {as : List Value} : FrameBlind (va_Pc as (fun U => HR Γ n g h U.heap ∧ KK Γ U)) := fun _ _ _ _ q => ⟨q.1, q.2.1, q.2.2.blind⟩
/-- behind any call -/
theorem ok_run {mc ms : Nat} {q0 : aH} {st0 : List aV} {as : Array Value} (hmc : mc = 0) (hms : ms = 0) (hr : ∀ (H : Heap) (locs : List Loc) (ls : Array Slot), HR Γ n g h H → va_S (AA Γ) s.heap H locs → LR Γ c.maxLocals L ls → va_Run p l e R s m args below meth c H locs (n - n0) (sl n - sl n0) mc ms (F0 m pc ls (st0.map (enc Γ))) (st.map (enc Γ)) (QQ Γ n Q' as) (AA Γ))
    (kk : ∀ v g' h', Q' v g' h' → OK Γ p l e R s m args below meth c n0 Q (pc + 3) L (v.toList ++ st) n g' h') : OK Γ p l e R s m args below meth c n0 Q pc L st0 n g h := by
  intro H locs ls hH hS hL T hT X
  obtain ⟨v, st₀, t, T', L1, h0, X', hL1, e1, e2, ⟨⟨v', g', h', hv, hq, hh⟩, hz, hkp⟩, stp⟩ := hr H locs ls hH hS hL T hT X
  have hv' : v = v'.map (enc Γ) := by injection hv
  subst hv' hmc hms
  rw [h0] at hz hkp
  obtain ⟨t2, a1, b1⟩ := kk v' g' h' hq T'.heap (locs ++ L1) ls (by rw [e1]; exact hh) ⟨Nat.le_trans hS.1 (by rw [e1]; exact hz), fun q h1 h2 => by rw [e1, hkp q (Nat.lt_of_lt_of_le h1 hS.1) h2]; exact hS.2.1 q h1 h2, fun q hq => by
      rcases List.mem_append.mp hq with h | h
      · exact hS.2.2 q h
      · exact hL1 q h⟩ hL T' rfl X'
  refine ⟨t2, stp t2 ?_, b1⟩
  have e9 : (v'.toList ++ st).map (enc Γ) = (v'.map (enc Γ)).toList ++ st.map (enc Γ) := by
    rw [List.map_append]
    cases v' <;> rfl
  rw [e9] at a1
  exact a1
theorem ok_callV (a : Ac Γ p s m args meth c own cc nL rt) {y : MI} {na idx k ci : Nat} {as : List aV} (M : Cl Γ l y (vR k :: as) n g h Q') (d : decode cc pc = .ok (.invokevirtual idx, 3)) (lk : LkV own idx y na) (hna : as.length = na) (hk : k < n) (hc : (kd k).1 = ci) (hci : ci < 10) (hC : cC ci = y.1.cls) (hR : y.2.2.2.2 + 1 ≤ R.frames ∧ 8 + (y.2.2.1 + 11) + 40 * y.2.2.2.2 ≤ R.locals) (hn0 : n0 = n) (hst : (st.map catA).sum ≤ 8)
    (kk : ∀ v g' h', Q' v g' h' → OK Γ p l e R s m args below meth c n0 Q (pc + 3) L (v.toList ++ st) n g' h') : OK Γ p l e R s m args below meth c n0 Q pc L (as.reverse ++ vR k :: st) n g h := by
  subst hn0
  obtain ⟨lb, lm, li, ls0⟩ := lk
  refine ok_run (q0 := h) (as := (Value.ref (ad Γ k) :: as.map (enc Γ)).toArray) (Nat.sub_self n0) (Nat.sub_self (sl n0)) (fun H locs ls hH hS hL => ?_) kk
  have hts := a.2.2.2.2.2.2.1
  have hcf := cf_all hci
  have hkn : k < 1000 := Nat.lt_of_lt_of_le hk hH.1
  have he := aw_at (Γ := Γ) (g := g) (h := h) hk
  rw [cw_obj hc hci] at he
  have hrc := va_recv a.2.2.2.2.2.2.2.1 hH.2 hcf.1 he
  rw [← ad_lt (Γ := Γ) hkn] at hrc
  have hpre : PreV s H y.1.cls (ad Γ k) (va_Pc ((vR k :: as).map (enc Γ)) (fun U => HR Γ n0 g h U.heap ∧ KK Γ U)) (as.map (enc Γ)) := ⟨blind_pc, by rw [← hC]; exact hrc, fun U hU hW => ⟨rfl, by rw [hU]; exact hH, a.2.2.2.2.2.2.2.go hS hU hW⟩⟩
  have hstk : (F0 m pc ls ((as.reverse ++ vR k :: st).map (enc Γ))).stack = (as.map (enc Γ)).reverse ++ .ref (ad Γ k) :: st.map (enc Γ) := by
    show (as.reverse ++ vR k :: st).map (enc Γ) = _
    rw [List.map_append, List.map_reverse]
    rfl
  have hf : (n0 - n0) + (n0 - n0) ≤ R.cells ∧ (sl n0 - sl n0) + (sl n0 - sl n0) ≤ R.slots := by simp
  have hw8 : 2 * (F0 m pc ls ((as.reverse ++ vR k :: st).map (enc Γ))).monitorRoom + ((st.map (enc Γ)).map fun v => v.category).sum ≤ 8 := lv_room (by rw [cat_sum]; exact hst)
  rcases lm with lm | ⟨host, lm⟩
  · have cb := callB_of (R := R) (s := s) (args := args) (own := own) (index := idx) (rm := rmd y.2.2.2.2 n0 n0) na hts (good_wsy lb) rfl rfl rfl (hts _ lb.1) (hts _ lm) lb.2.2 hR
    exact va_runV ⟨a.1, a.2.1, a.2.2.1, a.2.2.2.2.2.1, hts⟩ M ⟨cb, hts _ li, hts _ ls0⟩ hpre rfl (by rw [List.length_map]; exact hna) (by rw [← a.2.2.1]; exact hL.1) hstk hw8 d hf
  · have cb := va_cnB (R := R) (s := s) (args := args) (own := own) (index := idx) (host := host) (rm := rmd y.2.2.2.2 n0 n0) na hts (good_wsy lb) rfl rfl rfl (a.2.2.2.2.2.2.2.2.1 _ lm rfl) (hts _ lb.1) lb.2.2 hR
    exact va_runVN ⟨a.1, a.2.1, a.2.2.1, a.2.2.2.2.2.1, hts⟩ M ⟨cb, hts _ li, hts _ ls0⟩ hpre rfl (by rw [List.length_map]; exact hna) (by rw [← a.2.2.1]; exact hL.1) hstk hw8 d hf
theorem ok_callS (a : Ac Γ p s m args meth c own cc nL rt) {y : MI} {na idx : Nat} {as : List aV} (M : Cl Γ l y as n g h Q') (d : decode cc pc = .ok (.invokestatic idx, 3)) (lk : LkS own idx y na) (hna : as.length = na) (hR : y.2.2.2.2 + 1 ≤ R.frames ∧ 8 + (y.2.2.1 + 11) + 40 * y.2.2.2.2 ≤ R.locals) (hn0 : n0 = n) (hst : (st.map catA).sum ≤ 8)
    (kk : ∀ v g' h', Q' v g' h' → OK Γ p l e R s m args below meth c n0 Q (pc + 3) L (v.toList ++ st) n g' h') : OK Γ p l e R s m args below meth c n0 Q pc L (as.reverse ++ st) n g h := by
  subst hn0
  obtain ⟨lb, lm, li⟩ := lk
  refine ok_run (q0 := h) (as := (as.map (enc Γ)).toArray) (Nat.sub_self n0) (Nat.sub_self (sl n0)) (fun H locs ls hH hS hL => ?_) kk
  have hts := a.2.2.2.2.2.2.1
  have hpre : PreS s H (va_Pc (as.map (enc Γ)) (fun U => HR Γ n0 g h U.heap ∧ KK Γ U)) (as.map (enc Γ)) := ⟨blind_pc, fun U hU hW => ⟨rfl, by rw [hU]; exact hH, a.2.2.2.2.2.2.2.go hS hU hW⟩⟩
  have hstk : (F0 m pc ls ((as.reverse ++ st).map (enc Γ))).stack = (as.map (enc Γ)).reverse ++ st.map (enc Γ) := by
    show (as.reverse ++ st).map (enc Γ) = _
    rw [List.map_append, List.map_reverse]
  have hf : (n0 - n0) + (n0 - n0) ≤ R.cells ∧ (sl n0 - sl n0) + (sl n0 - sl n0) ≤ R.slots := by simp
  have hw8 : 2 * (F0 m pc ls ((as.reverse ++ st).map (enc Γ))).monitorRoom + ((st.map (enc Γ)).map fun v => v.category).sum ≤ 8 := lv_room (by rw [cat_sum]; exact hst)
  rcases lm with lm | ⟨host, lm⟩
  · have cb := callB_of (R := R) (s := s) (args := args) (own := own) (index := idx) (rm := rmd y.2.2.2.2 n0 n0) na hts (good_wsy lb) rfl rfl rfl (hts _ lb.1) (hts _ lm) lb.2.2 hR
    exact va_runS ⟨a.1, a.2.1, a.2.2.1, a.2.2.2.2.2.1, hts⟩ M ⟨cb, hts _ li⟩ hpre rfl (by rw [List.length_map]; exact hna) (by rw [← a.2.2.1]; exact hL.1) hstk hw8 d hf
  · have cb := va_cnB (R := R) (s := s) (args := args) (own := own) (index := idx) (host := host) (rm := rmd y.2.2.2.2 n0 n0) na hts (good_wsy lb) rfl rfl rfl (a.2.2.2.2.2.2.2.2.1 _ lm rfl) (hts _ lb.1) lb.2.2 hR
    exact va_runSN ⟨a.1, a.2.1, a.2.2.1, a.2.2.2.2.2.1, hts⟩ M ⟨cb, hts _ li, trivial⟩ hpre rfl (by rw [List.length_map]; exact hna) (by rw [← a.2.2.1]; exact hL.1) hstk hw8 d hf
end CALL
-- LOOPS of the pictures
def lpN {σ : Type} (F : (σ → Prop) → σ → Prop) : Nat → σ → Prop
  | 0 => fun _ => False
  | k + 1 => fun x => F (lpN F k) x
def lp {σ : Type} (F : (σ → Prop) → σ → Prop) (x : σ) : Prop := ∃ k, lpN F k x
theorem lp.use {σ : Type} {F : (σ → Prop) → σ → Prop} {P : σ → Prop} (step : ∀ (X : σ → Prop), (∀ y, X y → P y) → ∀ y, F X y → P y) : ∀ x, lp F x → P x := by
  intro x hx
  obtain ⟨k, hk⟩ := hx
  revert x
  induction k with
  | zero => intro x h; exact absurd h (by simp [lpN])
  | succ k ih => intro x h; exact step (lpN F k) ih x h
theorem lp.rule {σ : Type} {F : (σ → Prop) → σ → Prop} (μ : σ → Nat) (I : σ → Prop) (step : ∀ (X : σ → Prop) (y : σ), I y → (∀ z, I z → μ z < μ y → X z) → F X y) (x : σ) (hx : I x) : lp F x := by
  have key : ∀ (k : Nat) (y : σ), I y → μ y < k → lpN F k y := by
    intro k
    induction k with
    | zero => intro y _ h; omega
    | succ k ih => intro y hy h; exact step _ y hy (fun z hz hlt => ih z hz (by omega))
  exact ⟨μ x + 1, key _ x hx (by omega)⟩
end
section
def cellref : List (Nat × Nat × Nat) := [(0,0,1),(0,1,3),(0,2,8),(0,3,13),(0,4,15),(0,5,37),(0,6,42),(0,7,43),(0,8,46),(0,9,49),(0,10,52),(1,0,2),(3,0,4),(3,1,5),(3,2,6),(3,3,7),(8,0,9),(8,1,10),(8,2,11),(8,3,12),(15,0,16),(43,0,44),(43,1,45),(46,0,47),(46,1,48),(49,0,50),(49,1,51),(52,0,53),(52,1,54),(52,2,55),(52,3,56),(52,4,57),(52,5,58),(13,0,14),(17,0,18),(19,0,20),(21,0,22),(23,0,24),(25,0,26),(27,0,28),(29,0,30),(31,0,32),(33,0,34),(35,0,36),(38,0,39),(40,0,41),(16,0,17),(16,1,19),(16,2,21),(16,3,23),(16,4,25),(16,5,27),(16,6,29),(16,7,31),(16,8,33),(16,9,35),(37,0,38),(37,1,40),(59,2,60),(59,9,61),(59,10,62),(59,11,63),(59,12,64),(59,13,65),(59,14,66),(59,15,67),(59,16,68),(59,17,69),(59,19,70),(59,20,71),(59,21,72),(59,23,73),(59,24,74),(59,26,75),(59,28,76),(59,29,77),(59,30,78),(59,31,79)]
/-- what the references of the class's 59 cells, of the reference's 21, are once they are made -/
def TC (g : aG) : Prop := ∀ q ∈ cellref, q.1 < 59 → g q.1 (q.2.1 : Int) = some q.2.2
def TM (g : aG) : Prop := ∀ q ∈ cellref, 59 ≤ q.1 → g q.1 (q.2.1 : Int) = some q.2.2
theorem TC.at {g : aG} (t : TC g) (k j r : Nat) (h : (k, j, r) ∈ cellref) (hk : k < 59) : g k (j : Int) = some r := t _ h hk
theorem TM.at {g : aG} (t : TM g) (k j r : Nat) (h : (k, j, r) ∈ cellref) (hk : 59 ≤ k) : g k (j : Int) = some r := t _ h hk
theorem mom_spec0 : ∀ k, k < 59 → ¬ (kd k).1 = 4 ∨ ((k, 0, k + 1) ∈ cellref ∧ kd (k + 1) = (10, 16) ∧ k + 1 < 59) := by decide +kernel
theorem mom_spec (k : Nat) (h : k < 59) (h4 : (kd k).1 = 4) : (k, 0, k + 1) ∈ cellref ∧ kd (k + 1) = (10, 16) ∧ k + 1 < 59 := (mom_spec0 k h).resolve_left (fun q => q h4)
theorem shop_s1 : ∀ k, k < 59 → ¬ (kd k).1 = 7 ∨ ((k, 0, k + 1) ∈ cellref ∧ (k, 1, k + 2) ∈ cellref) := by decide +kernel
theorem shop_s0 : ∀ k, k < 59 → ¬ (kd k).1 = 7 ∨ ((k, 2, k + 3) ∈ cellref ∧ (k, 3, k + 4) ∈ cellref) := by decide +kernel
theorem shop_s2 : ∀ k, k < 59 → ¬ (kd k).1 = 7 ∨ (kd (k + 1) = (10, 4) ∧ kd (k + 2) = (10, 16) ∧ kd (k + 3) = (10, 16)) := by decide +kernel
theorem shop_s3 : ∀ k, k < 59 → ¬ (kd k).1 = 7 ∨ (kd (k + 4) = (10, 5) ∧ k + 4 < 59) := by decide +kernel
theorem shop_spec (k : Nat) (h : k < 59) (h4 : (kd k).1 = 7) : ((k, 0, k + 1) ∈ cellref ∧ (k, 1, k + 2) ∈ cellref ∧ (k, 2, k + 3) ∈ cellref ∧ (k, 3, k + 4) ∈ cellref) ∧ kd (k + 1) = (10, 4) ∧ kd (k + 2) = (10, 16) ∧ kd (k + 3) = (10, 16) ∧ kd (k + 4) = (10, 5) ∧ k + 4 < 59 := by
  obtain ⟨x1, x2⟩ := (shop_s1 k h).resolve_left (fun q => q h4)
  obtain ⟨x3, x4⟩ := (shop_s0 k h).resolve_left (fun q => q h4)
  obtain ⟨x5, x6, x7⟩ := (shop_s2 k h).resolve_left (fun q => q h4)
  obtain ⟨x8, x9⟩ := (shop_s3 k h).resolve_left (fun q => q h4)
  exact ⟨⟨x1, x2, x3, x4⟩, x5, x6, x7, x8, x9⟩
theorem ring_fix : ∀ i, i < 10 → (16, i, 17 + 2 * i) ∈ cellref ∧ (kd (17 + 2 * i)).1 = 4 ∧ 17 + 2 * i < 59 := by decide +kernel
theorem img_fix : ∀ i, i < 2 → (37, i, 38 + 2 * i) ∈ cellref ∧ (kd (38 + 2 * i)).1 = 4 ∧ 38 + 2 * i < 59 := by decide +kernel
theorem TC.ring {g : aG} (t : TC g) {i : Int} (h : 0 ≤ i ∧ i < 10) : g 16 i = some (17 + 2 * i.toNat) := by
  have := t.at 16 i.toNat (17 + 2 * i.toNat) (ring_fix _ (by omega)).1 (by decide)
  rwa [Int.toNat_of_nonneg h.1] at this
theorem TC.img {g : aG} (t : TC g) {i : Int} (h : 0 ≤ i ∧ i < 2) : g 37 i = some (38 + 2 * i.toNat) := by
  have := t.at 37 i.toNat (38 + 2 * i.toNat) (img_fix _ (by omega)).1 (by decide)
  rwa [Int.toNat_of_nonneg h.1] at this
def RI (g : aG) (Q : Int → aH → Prop) : Option aV → aG → aH → Prop := fun v g' h' => ∃ r, v = some (vI r) ∧ g' = g ∧ Q r h'
def RL' (g : aG) (Q : Int → aH → Prop) : Option aV → aG → aH → Prop := fun v g' h' => ∃ r, v = some (vL r) ∧ g' = g ∧ Q r h'
def RV (g : aG) (Q : aH → Prop) : Option aV → aG → aH → Prop := fun v g' h' => v = none ∧ g' = g ∧ Q h'
def RZ (g : aG) (Q : Int → aH → Prop) : Option aV → aG → aH → Prop := fun v g' h' => ∃ r, v = some (vI r) ∧ g' = g ∧ (r = 0 ∨ r = 1) ∧ Q r h'
def PI (g : aG) (h : aH) (Q : Int → Prop) : Option aV → aG → aH → Prop := fun v g' h' => ∃ r, v = some (vI r) ∧ g' = g ∧ h' = h ∧ Q r
def PZ (g : aG) (h : aH) (Q : Int → Prop) : Option aV → aG → aH → Prop := fun v g' h' => ∃ r, v = some (vI r) ∧ g' = g ∧ h' = h ∧ (r = 0 ∨ r = 1) ∧ Q r
def PL (g : aG) (h : aH) (Q : Int → Prop) : Option aV → aG → aH → Prop := fun v g' h' => ∃ r, v = some (vL r) ∧ g' = g ∧ h' = h ∧ Q r
theorem ite01 {c : Prop} [Decidable c] {a b : Int} (ha : a = 0 ∨ a = 1) (hb : b = 0 ∨ b = 1) : (if c then a else b) = 0 ∨ (if c then a else b) = 1 := by
  by_cases h : c
  · rw [if_pos h]; exact ha
  · rw [if_neg h]; exact hb
theorem inR_b {r : Int} (h : r = 0 ∨ r = 1) : inR r := by rcases h with rfl | rfl <;> exact ⟨by decide, by decide⟩
theorem inR_cmpL (x y : Int) : inR (cmpL x y) := by
  unfold cmpL
  split
  · exact ⟨by decide, by decide⟩
  · split <;> exact ⟨by decide, by decide⟩
section MORE
variable {Γ : Gm} {p : Program} {l : Launch} {e : Env} {R : Room} {s : State} {m : MethodId} {args : Array Value} {below : List Frame} {meth : Method} {c : Code} {own : String} {cc : ByteArray} {nL : Nat} {rt : Option FieldType} {n0 : Nat} {Q : State → Prop} {pc : Nat} {L : List (Option aV)} {st : List aV} {n : Nat} {g : aG} {h : aH}
theorem ok_lcmp (a : Ac Γ p s m args meth c own cc nL rt) {x y : Int} (d : decode cc pc = .ok (.lcmp, 1)) (hx : inL x) (hy : inL y) (kk : OK Γ p l e R s m args below meth c n0 Q (pc + 1) L (vI (cmpL x y) :: st) n g h) : OK Γ p l e R s m args below meth c n0 Q pc L (vL y :: vL x :: st) n g h := by
  intro H locs ls hH hS hL
  have k1 := kk H locs ls hH hS hL
  have e : Int32.ofInt (cmpL x y) = lg_cmp (Int64.ofInt x) (Int64.ofInt y) := by
    unfold cmpL lg_cmp
    simp only [gt_iff_lt, Int64.lt_iff_toInt_lt, ← Int64.toInt_inj, i64T hx, i64T hy]
    by_cases h1 : x < y
    · rw [if_pos h1, if_neg (by omega), if_neg (by omega)]; rfl
    · by_cases h2 : x = y
      · rw [if_neg h1, if_pos h2, if_neg (by omega), if_pos h2]; rfl
      · rw [if_neg h1, if_neg h2, if_pos (by omega)]; rfl
  simp only [List.map_cons, enc, e] at k1
  exact W.lcmp a.1 a.2.1 d k1
theorem ok_sI_n (a : Ac Γ p s m args meth c own cc nL rt) {k : Fin 4} {i : Nat} {x : Int} (L' : List (Option aV)) (d : decode cc pc = .ok (.istore_n k, 1)) (hi : (k : Nat) = i) (hn : i < nL) (hg : nlg L i = true) (hL' : L.set i (some (vI x)) = L') (kk : OK Γ p l e R s m args below meth c n0 Q (pc + 1) L' st n g h) : OK Γ p l e R s m args below meth c n0 Q pc L (vI x :: st) n g h := ok_istore_n a d hi hn hg (hL' ▸ kk)
theorem ok_sI (a : Ac Γ p s m args meth c own cc nL rt) {i : Nat} {x : Int} (L' : List (Option aV)) (d : decode cc pc = .ok (.istore i, 2)) (hn : i < nL) (hg : nlg L i = true) (hL' : L.set i (some (vI x)) = L') (kk : OK Γ p l e R s m args below meth c n0 Q (pc + 2) L' st n g h) : OK Γ p l e R s m args below meth c n0 Q pc L (vI x :: st) n g h := ok_istore a d hn hg (hL' ▸ kk)
theorem ok_sL_n (a : Ac Γ p s m args meth c own cc nL rt) {k : Fin 4} {i : Nat} {x : Int} (L' : List (Option aV)) (d : decode cc pc = .ok (.lstore_n k, 1)) (hi : (k : Nat) = i) (hn : i + 1 < nL) (hg : nlg L i = true) (hL' : (L.set i (some (vL x))).set (i + 1) none = L') (kk : OK Γ p l e R s m args below meth c n0 Q (pc + 1) L' st n g h) : OK Γ p l e R s m args below meth c n0 Q pc L (vL x :: st) n g h := ok_lstore_n a d hi hn hg (hL' ▸ kk)
theorem ok_sL (a : Ac Γ p s m args meth c own cc nL rt) {i : Nat} {x : Int} (L' : List (Option aV)) (d : decode cc pc = .ok (.lstore i, 2)) (hn : i + 1 < nL) (hg : nlg L i = true) (hL' : (L.set i (some (vL x))).set (i + 1) none = L') (kk : OK Γ p l e R s m args below meth c n0 Q (pc + 2) L' st n g h) : OK Γ p l e R s m args below meth c n0 Q pc L (vL x :: st) n g h := ok_lstore a d hn hg (hL' ▸ kk)
theorem ok_inc (a : Ac Γ p s m args meth c own cc nL rt) {i : Nat} {k x : Int} (L' : List (Option aV)) (d : decode cc pc = .ok (.iinc i k, 3)) (hl : L[i]? = some (some (vI x))) (hn : i < nL) (hg : nlg L i = true) (hL' : L.set i (some (vI (x + k))) = L') (kk : OK Γ p l e R s m args below meth c n0 Q (pc + 3) L' st n g h) : OK Γ p l e R s m args below meth c n0 Q pc L st n g h := ok_iinc a d hl hn hg (hL' ▸ kk)
/-- a name for the top of the stack -/
theorem ok_nmI {x : Int} (kk : ∀ z, z = x → OK Γ p l e R s m args below meth c n0 Q pc L (vI z :: st) n g h) : OK Γ p l e R s m args below meth c n0 Q pc L (vI x :: st) n g h := kk x rfl
theorem ok_nmL {x : Int} (kk : ∀ z, z = x → OK Γ p l e R s m args below meth c n0 Q pc L (vL z :: st) n g h) : OK Γ p l e R s m args below meth c n0 Q pc L (vL x :: st) n g h := kk x rfl
/-- a name for the heap -/
theorem ok_nmH (kk : ∀ z, z = h → OK Γ p l e R s m args below meth c n0 Q pc L st n g z) : OK Γ p l e R s m args below meth c n0 Q pc L st n g h := kk h rfl
theorem ok_VRI (a : Ac Γ p s m args meth c own cc nL rt) {y : MI} {na idx k ci : Nat} {Qw : Int → aH → Prop} {st0 : List aV} (as st : List aV) (M : Cl Γ l y (vR k :: as) n g h (RI g Qw)) (d : decode cc pc = .ok (.invokevirtual idx, 3)) (lk : LkV own idx y na) (hna : as.length = na) (hk : k < n) (hc : (kd k).1 = ci) (hci : ci < 10) (hC : cC ci = y.1.cls) (hR : y.2.2.2.2 + 1 ≤ R.frames ∧ 8 + (y.2.2.1 + 11) + 40 * y.2.2.2.2 ≤ R.locals) (hn0 : n0 = n) (hst : (st.map catA).sum ≤ 8) (e0 : as.reverse ++ vR k :: st = st0) (kk : ∀ r h1, Qw r h1 → OK Γ p l e R s m args below meth c n0 Q (pc + 3) L (vI r :: st) n g h1) : OK Γ p l e R s m args below meth c n0 Q pc L st0 n g h := by
  subst e0
  refine ok_callV a M d lk hna hk hc hci hC hR hn0 hst (fun v g' h' q => ?_)
  obtain ⟨r, rfl, rfl, hq⟩ := q; exact kk r _ hq
theorem ok_SRI (a : Ac Γ p s m args meth c own cc nL rt) {y : MI} {na idx : Nat} {Qw : Int → aH → Prop} {st0 : List aV} (as st : List aV) (M : Cl Γ l y as n g h (RI g Qw)) (d : decode cc pc = .ok (.invokestatic idx, 3)) (lk : LkS own idx y na) (hna : as.length = na) (hR : y.2.2.2.2 + 1 ≤ R.frames ∧ 8 + (y.2.2.1 + 11) + 40 * y.2.2.2.2 ≤ R.locals) (hn0 : n0 = n) (hst : (st.map catA).sum ≤ 8) (e0 : as.reverse ++ st = st0) (kk : ∀ r h1, Qw r h1 → OK Γ p l e R s m args below meth c n0 Q (pc + 3) L (vI r :: st) n g h1) : OK Γ p l e R s m args below meth c n0 Q pc L st0 n g h := by
  subst e0
  refine ok_callS a M d lk hna hR hn0 hst (fun v g' h' q => ?_)
  obtain ⟨r, rfl, rfl, hq⟩ := q; exact kk r _ hq
theorem ok_VRL (a : Ac Γ p s m args meth c own cc nL rt) {y : MI} {na idx k ci : Nat} {Qw : Int → aH → Prop} {st0 : List aV} (as st : List aV) (M : Cl Γ l y (vR k :: as) n g h (RL' g Qw)) (d : decode cc pc = .ok (.invokevirtual idx, 3)) (lk : LkV own idx y na) (hna : as.length = na) (hk : k < n) (hc : (kd k).1 = ci) (hci : ci < 10) (hC : cC ci = y.1.cls) (hR : y.2.2.2.2 + 1 ≤ R.frames ∧ 8 + (y.2.2.1 + 11) + 40 * y.2.2.2.2 ≤ R.locals) (hn0 : n0 = n) (hst : (st.map catA).sum ≤ 8) (e0 : as.reverse ++ vR k :: st = st0) (kk : ∀ r h1, Qw r h1 → OK Γ p l e R s m args below meth c n0 Q (pc + 3) L (vL r :: st) n g h1) : OK Γ p l e R s m args below meth c n0 Q pc L st0 n g h := by
  subst e0
  refine ok_callV a M d lk hna hk hc hci hC hR hn0 hst (fun v g' h' q => ?_)
  obtain ⟨r, rfl, rfl, hq⟩ := q; exact kk r _ hq
theorem ok_SRL (a : Ac Γ p s m args meth c own cc nL rt) {y : MI} {na idx : Nat} {Qw : Int → aH → Prop} {st0 : List aV} (as st : List aV) (M : Cl Γ l y as n g h (RL' g Qw)) (d : decode cc pc = .ok (.invokestatic idx, 3)) (lk : LkS own idx y na) (hna : as.length = na) (hR : y.2.2.2.2 + 1 ≤ R.frames ∧ 8 + (y.2.2.1 + 11) + 40 * y.2.2.2.2 ≤ R.locals) (hn0 : n0 = n) (hst : (st.map catA).sum ≤ 8) (e0 : as.reverse ++ st = st0) (kk : ∀ r h1, Qw r h1 → OK Γ p l e R s m args below meth c n0 Q (pc + 3) L (vL r :: st) n g h1) : OK Γ p l e R s m args below meth c n0 Q pc L st0 n g h := by
  subst e0
  refine ok_callS a M d lk hna hR hn0 hst (fun v g' h' q => ?_)
  obtain ⟨r, rfl, rfl, hq⟩ := q; exact kk r _ hq
theorem ok_VRV (a : Ac Γ p s m args meth c own cc nL rt) {y : MI} {na idx k ci : Nat} {Qw : aH → Prop} {st0 : List aV} (as st : List aV) (M : Cl Γ l y (vR k :: as) n g h (RV g Qw)) (d : decode cc pc = .ok (.invokevirtual idx, 3)) (lk : LkV own idx y na) (hna : as.length = na) (hk : k < n) (hc : (kd k).1 = ci) (hci : ci < 10) (hC : cC ci = y.1.cls) (hR : y.2.2.2.2 + 1 ≤ R.frames ∧ 8 + (y.2.2.1 + 11) + 40 * y.2.2.2.2 ≤ R.locals) (hn0 : n0 = n) (hst : (st.map catA).sum ≤ 8) (e0 : as.reverse ++ vR k :: st = st0) (kk : ∀ h1, Qw h1 → OK Γ p l e R s m args below meth c n0 Q (pc + 3) L st n g h1) : OK Γ p l e R s m args below meth c n0 Q pc L st0 n g h := by
  subst e0
  refine ok_callV a M d lk hna hk hc hci hC hR hn0 hst (fun v g' h' q => ?_)
  obtain ⟨rfl, rfl, hq⟩ := q; exact kk _ hq
theorem ok_SRV (a : Ac Γ p s m args meth c own cc nL rt) {y : MI} {na idx : Nat} {Qw : aH → Prop} {st0 : List aV} (as st : List aV) (M : Cl Γ l y as n g h (RV g Qw)) (d : decode cc pc = .ok (.invokestatic idx, 3)) (lk : LkS own idx y na) (hna : as.length = na) (hR : y.2.2.2.2 + 1 ≤ R.frames ∧ 8 + (y.2.2.1 + 11) + 40 * y.2.2.2.2 ≤ R.locals) (hn0 : n0 = n) (hst : (st.map catA).sum ≤ 8) (e0 : as.reverse ++ st = st0) (kk : ∀ h1, Qw h1 → OK Γ p l e R s m args below meth c n0 Q (pc + 3) L st n g h1) : OK Γ p l e R s m args below meth c n0 Q pc L st0 n g h := by
  subst e0
  refine ok_callS a M d lk hna hR hn0 hst (fun v g' h' q => ?_)
  obtain ⟨rfl, rfl, hq⟩ := q; exact kk _ hq
theorem ok_VRZ (a : Ac Γ p s m args meth c own cc nL rt) {y : MI} {na idx k ci : Nat} {Qw : Int → aH → Prop} {st0 : List aV} (as st : List aV) (M : Cl Γ l y (vR k :: as) n g h (RZ g Qw)) (d : decode cc pc = .ok (.invokevirtual idx, 3)) (lk : LkV own idx y na) (hna : as.length = na) (hk : k < n) (hc : (kd k).1 = ci) (hci : ci < 10) (hC : cC ci = y.1.cls) (hR : y.2.2.2.2 + 1 ≤ R.frames ∧ 8 + (y.2.2.1 + 11) + 40 * y.2.2.2.2 ≤ R.locals) (hn0 : n0 = n) (hst : (st.map catA).sum ≤ 8) (e0 : as.reverse ++ vR k :: st = st0) (kk : ∀ r h1, (r = 0 ∨ r = 1) → Qw r h1 → OK Γ p l e R s m args below meth c n0 Q (pc + 3) L (vI r :: st) n g h1) : OK Γ p l e R s m args below meth c n0 Q pc L st0 n g h := by
  subst e0
  refine ok_callV a M d lk hna hk hc hci hC hR hn0 hst (fun v g' h' q => ?_)
  obtain ⟨r, rfl, rfl, hz, hq⟩ := q; exact kk r _ hz hq
theorem ok_SRZ (a : Ac Γ p s m args meth c own cc nL rt) {y : MI} {na idx : Nat} {Qw : Int → aH → Prop} {st0 : List aV} (as st : List aV) (M : Cl Γ l y as n g h (RZ g Qw)) (d : decode cc pc = .ok (.invokestatic idx, 3)) (lk : LkS own idx y na) (hna : as.length = na) (hR : y.2.2.2.2 + 1 ≤ R.frames ∧ 8 + (y.2.2.1 + 11) + 40 * y.2.2.2.2 ≤ R.locals) (hn0 : n0 = n) (hst : (st.map catA).sum ≤ 8) (e0 : as.reverse ++ st = st0) (kk : ∀ r h1, (r = 0 ∨ r = 1) → Qw r h1 → OK Γ p l e R s m args below meth c n0 Q (pc + 3) L (vI r :: st) n g h1) : OK Γ p l e R s m args below meth c n0 Q pc L st0 n g h := by
  subst e0
  refine ok_callS a M d lk hna hR hn0 hst (fun v g' h' q => ?_)
  obtain ⟨r, rfl, rfl, hz, hq⟩ := q; exact kk r _ hz hq
theorem ok_VPI (a : Ac Γ p s m args meth c own cc nL rt) {y : MI} {na idx k ci : Nat} {Qw : Int → Prop} {st0 : List aV} (as st : List aV) (M : Cl Γ l y (vR k :: as) n g h (PI g h Qw)) (d : decode cc pc = .ok (.invokevirtual idx, 3)) (lk : LkV own idx y na) (hna : as.length = na) (hk : k < n) (hc : (kd k).1 = ci) (hci : ci < 10) (hC : cC ci = y.1.cls) (hR : y.2.2.2.2 + 1 ≤ R.frames ∧ 8 + (y.2.2.1 + 11) + 40 * y.2.2.2.2 ≤ R.locals) (hn0 : n0 = n) (hst : (st.map catA).sum ≤ 8) (e0 : as.reverse ++ vR k :: st = st0) (kk : ∀ r, Qw r → OK Γ p l e R s m args below meth c n0 Q (pc + 3) L (vI r :: st) n g h) : OK Γ p l e R s m args below meth c n0 Q pc L st0 n g h := by
  subst e0
  refine ok_callV a M d lk hna hk hc hci hC hR hn0 hst (fun v g' h' q => ?_)
  obtain ⟨r, rfl, rfl, rfl, hq⟩ := q; exact kk r hq
theorem ok_SPI (a : Ac Γ p s m args meth c own cc nL rt) {y : MI} {na idx : Nat} {Qw : Int → Prop} {st0 : List aV} (as st : List aV) (M : Cl Γ l y as n g h (PI g h Qw)) (d : decode cc pc = .ok (.invokestatic idx, 3)) (lk : LkS own idx y na) (hna : as.length = na) (hR : y.2.2.2.2 + 1 ≤ R.frames ∧ 8 + (y.2.2.1 + 11) + 40 * y.2.2.2.2 ≤ R.locals) (hn0 : n0 = n) (hst : (st.map catA).sum ≤ 8) (e0 : as.reverse ++ st = st0) (kk : ∀ r, Qw r → OK Γ p l e R s m args below meth c n0 Q (pc + 3) L (vI r :: st) n g h) : OK Γ p l e R s m args below meth c n0 Q pc L st0 n g h := by
  subst e0
  refine ok_callS a M d lk hna hR hn0 hst (fun v g' h' q => ?_)
  obtain ⟨r, rfl, rfl, rfl, hq⟩ := q; exact kk r hq
theorem ok_VPZ (a : Ac Γ p s m args meth c own cc nL rt) {y : MI} {na idx k ci : Nat} {Qw : Int → Prop} {st0 : List aV} (as st : List aV) (M : Cl Γ l y (vR k :: as) n g h (PZ g h Qw)) (d : decode cc pc = .ok (.invokevirtual idx, 3)) (lk : LkV own idx y na) (hna : as.length = na) (hk : k < n) (hc : (kd k).1 = ci) (hci : ci < 10) (hC : cC ci = y.1.cls) (hR : y.2.2.2.2 + 1 ≤ R.frames ∧ 8 + (y.2.2.1 + 11) + 40 * y.2.2.2.2 ≤ R.locals) (hn0 : n0 = n) (hst : (st.map catA).sum ≤ 8) (e0 : as.reverse ++ vR k :: st = st0) (kk : ∀ r, (r = 0 ∨ r = 1) → Qw r → OK Γ p l e R s m args below meth c n0 Q (pc + 3) L (vI r :: st) n g h) : OK Γ p l e R s m args below meth c n0 Q pc L st0 n g h := by
  subst e0
  refine ok_callV a M d lk hna hk hc hci hC hR hn0 hst (fun v g' h' q => ?_)
  obtain ⟨r, rfl, rfl, rfl, hz, hq⟩ := q; exact kk r hz hq
theorem ok_SPZ (a : Ac Γ p s m args meth c own cc nL rt) {y : MI} {na idx : Nat} {Qw : Int → Prop} {st0 : List aV} (as st : List aV) (M : Cl Γ l y as n g h (PZ g h Qw)) (d : decode cc pc = .ok (.invokestatic idx, 3)) (lk : LkS own idx y na) (hna : as.length = na) (hR : y.2.2.2.2 + 1 ≤ R.frames ∧ 8 + (y.2.2.1 + 11) + 40 * y.2.2.2.2 ≤ R.locals) (hn0 : n0 = n) (hst : (st.map catA).sum ≤ 8) (e0 : as.reverse ++ st = st0) (kk : ∀ r, (r = 0 ∨ r = 1) → Qw r → OK Γ p l e R s m args below meth c n0 Q (pc + 3) L (vI r :: st) n g h) : OK Γ p l e R s m args below meth c n0 Q pc L st0 n g h := by
  subst e0
  refine ok_callS a M d lk hna hR hn0 hst (fun v g' h' q => ?_)
  obtain ⟨r, rfl, rfl, rfl, hz, hq⟩ := q; exact kk r hz hq
theorem ok_VPL (a : Ac Γ p s m args meth c own cc nL rt) {y : MI} {na idx k ci : Nat} {Qw : Int → Prop} {st0 : List aV} (as st : List aV) (M : Cl Γ l y (vR k :: as) n g h (PL g h Qw)) (d : decode cc pc = .ok (.invokevirtual idx, 3)) (lk : LkV own idx y na) (hna : as.length = na) (hk : k < n) (hc : (kd k).1 = ci) (hci : ci < 10) (hC : cC ci = y.1.cls) (hR : y.2.2.2.2 + 1 ≤ R.frames ∧ 8 + (y.2.2.1 + 11) + 40 * y.2.2.2.2 ≤ R.locals) (hn0 : n0 = n) (hst : (st.map catA).sum ≤ 8) (e0 : as.reverse ++ vR k :: st = st0) (kk : ∀ r, Qw r → OK Γ p l e R s m args below meth c n0 Q (pc + 3) L (vL r :: st) n g h) : OK Γ p l e R s m args below meth c n0 Q pc L st0 n g h := by
  subst e0
  refine ok_callV a M d lk hna hk hc hci hC hR hn0 hst (fun v g' h' q => ?_)
  obtain ⟨r, rfl, rfl, rfl, hq⟩ := q; exact kk r hq
theorem ok_SPL (a : Ac Γ p s m args meth c own cc nL rt) {y : MI} {na idx : Nat} {Qw : Int → Prop} {st0 : List aV} (as st : List aV) (M : Cl Γ l y as n g h (PL g h Qw)) (d : decode cc pc = .ok (.invokestatic idx, 3)) (lk : LkS own idx y na) (hna : as.length = na) (hR : y.2.2.2.2 + 1 ≤ R.frames ∧ 8 + (y.2.2.1 + 11) + 40 * y.2.2.2.2 ≤ R.locals) (hn0 : n0 = n) (hst : (st.map catA).sum ≤ 8) (e0 : as.reverse ++ st = st0) (kk : ∀ r, Qw r → OK Γ p l e R s m args below meth c n0 Q (pc + 3) L (vL r :: st) n g h) : OK Γ p l e R s m args below meth c n0 Q pc L st0 n g h := by
  subst e0
  refine ok_callS a M d lk hna hR hn0 hst (fun v g' h' q => ?_)
  obtain ⟨r, rfl, rfl, rfl, hq⟩ := q; exact kk r hq
end MORE
end
section
section FIRSTW
variable {Γ : Gm} {p : Program} {l : Launch} {e : Env} {R : Room} {s : State} {m : MethodId} {args : Array Value} {below : List Frame} {meth : Method} {c : Code} {own : String} {cc : ByteArray} {nL : Nat} {rt : Option FieldType} {n0 : Nat} {Q : State → Prop} {pc : Nat} {L : List (Option aV)} {st : List aV} {n : Nat} {g : aG} {h : aH}
theorem ok_gets (a : Ac Γ p s m args meth c own cc nL rt) {idx : Nat} {host : String} (d : decode cc pc = .ok (.getstatic idx, 3)) (lk : Cond.fieldLinkNest own idx RX8 "FIRST_WEIGHTS" "[I" host ∈ lw_tbl) (kk : OK Γ p l e R s m args below meth c n0 Q (pc + 3) L (vR 1001 :: st) n g h) : OK Γ p l e R s m args below meth c n0 Q pc L st n g h := by
  intro H locs ls hH hS hL
  have k1 := kk H locs ls hH hS hL
  obtain ⟨q1, q2, q3, q4, q5⟩ := a.2.2.2.2.2.2.2
  exact va_getsN a.1 a.2.1 q3 hS a.2.2.2.2.2.1 (va_Nw.use (by rfl) (q2 _ lk rfl)) (fun _ h9 => h9) d k1
def cpF (h : aH) (kt : Nat) : aH := fun k i => if k = kt ∧ 0 ≤ i ∧ i < 4 then fwv i.toNat else h k i
theorem ok_copyF (a : Ac Γ p s m args meth c own cc nL rt) {idx kt : Nat} (d : decode cc pc = .ok (.invokestatic idx, 3)) (lk : LkC own idx) (hk2 : kt < n) (hc2 : kd kt = (10, 4)) (hfr : 1 ≤ R.frames) (hlo : (st.map catA).sum + (nativeFrameWords "java/lang/System" "arraycopy" 5 + 11) ≤ R.locals)
    (kk : OK Γ p l e R s m args below meth c n0 Q (pc + 3) L st n g (cpF h kt)) : OK Γ p l e R s m args below meth c n0 Q pc L (vI 4 :: vI 0 :: vR kt :: vI 0 :: vR 1001 :: st) n g h := by
  intro H locs ls hH hS hL T hT X
  obtain ⟨hn, hP⟩ := hH
  have he2 := aw_at (Γ := Γ) (g := g) (h := h) hk2
  rw [cw_arr (t := 0) hc2 (by decide)] at he2
  obtain ⟨q1, q2, q3, q4, q5⟩ := a.2.2.2.2.2.2.2
  obtain ⟨cell, t1, t2, t3, t4, t5, t6, t7⟩ := q4
  have hsrc : H[Γ.2.2.2.2]? = some cell := by rw [hS.2.1 _ (Array.getElem?_eq_some_iff.mp t1).1 t7]; exact t1
  have hc1 : H[Γ.2.2.1 + kt]? = some (vp_cell (Γ.2.1 0) (4, .inl (fun j : Nat => Int32.ofInt (h kt (j : Int))))) := hP kt _ he2
  obtain ⟨hst, ks, hks, comp, hkk⟩ := t2
  obtain ⟨-, k1, hk1, cm1, hkk1⟩ := (q1.2 0 _ rfl).1 4 (fun j => .int (Int32.ofInt (h kt (j : Int))))
  have hget : ∀ i, i < 4 → cell.slots.getD (0 + i) .null = .int (Int32.ofInt (fwv i)) := fun i hi => by
    rw [Nat.zero_add, Array.getD_eq_getD_getElem?, t6 i hi]
    rfl
  have c4 : (Int32.ofInt 4).toNatClampNeg = 4 := by decide
  have c0 : (Int32.ofInt 0).toNatClampNeg = 0 := by decide
  obtain ⟨vm', X', step⟩ := X.arraycopy a.1 a.2.2.2.2.2.1 (a.2.2.2.2.2.2.1 _ lk.1) (a.2.2.2.2.2.2.1 _ lk.2.1) (a.2.2.2.2.2.2.1 _ lk.2.2.1) (a.2.2.2.2.2.2.1 _ lk.2.2.2) (src := Γ.2.2.2.2) (dst := Γ.2.2.1 + kt) (cs := cell) (cd := vp_cell (Γ.2.1 0) (4, .inl (fun j : Nat => Int32.ofInt (h kt (j : Int))))) (srcPos := Int32.ofInt 0) (destPos := Int32.ofInt 0) (n := Int32.ofInt 4) (by rw [hT]; exact hsrc) (by rw [hT]; exact hc1)
    hst (fun _ h => by cases h) t3 (fun h => by cases h) hks hk1 hkk hkk1 (by rfl) (by decide) (by decide) (by decide)
    (by show ¬ ((0 : Int) + 4 > (cell.slots.size : Int)); omega)
    (by show ¬ ((0 : Int) + 4 > ((arrV (Γ.2.1 0) 4 (fun j : Nat => Value.int (Int32.ofInt (h kt (j : Int))))).slots.size : Int)); rw [arrV_size]; omega)
    (fun vm₁ _ i hi => by
      rw [c4] at hi
      rw [c0, hget i hi]
      exact ⟨rfl, trivial⟩)
    (g := F0 m pc ls ((vI 4 :: vI 0 :: vR kt :: vI 0 :: vR 1001 :: st).map (enc Γ))) rfl (by rw [hL.1]) (rest := st.map (enc Γ)) (by show (vI 4 :: vI 0 :: vR kt :: vI 0 :: vR 1001 :: st).map (enc Γ) = _; simp only [List.map_cons, enc_R (Γ := Γ) (show kt < 1000 by omega)]; rfl) (by rw [a.2.1]; exact d) hfr (by show 2 * 0 + _ + _ ≤ _; rw [cat_sum]; omega)
  have e1 : copied cell (vp_cell (Γ.2.1 0) (4, .inl (fun j : Nat => Int32.ofInt (h kt (j : Int))))) (Int32.ofInt 0) (Int32.ofInt 0) (Int32.ofInt 4) = vp_cell (Γ.2.1 0) (4, .inl (fun j : Nat => Int32.ofInt (cpF h kt kt (j : Int)))) := by
    have es : cell.stretch (Int32.ofInt 0).toNatClampNeg (Int32.ofInt 4).toNatClampNeg = (List.range 4).map (fun i => Value.int (Int32.ofInt (fwv i))) := by
      rw [c0, c4]
      unfold Cell.stretch
      apply List.map_congr_left
      intro i hi
      exact hget i (List.mem_range.mp hi)
    show (arrV (Γ.2.1 0) 4 (fun j : Nat => Value.int (Int32.ofInt (h kt (j : Int))))).storeRun (Int32.ofInt 0).toNatClampNeg (cell.stretch (Int32.ofInt 0).toNatClampNeg (Int32.ofInt 4).toNatClampNeg) = arrV (Γ.2.1 0) 4 (fun j : Nat => Value.int (Int32.ofInt (cpF h kt kt (j : Int))))
    rw [es, Cell.storeRun, va_pairs, c0]
    congr 1
    funext k
    simp only [List.length_map, List.length_range, Nat.add_zero, Nat.zero_add, Nat.zero_le, true_and]
    by_cases hk : k < 4
    · rw [if_pos hk, List.getD_eq_getElem?_getD, List.getElem?_map, List.getElem?_range (by omega)]
      have : kt = kt ∧ 0 ≤ (k : Int) ∧ (k : Int) < 4 := ⟨rfl, by omega, by omega⟩
      show Value.int (Int32.ofInt (fwv (k - 0))) = Value.int (Int32.ofInt (if kt = kt ∧ 0 ≤ (k : Int) ∧ (k : Int) < 4 then fwv (k : Int).toNat else h kt (k : Int)))
      rw [if_pos this, Nat.sub_zero]
      rfl
    · rw [if_neg hk]
      have : ¬ (kt = kt ∧ 0 ≤ (k : Int) ∧ (k : Int) < 4) := fun q => hk (by omega)
      show Value.int (Int32.ofInt (h kt (k : Int))) = Value.int (Int32.ofInt (if kt = kt ∧ 0 ≤ (k : Int) ∧ (k : Int) < 4 then fwv (k : Int).toNat else h kt (k : Int)))
      rw [if_neg this]
  rw [e1] at X' step
  have hl : Γ.2.2.1 + kt < H.size := (Array.getElem?_eq_some_iff.mp hc1).1
  have hset : (aw Γ n g h).set kt (Γ.2.2.1 + kt, .inl (Γ.2.1 0, 4, .inl (fun j : Nat => Int32.ofInt (cpF h kt kt (j : Int))))) = aw Γ n g (cpF h kt) := by
    refine aw_set hk2 ?_ ?_
    · rw [cw_arr (t := 0) hc2 (by decide)]
    · intro k' hk'
      have e : ∀ j, cpF h kt k' j = h k' j := fun j => by simp [cpF, hk']
      unfold cw
      simp only [e]
  have oq : ∀ q : Nat, q ≠ Γ.2.2.1 + kt → (H.setIfInBounds (Γ.2.2.1 + kt) (vp_cell (Γ.2.1 0) (4, .inl (fun j : Nat => Int32.ofInt (cpF h kt kt (j : Int))))))[q]? = H[q]? := fun q hq => by simp [Array.getElem?_setIfInBounds, Ne.symm hq]
  have hAk : AA Γ (Γ.2.2.1 + kt) := by show Γ.2.2.1 ≤ Γ.2.2.1 + kt; omega
  obtain ⟨t, a1, b1⟩ := kk (H.setIfInBounds (Γ.2.2.1 + kt) (vp_cell (Γ.2.1 0) (4, .inl (fun j : Nat => Int32.ofInt (cpF h kt kt (j : Int)))))) _ ls ⟨hn, by rw [← hset]; exact hP.set aw_D he2 (show (H.setIfInBounds (Γ.2.2.1 + kt) _)[Γ.2.2.1 + kt]? = some _ by simp [Array.getElem?_setIfInBounds, hl]) oq⟩ ⟨by simp; exact hS.1, fun q g1 g2 => by
      rw [oq q (fun e => g2 (by rw [e]; exact hAk))]
      exact hS.2.1 q g1 g2, fun q hq => by
      rcases List.mem_append.mp hq with h | h
      · exact hS.2.2 q h
      · obtain ⟨z, -, hz⟩ := List.mem_map.mp h
        rw [← hz]
        exact hAk⟩ hL _ (by rw [← hT]; rfl) X'
  exact ⟨t, step t a1, b1⟩
end FIRSTW
end
section
theorem dX0_init_0 : decode cX0_init 0 = .ok (.aload_n 0, 1) := by decide +kernel
theorem dX0_init_1 : decode cX0_init 1 = .ok (.invokespecial 3, 3) := by decide +kernel
theorem dX0_init_4 : decode cX0_init 4 = .ok (.aload_n 0, 1) := by decide +kernel
theorem dX0_init_5 : decode cX0_init 5 = .ok (.bipush 32, 2) := by decide +kernel
theorem dX0_init_7 : decode cX0_init 7 = .ok (.newarray .int, 2) := by decide +kernel
theorem dX0_init_9 : decode cX0_init 9 = .ok (.putfield 11, 3) := by decide +kernel
theorem dX0_init_12 : decode cX0_init 12 = .ok (.aload_n 0, 1) := by decide +kernel
theorem dX0_init_13 : decode cX0_init 13 = .ok (.sipush 301, 3) := by decide +kernel
theorem dX0_init_16 : decode cX0_init 16 = .ok (.newarray .int, 2) := by decide +kernel
theorem dX0_init_18 : decode cX0_init 18 = .ok (.putfield 15, 3) := by decide +kernel
theorem dX0_init_21 : decode cX0_init 21 = .ok (.return_, 1) := by decide +kernel
theorem dX0_layOut_0 : decode cX0_layOut 0 = .ok (.iconst 1, 1) := by decide +kernel
theorem dX0_layOut_1 : decode cX0_layOut 1 = .ok (.aload_n 1, 1) := by decide +kernel
theorem dX0_layOut_2 : decode cX0_layOut 2 = .ok (.getfield 18, 3) := by decide +kernel
theorem dX0_layOut_5 : decode cX0_layOut 5 = .ok (.ishl, 1) := by decide +kernel
theorem dX0_layOut_6 : decode cX0_layOut 6 = .ok (.istore_n 2, 1) := by decide +kernel
theorem dX0_layOut_7 : decode cX0_layOut 7 = .ok (.iconst 0, 1) := by decide +kernel
theorem dX0_layOut_8 : decode cX0_layOut 8 = .ok (.istore_n 3, 1) := by decide +kernel
theorem dX0_layOut_9 : decode cX0_layOut 9 = .ok (.iload_n 3, 1) := by decide +kernel
theorem dX0_layOut_10 : decode cX0_layOut 10 = .ok (.iload_n 2, 1) := by decide +kernel
theorem dX0_layOut_11 : decode cX0_layOut 11 = .ok (.if_icmp .ge 20, 3) := by decide +kernel
theorem dX0_layOut_14 : decode cX0_layOut 14 = .ok (.aload_n 0, 1) := by decide +kernel
theorem dX0_layOut_15 : decode cX0_layOut 15 = .ok (.getfield 11, 3) := by decide +kernel
theorem dX0_layOut_18 : decode cX0_layOut 18 = .ok (.iload_n 3, 1) := by decide +kernel
theorem dX0_layOut_19 : decode cX0_layOut 19 = .ok (.iload_n 3, 1) := by decide +kernel
theorem dX0_layOut_20 : decode cX0_layOut 20 = .ok (.aload_n 1, 1) := by decide +kernel
theorem dX0_layOut_21 : decode cX0_layOut 21 = .ok (.invokestatic 24, 3) := by decide +kernel
theorem dX0_layOut_24 : decode cX0_layOut 24 = .ok (.iastore, 1) := by decide +kernel
theorem dX0_layOut_25 : decode cX0_layOut 25 = .ok (.iinc 3 1, 3) := by decide +kernel
theorem dX0_layOut_28 : decode cX0_layOut 28 = .ok (.goto (-19), 3) := by decide +kernel
theorem dX0_layOut_31 : decode cX0_layOut 31 = .ok (.aload_n 0, 1) := by decide +kernel
theorem dX0_layOut_32 : decode cX0_layOut 32 = .ok (.getfield 15, 3) := by decide +kernel
theorem dX0_layOut_35 : decode cX0_layOut 35 = .ok (.bipush (-9), 2) := by decide +kernel
theorem dX0_layOut_37 : decode cX0_layOut 37 = .ok (.invokestatic 28, 3) := by decide +kernel
theorem dX0_layOut_40 : decode cX0_layOut 40 = .ok (.iconst 0, 1) := by decide +kernel
theorem dX0_layOut_41 : decode cX0_layOut 41 = .ok (.istore_n 3, 1) := by decide +kernel
theorem dX0_layOut_42 : decode cX0_layOut 42 = .ok (.iload_n 3, 1) := by decide +kernel
theorem dX0_layOut_43 : decode cX0_layOut 43 = .ok (.iload_n 2, 1) := by decide +kernel
theorem dX0_layOut_44 : decode cX0_layOut 44 = .ok (.if_icmp .ge 38, 3) := by decide +kernel
theorem dX0_layOut_47 : decode cX0_layOut 47 = .ok (.iconst 0, 1) := by decide +kernel
theorem dX0_layOut_48 : decode cX0_layOut 48 = .ok (.istore 4, 2) := by decide +kernel
theorem dX0_layOut_50 : decode cX0_layOut 50 = .ok (.iload 4, 2) := by decide +kernel
theorem dX0_layOut_52 : decode cX0_layOut 52 = .ok (.iload_n 2, 1) := by decide +kernel
theorem dX0_layOut_53 : decode cX0_layOut 53 = .ok (.if_icmp .ge 23, 3) := by decide +kernel
theorem dX0_layOut_56 : decode cX0_layOut 56 = .ok (.iload_n 3, 1) := by decide +kernel
theorem dX0_layOut_57 : decode cX0_layOut 57 = .ok (.iload 4, 2) := by decide +kernel
theorem dX0_layOut_59 : decode cX0_layOut 59 = .ok (.iand, 1) := by decide +kernel
theorem dX0_layOut_60 : decode cX0_layOut 60 = .ok (.ifCond .ne 10, 3) := by decide +kernel
theorem dX0_layOut_63 : decode cX0_layOut 63 = .ok (.aload_n 0, 1) := by decide +kernel
theorem dX0_layOut_64 : decode cX0_layOut 64 = .ok (.iload_n 3, 1) := by decide +kernel
theorem dX0_layOut_65 : decode cX0_layOut 65 = .ok (.iload 4, 2) := by decide +kernel
theorem dX0_layOut_67 : decode cX0_layOut 67 = .ok (.invokevirtual 34, 3) := by decide +kernel
theorem dX0_layOut_70 : decode cX0_layOut 70 = .ok (.iinc 4 1, 3) := by decide +kernel
theorem dX0_layOut_73 : decode cX0_layOut 73 = .ok (.goto (-23), 3) := by decide +kernel
theorem dX0_layOut_76 : decode cX0_layOut 76 = .ok (.iinc 3 1, 3) := by decide +kernel
theorem dX0_layOut_79 : decode cX0_layOut 79 = .ok (.goto (-37), 3) := by decide +kernel
theorem dX0_layOut_82 : decode cX0_layOut 82 = .ok (.return_, 1) := by decide +kernel
theorem dX0_canWeigh_0 : decode cX0_canWeigh 0 = .ok (.aload_n 0, 1) := by decide +kernel
theorem dX0_canWeigh_1 : decode cX0_canWeigh 1 = .ok (.getfield 15, 3) := by decide +kernel
theorem dX0_canWeigh_4 : decode cX0_canWeigh 4 = .ok (.iload_n 1, 1) := by decide +kernel
theorem dX0_canWeigh_5 : decode cX0_canWeigh 5 = .ok (.iaload, 1) := by decide +kernel
theorem dX0_canWeigh_6 : decode cX0_canWeigh 6 = .ok (.bipush (-9), 2) := by decide +kernel
theorem dX0_canWeigh_8 : decode cX0_canWeigh 8 = .ok (.if_icmp .eq 7, 3) := by decide +kernel
theorem dX0_canWeigh_11 : decode cX0_canWeigh 11 = .ok (.iconst 1, 1) := by decide +kernel
theorem dX0_canWeigh_12 : decode cX0_canWeigh 12 = .ok (.goto 4, 3) := by decide +kernel
theorem dX0_canWeigh_15 : decode cX0_canWeigh 15 = .ok (.iconst 0, 1) := by decide +kernel
theorem dX0_canWeigh_16 : decode cX0_canWeigh 16 = .ok (.ireturn, 1) := by decide +kernel
theorem dX0_fewestPieces_0 : decode cX0_fewestPieces 0 = .ok (.aload_n 0, 1) := by decide +kernel
theorem dX0_fewestPieces_1 : decode cX0_fewestPieces 1 = .ok (.getfield 15, 3) := by decide +kernel
theorem dX0_fewestPieces_4 : decode cX0_fewestPieces 4 = .ok (.iload_n 1, 1) := by decide +kernel
theorem dX0_fewestPieces_5 : decode cX0_fewestPieces 5 = .ok (.iaload, 1) := by decide +kernel
theorem dX0_fewestPieces_6 : decode cX0_fewestPieces 6 = .ok (.invokestatic 38, 3) := by decide +kernel
theorem dX0_fewestPieces_9 : decode cX0_fewestPieces 9 = .ok (.ireturn, 1) := by decide +kernel
theorem dX0_heavierPan_0 : decode cX0_heavierPan 0 = .ok (.aload_n 0, 1) := by decide +kernel
theorem dX0_heavierPan_1 : decode cX0_heavierPan 1 = .ok (.getfield 15, 3) := by decide +kernel
theorem dX0_heavierPan_4 : decode cX0_heavierPan 4 = .ok (.iload_n 1, 1) := by decide +kernel
theorem dX0_heavierPan_5 : decode cX0_heavierPan 5 = .ok (.iaload, 1) := by decide +kernel
theorem dX0_heavierPan_6 : decode cX0_heavierPan 6 = .ok (.iconst 5, 1) := by decide +kernel
theorem dX0_heavierPan_7 : decode cX0_heavierPan 7 = .ok (.ishr, 1) := by decide +kernel
theorem dX0_heavierPan_8 : decode cX0_heavierPan 8 = .ok (.ireturn, 1) := by decide +kernel
theorem dX0_otherPan_0 : decode cX0_otherPan 0 = .ok (.aload_n 0, 1) := by decide +kernel
theorem dX0_otherPan_1 : decode cX0_otherPan 1 = .ok (.getfield 15, 3) := by decide +kernel
theorem dX0_otherPan_4 : decode cX0_otherPan 4 = .ok (.iload_n 1, 1) := by decide +kernel
theorem dX0_otherPan_5 : decode cX0_otherPan 5 = .ok (.iaload, 1) := by decide +kernel
theorem dX0_otherPan_6 : decode cX0_otherPan 6 = .ok (.bipush 31, 2) := by decide +kernel
theorem dX0_otherPan_8 : decode cX0_otherPan 8 = .ok (.iand, 1) := by decide +kernel
theorem dX0_otherPan_9 : decode cX0_otherPan 9 = .ok (.ireturn, 1) := by decide +kernel
theorem dX0_range_0 : decode cX0_range 0 = .ok (.iconst 0, 1) := by decide +kernel
theorem dX0_range_1 : decode cX0_range 1 = .ok (.istore_n 1, 1) := by decide +kernel
theorem dX0_range_2 : decode cX0_range 2 = .ok (.iload_n 1, 1) := by decide +kernel
theorem dX0_range_3 : decode cX0_range 3 = .ok (.sipush 300, 3) := by decide +kernel
theorem dX0_range_6 : decode cX0_range 6 = .ok (.if_icmp .ge 19, 3) := by decide +kernel
theorem dX0_range_9 : decode cX0_range 9 = .ok (.aload_n 0, 1) := by decide +kernel
theorem dX0_range_10 : decode cX0_range 10 = .ok (.iload_n 1, 1) := by decide +kernel
theorem dX0_range_11 : decode cX0_range 11 = .ok (.iconst 1, 1) := by decide +kernel
theorem dX0_range_12 : decode cX0_range 12 = .ok (.iadd, 1) := by decide +kernel
theorem dX0_range_13 : decode cX0_range 13 = .ok (.invokevirtual 44, 3) := by decide +kernel
theorem dX0_range_16 : decode cX0_range 16 = .ok (.ifCond .eq 9, 3) := by decide +kernel
theorem dX0_range_19 : decode cX0_range 19 = .ok (.iinc 1 1, 3) := by decide +kernel
theorem dX0_range_22 : decode cX0_range 22 = .ok (.goto (-20), 3) := by decide +kernel
theorem dX0_range_25 : decode cX0_range 25 = .ok (.iload_n 1, 1) := by decide +kernel
theorem dX0_range_26 : decode cX0_range 26 = .ok (.ireturn, 1) := by decide +kernel
theorem dX0_offer_0 : decode cX0_offer 0 = .ok (.aload_n 0, 1) := by decide +kernel
theorem dX0_offer_1 : decode cX0_offer 1 = .ok (.getfield 11, 3) := by decide +kernel
theorem dX0_offer_4 : decode cX0_offer 4 = .ok (.iload_n 1, 1) := by decide +kernel
theorem dX0_offer_5 : decode cX0_offer 5 = .ok (.iaload, 1) := by decide +kernel
theorem dX0_offer_6 : decode cX0_offer 6 = .ok (.aload_n 0, 1) := by decide +kernel
theorem dX0_offer_7 : decode cX0_offer 7 = .ok (.getfield 11, 3) := by decide +kernel
theorem dX0_offer_10 : decode cX0_offer 10 = .ok (.iload_n 2, 1) := by decide +kernel
theorem dX0_offer_11 : decode cX0_offer 11 = .ok (.iaload, 1) := by decide +kernel
theorem dX0_offer_12 : decode cX0_offer 12 = .ok (.isub, 1) := by decide +kernel
theorem dX0_offer_13 : decode cX0_offer 13 = .ok (.istore_n 3, 1) := by decide +kernel
theorem dX0_offer_14 : decode cX0_offer 14 = .ok (.iload_n 3, 1) := by decide +kernel
theorem dX0_offer_15 : decode cX0_offer 15 = .ok (.iconst 0, 1) := by decide +kernel
theorem dX0_offer_16 : decode cX0_offer 16 = .ok (.sipush 300, 3) := by decide +kernel
theorem dX0_offer_19 : decode cX0_offer 19 = .ok (.invokestatic 48, 3) := by decide +kernel
theorem dX0_offer_22 : decode cX0_offer 22 = .ok (.ifCond .ne 4, 3) := by decide +kernel
theorem dX0_offer_25 : decode cX0_offer 25 = .ok (.return_, 1) := by decide +kernel
theorem dX0_offer_26 : decode cX0_offer 26 = .ok (.iload_n 1, 1) := by decide +kernel
theorem dX0_offer_27 : decode cX0_offer 27 = .ok (.iconst 5, 1) := by decide +kernel
theorem dX0_offer_28 : decode cX0_offer 28 = .ok (.ishl, 1) := by decide +kernel
theorem dX0_offer_29 : decode cX0_offer 29 = .ok (.iload_n 2, 1) := by decide +kernel
theorem dX0_offer_30 : decode cX0_offer 30 = .ok (.ior, 1) := by decide +kernel
theorem dX0_offer_31 : decode cX0_offer 31 = .ok (.istore 4, 2) := by decide +kernel
theorem dX0_offer_33 : decode cX0_offer 33 = .ok (.aload_n 0, 1) := by decide +kernel
theorem dX0_offer_34 : decode cX0_offer 34 = .ok (.iload_n 3, 1) := by decide +kernel
theorem dX0_offer_35 : decode cX0_offer 35 = .ok (.invokevirtual 44, 3) := by decide +kernel
theorem dX0_offer_38 : decode cX0_offer 38 = .ok (.ifCond .eq 16, 3) := by decide +kernel
theorem dX0_offer_41 : decode cX0_offer 41 = .ok (.iload 4, 2) := by decide +kernel
theorem dX0_offer_43 : decode cX0_offer 43 = .ok (.invokestatic 38, 3) := by decide +kernel
theorem dX0_offer_46 : decode cX0_offer 46 = .ok (.aload_n 0, 1) := by decide +kernel
theorem dX0_offer_47 : decode cX0_offer 47 = .ok (.iload_n 3, 1) := by decide +kernel
theorem dX0_offer_48 : decode cX0_offer 48 = .ok (.invokevirtual 52, 3) := by decide +kernel
theorem dX0_offer_51 : decode cX0_offer 51 = .ok (.if_icmp .ge 11, 3) := by decide +kernel
theorem dX0_offer_54 : decode cX0_offer 54 = .ok (.aload_n 0, 1) := by decide +kernel
theorem dX0_offer_55 : decode cX0_offer 55 = .ok (.getfield 15, 3) := by decide +kernel
theorem dX0_offer_58 : decode cX0_offer 58 = .ok (.iload_n 3, 1) := by decide +kernel
theorem dX0_offer_59 : decode cX0_offer 59 = .ok (.iload 4, 2) := by decide +kernel
theorem dX0_offer_61 : decode cX0_offer 61 = .ok (.iastore, 1) := by decide +kernel
theorem dX0_offer_62 : decode cX0_offer 62 = .ok (.return_, 1) := by decide +kernel
theorem dX0_weigh_0 : decode cX0_weigh 0 = .ok (.iconst 0, 1) := by decide +kernel
theorem dX0_weigh_1 : decode cX0_weigh 1 = .ok (.istore_n 2, 1) := by decide +kernel
theorem dX0_weigh_2 : decode cX0_weigh 2 = .ok (.iconst 0, 1) := by decide +kernel
theorem dX0_weigh_3 : decode cX0_weigh 3 = .ok (.istore_n 3, 1) := by decide +kernel
theorem dX0_weigh_4 : decode cX0_weigh 4 = .ok (.iload_n 3, 1) := by decide +kernel
theorem dX0_weigh_5 : decode cX0_weigh 5 = .ok (.aload_n 1, 1) := by decide +kernel
theorem dX0_weigh_6 : decode cX0_weigh 6 = .ok (.getfield 18, 3) := by decide +kernel
theorem dX0_weigh_9 : decode cX0_weigh 9 = .ok (.if_icmp .ge 27, 3) := by decide +kernel
theorem dX0_weigh_12 : decode cX0_weigh 12 = .ok (.iload_n 0, 1) := by decide +kernel
theorem dX0_weigh_13 : decode cX0_weigh 13 = .ok (.iload_n 3, 1) := by decide +kernel
theorem dX0_weigh_14 : decode cX0_weigh 14 = .ok (.ishr, 1) := by decide +kernel
theorem dX0_weigh_15 : decode cX0_weigh 15 = .ok (.iconst 1, 1) := by decide +kernel
theorem dX0_weigh_16 : decode cX0_weigh 16 = .ok (.iand, 1) := by decide +kernel
theorem dX0_weigh_17 : decode cX0_weigh 17 = .ok (.iconst 1, 1) := by decide +kernel
theorem dX0_weigh_18 : decode cX0_weigh 18 = .ok (.if_icmp .ne 12, 3) := by decide +kernel
theorem dX0_weigh_21 : decode cX0_weigh 21 = .ok (.iload_n 2, 1) := by decide +kernel
theorem dX0_weigh_22 : decode cX0_weigh 22 = .ok (.aload_n 1, 1) := by decide +kernel
theorem dX0_weigh_23 : decode cX0_weigh 23 = .ok (.getfield 55, 3) := by decide +kernel
theorem dX0_weigh_26 : decode cX0_weigh 26 = .ok (.iload_n 3, 1) := by decide +kernel
theorem dX0_weigh_27 : decode cX0_weigh 27 = .ok (.iaload, 1) := by decide +kernel
theorem dX0_weigh_28 : decode cX0_weigh 28 = .ok (.iadd, 1) := by decide +kernel
theorem dX0_weigh_29 : decode cX0_weigh 29 = .ok (.istore_n 2, 1) := by decide +kernel
theorem dX0_weigh_30 : decode cX0_weigh 30 = .ok (.iinc 3 1, 3) := by decide +kernel
theorem dX0_weigh_33 : decode cX0_weigh 33 = .ok (.goto (-29), 3) := by decide +kernel
theorem dX0_weigh_36 : decode cX0_weigh 36 = .ok (.iload_n 2, 1) := by decide +kernel
theorem dX0_weigh_37 : decode cX0_weigh 37 = .ok (.ireturn, 1) := by decide +kernel
theorem dX1_init_0 : decode cX1_init 0 = .ok (.aload_n 0, 1) := by decide +kernel
theorem dX1_init_1 : decode cX1_init 1 = .ok (.invokespecial 5, 3) := by decide +kernel
theorem dX1_init_4 : decode cX1_init 4 = .ok (.aload_n 0, 1) := by decide +kernel
theorem dX1_init_5 : decode cX1_init 5 = .ok (.bipush 6, 2) := by decide +kernel
theorem dX1_init_7 : decode cX1_init 7 = .ok (.newarray .int, 2) := by decide +kernel
theorem dX1_init_9 : decode cX1_init 9 = .ok (.putfield 11, 3) := by decide +kernel
theorem dX1_init_12 : decode cX1_init 12 = .ok (.aload_n 0, 1) := by decide +kernel
theorem dX1_init_13 : decode cX1_init 13 = .ok (.bipush 6, 2) := by decide +kernel
theorem dX1_init_15 : decode cX1_init 15 = .ok (.newarray .int, 2) := by decide +kernel
theorem dX1_init_17 : decode cX1_init 17 = .ok (.putfield 15, 3) := by decide +kernel
theorem dX1_init_20 : decode cX1_init 20 = .ok (.aload_n 0, 1) := by decide +kernel
theorem dX1_init_21 : decode cX1_init 21 = .ok (.bipush 6, 2) := by decide +kernel
theorem dX1_init_23 : decode cX1_init 23 = .ok (.newarray .int, 2) := by decide +kernel
theorem dX1_init_25 : decode cX1_init 25 = .ok (.putfield 18, 3) := by decide +kernel
theorem dX1_init_28 : decode cX1_init 28 = .ok (.aload_n 0, 1) := by decide +kernel
theorem dX1_init_29 : decode cX1_init 29 = .ok (.bipush 6, 2) := by decide +kernel
theorem dX1_init_31 : decode cX1_init 31 = .ok (.newarray .int, 2) := by decide +kernel
theorem dX1_init_33 : decode cX1_init 33 = .ok (.putfield 21, 3) := by decide +kernel
theorem dX1_init_36 : decode cX1_init 36 = .ok (.aload_n 0, 1) := by decide +kernel
theorem dX1_init_37 : decode cX1_init 37 = .ok (.bipush 6, 2) := by decide +kernel
theorem dX1_init_39 : decode cX1_init 39 = .ok (.newarray .int, 2) := by decide +kernel
theorem dX1_init_41 : decode cX1_init 41 = .ok (.putfield 24, 3) := by decide +kernel
theorem dX1_init_44 : decode cX1_init 44 = .ok (.aload_n 0, 1) := by decide +kernel
theorem dX1_init_45 : decode cX1_init 45 = .ok (.sipush 721, 3) := by decide +kernel
theorem dX1_init_48 : decode cX1_init 48 = .ok (.newarray .int, 2) := by decide +kernel
theorem dX1_init_50 : decode cX1_init 50 = .ok (.putfield 27, 3) := by decide +kernel
theorem dX1_init_53 : decode cX1_init 53 = .ok (.return_, 1) := by decide +kernel
theorem dX1_begin_0 : decode cX1_begin 0 = .ok (.aload_n 0, 1) := by decide +kernel
theorem dX1_begin_1 : decode cX1_begin 1 = .ok (.invokevirtual 30, 3) := by decide +kernel
theorem dX1_begin_4 : decode cX1_begin 4 = .ok (.aload_n 0, 1) := by decide +kernel
theorem dX1_begin_5 : decode cX1_begin 5 = .ok (.iconst 0, 1) := by decide +kernel
theorem dX1_begin_6 : decode cX1_begin 6 = .ok (.putfield 33, 3) := by decide +kernel
theorem dX1_begin_9 : decode cX1_begin 9 = .ok (.return_, 1) := by decide +kernel
theorem dX1_addShown_0 : decode cX1_addShown 0 = .ok (.aload_n 0, 1) := by decide +kernel
theorem dX1_addShown_1 : decode cX1_addShown 1 = .ok (.getfield 37, 3) := by decide +kernel
theorem dX1_addShown_4 : decode cX1_addShown 4 = .ok (.bipush 6, 2) := by decide +kernel
theorem dX1_addShown_6 : decode cX1_addShown 6 = .ok (.if_icmp .lt 5, 3) := by decide +kernel
theorem dX1_addShown_9 : decode cX1_addShown 9 = .ok (.iconst 0, 1) := by decide +kernel
theorem dX1_addShown_10 : decode cX1_addShown 10 = .ok (.ireturn, 1) := by decide +kernel
theorem dX1_addShown_11 : decode cX1_addShown 11 = .ok (.aload_n 0, 1) := by decide +kernel
theorem dX1_addShown_12 : decode cX1_addShown 12 = .ok (.getfield 11, 3) := by decide +kernel
theorem dX1_addShown_15 : decode cX1_addShown 15 = .ok (.aload_n 0, 1) := by decide +kernel
theorem dX1_addShown_16 : decode cX1_addShown 16 = .ok (.getfield 37, 3) := by decide +kernel
theorem dX1_addShown_19 : decode cX1_addShown 19 = .ok (.iload_n 1, 1) := by decide +kernel
theorem dX1_addShown_20 : decode cX1_addShown 20 = .ok (.iastore, 1) := by decide +kernel
theorem dX1_addShown_21 : decode cX1_addShown 21 = .ok (.aload_n 0, 1) := by decide +kernel
theorem dX1_addShown_22 : decode cX1_addShown 22 = .ok (.getfield 15, 3) := by decide +kernel
theorem dX1_addShown_25 : decode cX1_addShown 25 = .ok (.aload_n 0, 1) := by decide +kernel
theorem dX1_addShown_26 : decode cX1_addShown 26 = .ok (.getfield 37, 3) := by decide +kernel
theorem dX1_addShown_29 : decode cX1_addShown 29 = .ok (.iload_n 2, 1) := by decide +kernel
theorem dX1_addShown_30 : decode cX1_addShown 30 = .ok (.iastore, 1) := by decide +kernel
theorem dX1_addShown_31 : decode cX1_addShown 31 = .ok (.aload_n 0, 1) := by decide +kernel
theorem dX1_addShown_32 : decode cX1_addShown 32 = .ok (.getfield 18, 3) := by decide +kernel
theorem dX1_addShown_35 : decode cX1_addShown 35 = .ok (.aload_n 0, 1) := by decide +kernel
theorem dX1_addShown_36 : decode cX1_addShown 36 = .ok (.getfield 37, 3) := by decide +kernel
theorem dX1_addShown_39 : decode cX1_addShown 39 = .ok (.iload_n 3, 1) := by decide +kernel
theorem dX1_addShown_40 : decode cX1_addShown 40 = .ok (.iastore, 1) := by decide +kernel
theorem dX1_addShown_41 : decode cX1_addShown 41 = .ok (.aload_n 0, 1) := by decide +kernel
theorem dX1_addShown_42 : decode cX1_addShown 42 = .ok (.dup, 1) := by decide +kernel
theorem dX1_addShown_43 : decode cX1_addShown 43 = .ok (.getfield 37, 3) := by decide +kernel
theorem dX1_addShown_46 : decode cX1_addShown 46 = .ok (.iconst 1, 1) := by decide +kernel
theorem dX1_addShown_47 : decode cX1_addShown 47 = .ok (.iadd, 1) := by decide +kernel
theorem dX1_addShown_48 : decode cX1_addShown 48 = .ok (.putfield 37, 3) := by decide +kernel
theorem dX1_addShown_51 : decode cX1_addShown 51 = .ok (.iconst 1, 1) := by decide +kernel
theorem dX1_addShown_52 : decode cX1_addShown 52 = .ok (.ireturn, 1) := by decide +kernel
theorem dX1_addSeen_0 : decode cX1_addSeen 0 = .ok (.aload_n 0, 1) := by decide +kernel
theorem dX1_addSeen_1 : decode cX1_addSeen 1 = .ok (.getfield 41, 3) := by decide +kernel
theorem dX1_addSeen_4 : decode cX1_addSeen 4 = .ok (.bipush 6, 2) := by decide +kernel
theorem dX1_addSeen_6 : decode cX1_addSeen 6 = .ok (.if_icmp .lt 5, 3) := by decide +kernel
theorem dX1_addSeen_9 : decode cX1_addSeen 9 = .ok (.iconst 0, 1) := by decide +kernel
theorem dX1_addSeen_10 : decode cX1_addSeen 10 = .ok (.ireturn, 1) := by decide +kernel
theorem dX1_addSeen_11 : decode cX1_addSeen 11 = .ok (.aload_n 0, 1) := by decide +kernel
theorem dX1_addSeen_12 : decode cX1_addSeen 12 = .ok (.getfield 21, 3) := by decide +kernel
theorem dX1_addSeen_15 : decode cX1_addSeen 15 = .ok (.aload_n 0, 1) := by decide +kernel
theorem dX1_addSeen_16 : decode cX1_addSeen 16 = .ok (.getfield 41, 3) := by decide +kernel
theorem dX1_addSeen_19 : decode cX1_addSeen 19 = .ok (.iload_n 1, 1) := by decide +kernel
theorem dX1_addSeen_20 : decode cX1_addSeen 20 = .ok (.iastore, 1) := by decide +kernel
theorem dX1_addSeen_21 : decode cX1_addSeen 21 = .ok (.aload_n 0, 1) := by decide +kernel
theorem dX1_addSeen_22 : decode cX1_addSeen 22 = .ok (.getfield 24, 3) := by decide +kernel
theorem dX1_addSeen_25 : decode cX1_addSeen 25 = .ok (.aload_n 0, 1) := by decide +kernel
theorem dX1_addSeen_26 : decode cX1_addSeen 26 = .ok (.getfield 41, 3) := by decide +kernel
theorem dX1_addSeen_29 : decode cX1_addSeen 29 = .ok (.iload_n 2, 1) := by decide +kernel
theorem dX1_addSeen_30 : decode cX1_addSeen 30 = .ok (.iastore, 1) := by decide +kernel
theorem dX1_addSeen_31 : decode cX1_addSeen 31 = .ok (.aload_n 0, 1) := by decide +kernel
theorem dX1_addSeen_32 : decode cX1_addSeen 32 = .ok (.dup, 1) := by decide +kernel
theorem dX1_addSeen_33 : decode cX1_addSeen 33 = .ok (.getfield 41, 3) := by decide +kernel
theorem dX1_addSeen_36 : decode cX1_addSeen 36 = .ok (.iconst 1, 1) := by decide +kernel
theorem dX1_addSeen_37 : decode cX1_addSeen 37 = .ok (.iadd, 1) := by decide +kernel
theorem dX1_addSeen_38 : decode cX1_addSeen 38 = .ok (.putfield 41, 3) := by decide +kernel
theorem dX1_addSeen_41 : decode cX1_addSeen 41 = .ok (.iconst 1, 1) := by decide +kernel
theorem dX1_addSeen_42 : decode cX1_addSeen 42 = .ok (.ireturn, 1) := by decide +kernel
theorem dX1_dropRecords_0 : decode cX1_dropRecords 0 = .ok (.aload_n 0, 1) := by decide +kernel
theorem dX1_dropRecords_1 : decode cX1_dropRecords 1 = .ok (.iconst 0, 1) := by decide +kernel
theorem dX1_dropRecords_2 : decode cX1_dropRecords 2 = .ok (.putfield 37, 3) := by decide +kernel
theorem dX1_dropRecords_5 : decode cX1_dropRecords 5 = .ok (.aload_n 0, 1) := by decide +kernel
theorem dX1_dropRecords_6 : decode cX1_dropRecords 6 = .ok (.iconst 0, 1) := by decide +kernel
theorem dX1_dropRecords_7 : decode cX1_dropRecords 7 = .ok (.putfield 41, 3) := by decide +kernel
theorem dX1_dropRecords_10 : decode cX1_dropRecords 10 = .ok (.return_, 1) := by decide +kernel
theorem dX1_prepareWays_0 : decode cX1_prepareWays 0 = .ok (.aload_n 0, 1) := by decide +kernel
theorem dX1_prepareWays_1 : decode cX1_prepareWays 1 = .ok (.getfield 33, 3) := by decide +kernel
theorem dX1_prepareWays_4 : decode cX1_prepareWays 4 = .ok (.ifCond .eq 4, 3) := by decide +kernel
theorem dX1_prepareWays_7 : decode cX1_prepareWays 7 = .ok (.return_, 1) := by decide +kernel
theorem dX1_prepareWays_8 : decode cX1_prepareWays 8 = .ok (.aload_n 0, 1) := by decide +kernel
theorem dX1_prepareWays_9 : decode cX1_prepareWays 9 = .ok (.iconst 1, 1) := by decide +kernel
theorem dX1_prepareWays_10 : decode cX1_prepareWays 10 = .ok (.putfield 33, 3) := by decide +kernel
theorem dX1_prepareWays_13 : decode cX1_prepareWays 13 = .ok (.aload_n 0, 1) := by decide +kernel
theorem dX1_prepareWays_14 : decode cX1_prepareWays 14 = .ok (.getfield 27, 3) := by decide +kernel
theorem dX1_prepareWays_17 : decode cX1_prepareWays 17 = .ok (.iconst 0, 1) := by decide +kernel
theorem dX1_prepareWays_18 : decode cX1_prepareWays 18 = .ok (.invokestatic 44, 3) := by decide +kernel
theorem dX1_prepareWays_21 : decode cX1_prepareWays 21 = .ok (.iconst 0, 1) := by decide +kernel
theorem dX1_prepareWays_22 : decode cX1_prepareWays 22 = .ok (.istore_n 2, 1) := by decide +kernel
theorem dX1_prepareWays_23 : decode cX1_prepareWays 23 = .ok (.iload_n 2, 1) := by decide +kernel
theorem dX1_prepareWays_24 : decode cX1_prepareWays 24 = .ok (.bipush 9, 2) := by decide +kernel
theorem dX1_prepareWays_26 : decode cX1_prepareWays 26 = .ok (.if_icmp .gt 93, 3) := by decide +kernel
theorem dX1_prepareWays_29 : decode cX1_prepareWays 29 = .ok (.iconst 0, 1) := by decide +kernel
theorem dX1_prepareWays_30 : decode cX1_prepareWays 30 = .ok (.istore_n 3, 1) := by decide +kernel
theorem dX1_prepareWays_31 : decode cX1_prepareWays 31 = .ok (.iload_n 3, 1) := by decide +kernel
theorem dX1_prepareWays_32 : decode cX1_prepareWays 32 = .ok (.bipush 9, 2) := by decide +kernel
theorem dX1_prepareWays_34 : decode cX1_prepareWays 34 = .ok (.if_icmp .gt 79, 3) := by decide +kernel
theorem dX1_prepareWays_37 : decode cX1_prepareWays 37 = .ok (.iconst 0, 1) := by decide +kernel
theorem dX1_prepareWays_38 : decode cX1_prepareWays 38 = .ok (.istore 4, 2) := by decide +kernel
theorem dX1_prepareWays_40 : decode cX1_prepareWays 40 = .ok (.iload 4, 2) := by decide +kernel
theorem dX1_prepareWays_42 : decode cX1_prepareWays 42 = .ok (.bipush 9, 2) := by decide +kernel
theorem dX1_prepareWays_44 : decode cX1_prepareWays 44 = .ok (.if_icmp .gt 63, 3) := by decide +kernel
theorem dX1_prepareWays_47 : decode cX1_prepareWays 47 = .ok (.iload_n 2, 1) := by decide +kernel
theorem dX1_prepareWays_48 : decode cX1_prepareWays 48 = .ok (.aload_n 1, 1) := by decide +kernel
theorem dX1_prepareWays_49 : decode cX1_prepareWays 49 = .ok (.iconst 0, 1) := by decide +kernel
theorem dX1_prepareWays_50 : decode cX1_prepareWays 50 = .ok (.iaload, 1) := by decide +kernel
theorem dX1_prepareWays_51 : decode cX1_prepareWays 51 = .ok (.imul, 1) := by decide +kernel
theorem dX1_prepareWays_52 : decode cX1_prepareWays 52 = .ok (.iload_n 3, 1) := by decide +kernel
theorem dX1_prepareWays_53 : decode cX1_prepareWays 53 = .ok (.aload_n 1, 1) := by decide +kernel
theorem dX1_prepareWays_54 : decode cX1_prepareWays 54 = .ok (.iconst 1, 1) := by decide +kernel
theorem dX1_prepareWays_55 : decode cX1_prepareWays 55 = .ok (.iaload, 1) := by decide +kernel
theorem dX1_prepareWays_56 : decode cX1_prepareWays 56 = .ok (.imul, 1) := by decide +kernel
theorem dX1_prepareWays_57 : decode cX1_prepareWays 57 = .ok (.iadd, 1) := by decide +kernel
theorem dX1_prepareWays_58 : decode cX1_prepareWays 58 = .ok (.iload 4, 2) := by decide +kernel
theorem dX1_prepareWays_60 : decode cX1_prepareWays 60 = .ok (.aload_n 1, 1) := by decide +kernel
theorem dX1_prepareWays_61 : decode cX1_prepareWays 61 = .ok (.iconst 2, 1) := by decide +kernel
theorem dX1_prepareWays_62 : decode cX1_prepareWays 62 = .ok (.iaload, 1) := by decide +kernel
theorem dX1_prepareWays_63 : decode cX1_prepareWays 63 = .ok (.imul, 1) := by decide +kernel
theorem dX1_prepareWays_64 : decode cX1_prepareWays 64 = .ok (.iadd, 1) := by decide +kernel
theorem dX1_prepareWays_65 : decode cX1_prepareWays 65 = .ok (.istore 5, 2) := by decide +kernel
theorem dX1_prepareWays_67 : decode cX1_prepareWays 67 = .ok (.iconst 0, 1) := by decide +kernel
theorem dX1_prepareWays_68 : decode cX1_prepareWays 68 = .ok (.istore 6, 2) := by decide +kernel
theorem dX1_prepareWays_70 : decode cX1_prepareWays 70 = .ok (.iload 6, 2) := by decide +kernel
theorem dX1_prepareWays_72 : decode cX1_prepareWays 72 = .ok (.bipush 9, 2) := by decide +kernel
theorem dX1_prepareWays_74 : decode cX1_prepareWays 74 = .ok (.if_icmp .gt 27, 3) := by decide +kernel
theorem dX1_prepareWays_77 : decode cX1_prepareWays 77 = .ok (.aload_n 0, 1) := by decide +kernel
theorem dX1_prepareWays_78 : decode cX1_prepareWays 78 = .ok (.getfield 27, 3) := by decide +kernel
theorem dX1_prepareWays_81 : decode cX1_prepareWays 81 = .ok (.iload 5, 2) := by decide +kernel
theorem dX1_prepareWays_83 : decode cX1_prepareWays 83 = .ok (.iload 6, 2) := by decide +kernel
theorem dX1_prepareWays_85 : decode cX1_prepareWays 85 = .ok (.aload_n 1, 1) := by decide +kernel
theorem dX1_prepareWays_86 : decode cX1_prepareWays 86 = .ok (.iconst 3, 1) := by decide +kernel
theorem dX1_prepareWays_87 : decode cX1_prepareWays 87 = .ok (.iaload, 1) := by decide +kernel
theorem dX1_prepareWays_88 : decode cX1_prepareWays 88 = .ok (.imul, 1) := by decide +kernel
theorem dX1_prepareWays_89 : decode cX1_prepareWays 89 = .ok (.iadd, 1) := by decide +kernel
theorem dX1_prepareWays_90 : decode cX1_prepareWays 90 = .ok (.dup2, 1) := by decide +kernel
theorem dX1_prepareWays_91 : decode cX1_prepareWays 91 = .ok (.iaload, 1) := by decide +kernel
theorem dX1_prepareWays_92 : decode cX1_prepareWays 92 = .ok (.iconst 1, 1) := by decide +kernel
theorem dX1_prepareWays_93 : decode cX1_prepareWays 93 = .ok (.iadd, 1) := by decide +kernel
theorem dX1_prepareWays_94 : decode cX1_prepareWays 94 = .ok (.iastore, 1) := by decide +kernel
theorem dX1_prepareWays_95 : decode cX1_prepareWays 95 = .ok (.iinc 6 1, 3) := by decide +kernel
theorem dX1_prepareWays_98 : decode cX1_prepareWays 98 = .ok (.goto (-28), 3) := by decide +kernel
theorem dX1_prepareWays_101 : decode cX1_prepareWays 101 = .ok (.iinc 4 1, 3) := by decide +kernel
theorem dX1_prepareWays_104 : decode cX1_prepareWays 104 = .ok (.goto (-64), 3) := by decide +kernel
theorem dX1_prepareWays_107 : decode cX1_prepareWays 107 = .ok (.iinc 3 1, 3) := by decide +kernel
theorem dX1_prepareWays_110 : decode cX1_prepareWays 110 = .ok (.goto (-79), 3) := by decide +kernel
theorem dX1_prepareWays_113 : decode cX1_prepareWays 113 = .ok (.iinc 2 1, 3) := by decide +kernel
theorem dX1_prepareWays_116 : decode cX1_prepareWays 116 = .ok (.goto (-93), 3) := by decide +kernel
theorem dX1_prepareWays_119 : decode cX1_prepareWays 119 = .ok (.return_, 1) := by decide +kernel
theorem dX1_lowestOf_0 : decode cX1_lowestOf 0 = .ok (.iconst 0, 1) := by decide +kernel
theorem dX1_lowestOf_1 : decode cX1_lowestOf 1 = .ok (.istore_n 2, 1) := by decide +kernel
theorem dX1_lowestOf_2 : decode cX1_lowestOf 2 = .ok (.iconst 0, 1) := by decide +kernel
theorem dX1_lowestOf_3 : decode cX1_lowestOf 3 = .ok (.istore_n 3, 1) := by decide +kernel
theorem dX1_lowestOf_4 : decode cX1_lowestOf 4 = .ok (.iload_n 3, 1) := by decide +kernel
theorem dX1_lowestOf_5 : decode cX1_lowestOf 5 = .ok (.aload_n 0, 1) := by decide +kernel
theorem dX1_lowestOf_6 : decode cX1_lowestOf 6 = .ok (.getfield 37, 3) := by decide +kernel
theorem dX1_lowestOf_9 : decode cX1_lowestOf 9 = .ok (.if_icmp .ge 65, 3) := by decide +kernel
theorem dX1_lowestOf_12 : decode cX1_lowestOf 12 = .ok (.aload_n 0, 1) := by decide +kernel
theorem dX1_lowestOf_13 : decode cX1_lowestOf 13 = .ok (.getfield 11, 3) := by decide +kernel
theorem dX1_lowestOf_16 : decode cX1_lowestOf 16 = .ok (.iload_n 3, 1) := by decide +kernel
theorem dX1_lowestOf_17 : decode cX1_lowestOf 17 = .ok (.iaload, 1) := by decide +kernel
theorem dX1_lowestOf_18 : decode cX1_lowestOf 18 = .ok (.iload_n 1, 1) := by decide +kernel
theorem dX1_lowestOf_19 : decode cX1_lowestOf 19 = .ok (.if_icmp .ne 49, 3) := by decide +kernel
theorem dX1_lowestOf_22 : decode cX1_lowestOf 22 = .ok (.aload_n 0, 1) := by decide +kernel
theorem dX1_lowestOf_23 : decode cX1_lowestOf 23 = .ok (.getfield 18, 3) := by decide +kernel
theorem dX1_lowestOf_26 : decode cX1_lowestOf 26 = .ok (.iload_n 3, 1) := by decide +kernel
theorem dX1_lowestOf_27 : decode cX1_lowestOf 27 = .ok (.iaload, 1) := by decide +kernel
theorem dX1_lowestOf_28 : decode cX1_lowestOf 28 = .ok (.iconst 2, 1) := by decide +kernel
theorem dX1_lowestOf_29 : decode cX1_lowestOf 29 = .ok (.if_icmp .eq 39, 3) := by decide +kernel
theorem dX1_lowestOf_32 : decode cX1_lowestOf 32 = .ok (.aload_n 0, 1) := by decide +kernel
theorem dX1_lowestOf_33 : decode cX1_lowestOf 33 = .ok (.getfield 18, 3) := by decide +kernel
theorem dX1_lowestOf_36 : decode cX1_lowestOf 36 = .ok (.iload_n 3, 1) := by decide +kernel
theorem dX1_lowestOf_37 : decode cX1_lowestOf 37 = .ok (.iaload, 1) := by decide +kernel
theorem dX1_lowestOf_38 : decode cX1_lowestOf 38 = .ok (.iconst 1, 1) := by decide +kernel
theorem dX1_lowestOf_39 : decode cX1_lowestOf 39 = .ok (.if_icmp .ne 14, 3) := by decide +kernel
theorem dX1_lowestOf_42 : decode cX1_lowestOf 42 = .ok (.aload_n 0, 1) := by decide +kernel
theorem dX1_lowestOf_43 : decode cX1_lowestOf 43 = .ok (.getfield 15, 3) := by decide +kernel
theorem dX1_lowestOf_46 : decode cX1_lowestOf 46 = .ok (.iload_n 3, 1) := by decide +kernel
theorem dX1_lowestOf_47 : decode cX1_lowestOf 47 = .ok (.iaload, 1) := by decide +kernel
theorem dX1_lowestOf_48 : decode cX1_lowestOf 48 = .ok (.iconst 1, 1) := by decide +kernel
theorem dX1_lowestOf_49 : decode cX1_lowestOf 49 = .ok (.iadd, 1) := by decide +kernel
theorem dX1_lowestOf_50 : decode cX1_lowestOf 50 = .ok (.goto 9, 3) := by decide +kernel
theorem dX1_lowestOf_53 : decode cX1_lowestOf 53 = .ok (.aload_n 0, 1) := by decide +kernel
theorem dX1_lowestOf_54 : decode cX1_lowestOf 54 = .ok (.getfield 15, 3) := by decide +kernel
theorem dX1_lowestOf_57 : decode cX1_lowestOf 57 = .ok (.iload_n 3, 1) := by decide +kernel
theorem dX1_lowestOf_58 : decode cX1_lowestOf 58 = .ok (.iaload, 1) := by decide +kernel
theorem dX1_lowestOf_59 : decode cX1_lowestOf 59 = .ok (.istore 4, 2) := by decide +kernel
theorem dX1_lowestOf_61 : decode cX1_lowestOf 61 = .ok (.iload_n 2, 1) := by decide +kernel
theorem dX1_lowestOf_62 : decode cX1_lowestOf 62 = .ok (.iload 4, 2) := by decide +kernel
theorem dX1_lowestOf_64 : decode cX1_lowestOf 64 = .ok (.invokestatic 50, 3) := by decide +kernel
theorem dX1_lowestOf_67 : decode cX1_lowestOf 67 = .ok (.istore_n 2, 1) := by decide +kernel
theorem dX1_lowestOf_68 : decode cX1_lowestOf 68 = .ok (.iinc 3 1, 3) := by decide +kernel
theorem dX1_lowestOf_71 : decode cX1_lowestOf 71 = .ok (.goto (-67), 3) := by decide +kernel
theorem dX1_lowestOf_74 : decode cX1_lowestOf 74 = .ok (.iload_n 2, 1) := by decide +kernel
theorem dX1_lowestOf_75 : decode cX1_lowestOf 75 = .ok (.ireturn, 1) := by decide +kernel
theorem dX1_highestOf_0 : decode cX1_highestOf 0 = .ok (.sipush 720, 3) := by decide +kernel
theorem dX1_highestOf_3 : decode cX1_highestOf 3 = .ok (.istore_n 2, 1) := by decide +kernel
theorem dX1_highestOf_4 : decode cX1_highestOf 4 = .ok (.iconst 0, 1) := by decide +kernel
theorem dX1_highestOf_5 : decode cX1_highestOf 5 = .ok (.istore_n 3, 1) := by decide +kernel
theorem dX1_highestOf_6 : decode cX1_highestOf 6 = .ok (.iload_n 3, 1) := by decide +kernel
theorem dX1_highestOf_7 : decode cX1_highestOf 7 = .ok (.aload_n 0, 1) := by decide +kernel
theorem dX1_highestOf_8 : decode cX1_highestOf 8 = .ok (.getfield 37, 3) := by decide +kernel
theorem dX1_highestOf_11 : decode cX1_highestOf 11 = .ok (.if_icmp .ge 65, 3) := by decide +kernel
theorem dX1_highestOf_14 : decode cX1_highestOf 14 = .ok (.aload_n 0, 1) := by decide +kernel
theorem dX1_highestOf_15 : decode cX1_highestOf 15 = .ok (.getfield 11, 3) := by decide +kernel
theorem dX1_highestOf_18 : decode cX1_highestOf 18 = .ok (.iload_n 3, 1) := by decide +kernel
theorem dX1_highestOf_19 : decode cX1_highestOf 19 = .ok (.iaload, 1) := by decide +kernel
theorem dX1_highestOf_20 : decode cX1_highestOf 20 = .ok (.iload_n 1, 1) := by decide +kernel
theorem dX1_highestOf_21 : decode cX1_highestOf 21 = .ok (.if_icmp .ne 49, 3) := by decide +kernel
theorem dX1_highestOf_24 : decode cX1_highestOf 24 = .ok (.aload_n 0, 1) := by decide +kernel
theorem dX1_highestOf_25 : decode cX1_highestOf 25 = .ok (.getfield 18, 3) := by decide +kernel
theorem dX1_highestOf_28 : decode cX1_highestOf 28 = .ok (.iload_n 3, 1) := by decide +kernel
theorem dX1_highestOf_29 : decode cX1_highestOf 29 = .ok (.iaload, 1) := by decide +kernel
theorem dX1_highestOf_30 : decode cX1_highestOf 30 = .ok (.iconst 1, 1) := by decide +kernel
theorem dX1_highestOf_31 : decode cX1_highestOf 31 = .ok (.if_icmp .eq 39, 3) := by decide +kernel
theorem dX1_highestOf_34 : decode cX1_highestOf 34 = .ok (.aload_n 0, 1) := by decide +kernel
theorem dX1_highestOf_35 : decode cX1_highestOf 35 = .ok (.getfield 18, 3) := by decide +kernel
theorem dX1_highestOf_38 : decode cX1_highestOf 38 = .ok (.iload_n 3, 1) := by decide +kernel
theorem dX1_highestOf_39 : decode cX1_highestOf 39 = .ok (.iaload, 1) := by decide +kernel
theorem dX1_highestOf_40 : decode cX1_highestOf 40 = .ok (.iconst 2, 1) := by decide +kernel
theorem dX1_highestOf_41 : decode cX1_highestOf 41 = .ok (.if_icmp .ne 14, 3) := by decide +kernel
theorem dX1_highestOf_44 : decode cX1_highestOf 44 = .ok (.aload_n 0, 1) := by decide +kernel
theorem dX1_highestOf_45 : decode cX1_highestOf 45 = .ok (.getfield 15, 3) := by decide +kernel
theorem dX1_highestOf_48 : decode cX1_highestOf 48 = .ok (.iload_n 3, 1) := by decide +kernel
theorem dX1_highestOf_49 : decode cX1_highestOf 49 = .ok (.iaload, 1) := by decide +kernel
theorem dX1_highestOf_50 : decode cX1_highestOf 50 = .ok (.iconst 1, 1) := by decide +kernel
theorem dX1_highestOf_51 : decode cX1_highestOf 51 = .ok (.isub, 1) := by decide +kernel
theorem dX1_highestOf_52 : decode cX1_highestOf 52 = .ok (.goto 9, 3) := by decide +kernel
theorem dX1_highestOf_55 : decode cX1_highestOf 55 = .ok (.aload_n 0, 1) := by decide +kernel
theorem dX1_highestOf_56 : decode cX1_highestOf 56 = .ok (.getfield 15, 3) := by decide +kernel
theorem dX1_highestOf_59 : decode cX1_highestOf 59 = .ok (.iload_n 3, 1) := by decide +kernel
theorem dX1_highestOf_60 : decode cX1_highestOf 60 = .ok (.iaload, 1) := by decide +kernel
theorem dX1_highestOf_61 : decode cX1_highestOf 61 = .ok (.istore 4, 2) := by decide +kernel
theorem dX1_highestOf_63 : decode cX1_highestOf 63 = .ok (.iload_n 2, 1) := by decide +kernel
theorem dX1_highestOf_64 : decode cX1_highestOf 64 = .ok (.iload 4, 2) := by decide +kernel
theorem dX1_highestOf_66 : decode cX1_highestOf 66 = .ok (.invokestatic 56, 3) := by decide +kernel
theorem dX1_highestOf_69 : decode cX1_highestOf 69 = .ok (.istore_n 2, 1) := by decide +kernel
theorem dX1_highestOf_70 : decode cX1_highestOf 70 = .ok (.iinc 3 1, 3) := by decide +kernel
theorem dX1_highestOf_73 : decode cX1_highestOf 73 = .ok (.goto (-67), 3) := by decide +kernel
theorem dX1_highestOf_76 : decode cX1_highestOf 76 = .ok (.iload_n 2, 1) := by decide +kernel
theorem dX1_highestOf_77 : decode cX1_highestOf 77 = .ok (.ireturn, 1) := by decide +kernel
theorem dX1_waysBetween_0 : decode cX1_waysBetween 0 = .ok (.iconst 0, 1) := by decide +kernel
theorem dX1_waysBetween_1 : decode cX1_waysBetween 1 = .ok (.istore_n 3, 1) := by decide +kernel
theorem dX1_waysBetween_2 : decode cX1_waysBetween 2 = .ok (.iload_n 1, 1) := by decide +kernel
theorem dX1_waysBetween_3 : decode cX1_waysBetween 3 = .ok (.istore 4, 2) := by decide +kernel
theorem dX1_waysBetween_5 : decode cX1_waysBetween 5 = .ok (.iload 4, 2) := by decide +kernel
theorem dX1_waysBetween_7 : decode cX1_waysBetween 7 = .ok (.iload_n 2, 1) := by decide +kernel
theorem dX1_waysBetween_8 : decode cX1_waysBetween 8 = .ok (.if_icmp .gt 19, 3) := by decide +kernel
theorem dX1_waysBetween_11 : decode cX1_waysBetween 11 = .ok (.iload_n 3, 1) := by decide +kernel
theorem dX1_waysBetween_12 : decode cX1_waysBetween 12 = .ok (.aload_n 0, 1) := by decide +kernel
theorem dX1_waysBetween_13 : decode cX1_waysBetween 13 = .ok (.getfield 27, 3) := by decide +kernel
theorem dX1_waysBetween_16 : decode cX1_waysBetween 16 = .ok (.iload 4, 2) := by decide +kernel
theorem dX1_waysBetween_18 : decode cX1_waysBetween 18 = .ok (.iaload, 1) := by decide +kernel
theorem dX1_waysBetween_19 : decode cX1_waysBetween 19 = .ok (.iadd, 1) := by decide +kernel
theorem dX1_waysBetween_20 : decode cX1_waysBetween 20 = .ok (.istore_n 3, 1) := by decide +kernel
theorem dX1_waysBetween_21 : decode cX1_waysBetween 21 = .ok (.iinc 4 1, 3) := by decide +kernel
theorem dX1_waysBetween_24 : decode cX1_waysBetween 24 = .ok (.goto (-19), 3) := by decide +kernel
theorem dX1_waysBetween_27 : decode cX1_waysBetween 27 = .ok (.iload_n 3, 1) := by decide +kernel
theorem dX1_waysBetween_28 : decode cX1_waysBetween 28 = .ok (.ireturn, 1) := by decide +kernel
theorem dX1_leastBetween_0 : decode cX1_leastBetween 0 = .ok (.iload_n 1, 1) := by decide +kernel
theorem dX1_leastBetween_1 : decode cX1_leastBetween 1 = .ok (.istore_n 3, 1) := by decide +kernel
theorem dX1_leastBetween_2 : decode cX1_leastBetween 2 = .ok (.iload_n 3, 1) := by decide +kernel
theorem dX1_leastBetween_3 : decode cX1_leastBetween 3 = .ok (.iload_n 2, 1) := by decide +kernel
theorem dX1_leastBetween_4 : decode cX1_leastBetween 4 = .ok (.if_icmp .gt 20, 3) := by decide +kernel
theorem dX1_leastBetween_7 : decode cX1_leastBetween 7 = .ok (.aload_n 0, 1) := by decide +kernel
theorem dX1_leastBetween_8 : decode cX1_leastBetween 8 = .ok (.getfield 27, 3) := by decide +kernel
theorem dX1_leastBetween_11 : decode cX1_leastBetween 11 = .ok (.iload_n 3, 1) := by decide +kernel
theorem dX1_leastBetween_12 : decode cX1_leastBetween 12 = .ok (.iaload, 1) := by decide +kernel
theorem dX1_leastBetween_13 : decode cX1_leastBetween 13 = .ok (.ifCond .le 5, 3) := by decide +kernel
theorem dX1_leastBetween_16 : decode cX1_leastBetween 16 = .ok (.iload_n 3, 1) := by decide +kernel
theorem dX1_leastBetween_17 : decode cX1_leastBetween 17 = .ok (.ireturn, 1) := by decide +kernel
theorem dX1_leastBetween_18 : decode cX1_leastBetween 18 = .ok (.iinc 3 1, 3) := by decide +kernel
theorem dX1_leastBetween_21 : decode cX1_leastBetween 21 = .ok (.goto (-19), 3) := by decide +kernel
theorem dX1_leastBetween_24 : decode cX1_leastBetween 24 = .ok (.bipush (-9), 2) := by decide +kernel
theorem dX1_leastBetween_26 : decode cX1_leastBetween 26 = .ok (.ireturn, 1) := by decide +kernel
theorem dX1_greatestBetween_0 : decode cX1_greatestBetween 0 = .ok (.iload_n 2, 1) := by decide +kernel
theorem dX1_greatestBetween_1 : decode cX1_greatestBetween 1 = .ok (.istore_n 3, 1) := by decide +kernel
theorem dX1_greatestBetween_2 : decode cX1_greatestBetween 2 = .ok (.iload_n 3, 1) := by decide +kernel
theorem dX1_greatestBetween_3 : decode cX1_greatestBetween 3 = .ok (.iload_n 1, 1) := by decide +kernel
theorem dX1_greatestBetween_4 : decode cX1_greatestBetween 4 = .ok (.if_icmp .lt 20, 3) := by decide +kernel
theorem dX1_greatestBetween_7 : decode cX1_greatestBetween 7 = .ok (.aload_n 0, 1) := by decide +kernel
theorem dX1_greatestBetween_8 : decode cX1_greatestBetween 8 = .ok (.getfield 27, 3) := by decide +kernel
theorem dX1_greatestBetween_11 : decode cX1_greatestBetween 11 = .ok (.iload_n 3, 1) := by decide +kernel
theorem dX1_greatestBetween_12 : decode cX1_greatestBetween 12 = .ok (.iaload, 1) := by decide +kernel
theorem dX1_greatestBetween_13 : decode cX1_greatestBetween 13 = .ok (.ifCond .le 5, 3) := by decide +kernel
theorem dX1_greatestBetween_16 : decode cX1_greatestBetween 16 = .ok (.iload_n 3, 1) := by decide +kernel
theorem dX1_greatestBetween_17 : decode cX1_greatestBetween 17 = .ok (.ireturn, 1) := by decide +kernel
theorem dX1_greatestBetween_18 : decode cX1_greatestBetween 18 = .ok (.iinc 3 (-1), 3) := by decide +kernel
theorem dX1_greatestBetween_21 : decode cX1_greatestBetween 21 = .ok (.goto (-19), 3) := by decide +kernel
theorem dX1_greatestBetween_24 : decode cX1_greatestBetween 24 = .ok (.bipush (-9), 2) := by decide +kernel
theorem dX1_greatestBetween_26 : decode cX1_greatestBetween 26 = .ok (.ireturn, 1) := by decide +kernel
theorem dX1_lawsOf_0 : decode cX1_lawsOf 0 = .ok (.iconst 0, 1) := by decide +kernel
theorem dX1_lawsOf_1 : decode cX1_lawsOf 1 = .ok (.istore_n 3, 1) := by decide +kernel
theorem dX1_lawsOf_2 : decode cX1_lawsOf 2 = .ok (.iconst 0, 1) := by decide +kernel
theorem dX1_lawsOf_3 : decode cX1_lawsOf 3 = .ok (.istore 4, 2) := by decide +kernel
theorem dX1_lawsOf_5 : decode cX1_lawsOf 5 = .ok (.iload 4, 2) := by decide +kernel
theorem dX1_lawsOf_7 : decode cX1_lawsOf 7 = .ok (.sipush 256, 3) := by decide +kernel
theorem dX1_lawsOf_10 : decode cX1_lawsOf 10 = .ok (.if_icmp .ge 26, 3) := by decide +kernel
theorem dX1_lawsOf_13 : decode cX1_lawsOf 13 = .ok (.aload_n 0, 1) := by decide +kernel
theorem dX1_lawsOf_14 : decode cX1_lawsOf 14 = .ok (.iload_n 1, 1) := by decide +kernel
theorem dX1_lawsOf_15 : decode cX1_lawsOf 15 = .ok (.iload 4, 2) := by decide +kernel
theorem dX1_lawsOf_17 : decode cX1_lawsOf 17 = .ok (.aload_n 2, 1) := by decide +kernel
theorem dX1_lawsOf_18 : decode cX1_lawsOf 18 = .ok (.invokestatic 59, 3) := by decide +kernel
theorem dX1_lawsOf_21 : decode cX1_lawsOf 21 = .ok (.invokevirtual 63, 3) := by decide +kernel
theorem dX1_lawsOf_24 : decode cX1_lawsOf 24 = .ok (.ifCond .eq 6, 3) := by decide +kernel
theorem dX1_lawsOf_27 : decode cX1_lawsOf 27 = .ok (.iinc 3 1, 3) := by decide +kernel
theorem dX1_lawsOf_30 : decode cX1_lawsOf 30 = .ok (.iinc 4 1, 3) := by decide +kernel
theorem dX1_lawsOf_33 : decode cX1_lawsOf 33 = .ok (.goto (-28), 3) := by decide +kernel
theorem dX1_lawsOf_36 : decode cX1_lawsOf 36 = .ok (.iload_n 3, 1) := by decide +kernel
theorem dX1_lawsOf_37 : decode cX1_lawsOf 37 = .ok (.ireturn, 1) := by decide +kernel
theorem dX1_firstLawOf_0 : decode cX1_firstLawOf 0 = .ok (.iconst 0, 1) := by decide +kernel
theorem dX1_firstLawOf_1 : decode cX1_firstLawOf 1 = .ok (.istore_n 3, 1) := by decide +kernel
theorem dX1_firstLawOf_2 : decode cX1_firstLawOf 2 = .ok (.iload_n 3, 1) := by decide +kernel
theorem dX1_firstLawOf_3 : decode cX1_firstLawOf 3 = .ok (.sipush 256, 3) := by decide +kernel
theorem dX1_firstLawOf_6 : decode cX1_firstLawOf 6 = .ok (.if_icmp .ge 27, 3) := by decide +kernel
theorem dX1_firstLawOf_9 : decode cX1_firstLawOf 9 = .ok (.aload_n 0, 1) := by decide +kernel
theorem dX1_firstLawOf_10 : decode cX1_firstLawOf 10 = .ok (.iload_n 1, 1) := by decide +kernel
theorem dX1_firstLawOf_11 : decode cX1_firstLawOf 11 = .ok (.iload_n 3, 1) := by decide +kernel
theorem dX1_firstLawOf_12 : decode cX1_firstLawOf 12 = .ok (.aload_n 2, 1) := by decide +kernel
theorem dX1_firstLawOf_13 : decode cX1_firstLawOf 13 = .ok (.invokestatic 59, 3) := by decide +kernel
theorem dX1_firstLawOf_16 : decode cX1_firstLawOf 16 = .ok (.invokevirtual 63, 3) := by decide +kernel
theorem dX1_firstLawOf_19 : decode cX1_firstLawOf 19 = .ok (.ifCond .eq 8, 3) := by decide +kernel
theorem dX1_firstLawOf_22 : decode cX1_firstLawOf 22 = .ok (.iload_n 3, 1) := by decide +kernel
theorem dX1_firstLawOf_23 : decode cX1_firstLawOf 23 = .ok (.invokestatic 67, 3) := by decide +kernel
theorem dX1_firstLawOf_26 : decode cX1_firstLawOf 26 = .ok (.ireturn, 1) := by decide +kernel
theorem dX1_firstLawOf_27 : decode cX1_firstLawOf 27 = .ok (.iinc 3 1, 3) := by decide +kernel
theorem dX1_firstLawOf_30 : decode cX1_firstLawOf 30 = .ok (.goto (-28), 3) := by decide +kernel
theorem dX1_firstLawOf_33 : decode cX1_firstLawOf 33 = .ok (.bipush (-9), 2) := by decide +kernel
theorem dX1_firstLawOf_35 : decode cX1_firstLawOf 35 = .ok (.ireturn, 1) := by decide +kernel
theorem dX1_gainOf_0 : decode cX1_gainOf 0 = .ok (.iload_n 0, 1) := by decide +kernel
theorem dX1_gainOf_1 : decode cX1_gainOf 1 = .ok (.istore_n 2, 1) := by decide +kernel
theorem dX1_gainOf_2 : decode cX1_gainOf 2 = .ok (.iconst 0, 1) := by decide +kernel
theorem dX1_gainOf_3 : decode cX1_gainOf 3 = .ok (.istore_n 3, 1) := by decide +kernel
theorem dX1_gainOf_4 : decode cX1_gainOf 4 = .ok (.iconst 3, 1) := by decide +kernel
theorem dX1_gainOf_5 : decode cX1_gainOf 5 = .ok (.istore 4, 2) := by decide +kernel
theorem dX1_gainOf_7 : decode cX1_gainOf 7 = .ok (.iload 4, 2) := by decide +kernel
theorem dX1_gainOf_9 : decode cX1_gainOf 9 = .ok (.ifCond .lt 24, 3) := by decide +kernel
theorem dX1_gainOf_12 : decode cX1_gainOf 12 = .ok (.iload_n 3, 1) := by decide +kernel
theorem dX1_gainOf_13 : decode cX1_gainOf 13 = .ok (.iload_n 2, 1) := by decide +kernel
theorem dX1_gainOf_14 : decode cX1_gainOf 14 = .ok (.iconst 4, 1) := by decide +kernel
theorem dX1_gainOf_15 : decode cX1_gainOf 15 = .ok (.irem, 1) := by decide +kernel
theorem dX1_gainOf_16 : decode cX1_gainOf 16 = .ok (.aload_n 1, 1) := by decide +kernel
theorem dX1_gainOf_17 : decode cX1_gainOf 17 = .ok (.iload 4, 2) := by decide +kernel
theorem dX1_gainOf_19 : decode cX1_gainOf 19 = .ok (.iaload, 1) := by decide +kernel
theorem dX1_gainOf_20 : decode cX1_gainOf 20 = .ok (.imul, 1) := by decide +kernel
theorem dX1_gainOf_21 : decode cX1_gainOf 21 = .ok (.iadd, 1) := by decide +kernel
theorem dX1_gainOf_22 : decode cX1_gainOf 22 = .ok (.istore_n 3, 1) := by decide +kernel
theorem dX1_gainOf_23 : decode cX1_gainOf 23 = .ok (.iload_n 2, 1) := by decide +kernel
theorem dX1_gainOf_24 : decode cX1_gainOf 24 = .ok (.iconst 4, 1) := by decide +kernel
theorem dX1_gainOf_25 : decode cX1_gainOf 25 = .ok (.idiv, 1) := by decide +kernel
theorem dX1_gainOf_26 : decode cX1_gainOf 26 = .ok (.istore_n 2, 1) := by decide +kernel
theorem dX1_gainOf_27 : decode cX1_gainOf 27 = .ok (.iinc 4 (-1), 3) := by decide +kernel
theorem dX1_gainOf_30 : decode cX1_gainOf 30 = .ok (.goto (-23), 3) := by decide +kernel
theorem dX1_gainOf_33 : decode cX1_gainOf 33 = .ok (.iload_n 3, 1) := by decide +kernel
theorem dX1_gainOf_34 : decode cX1_gainOf 34 = .ok (.ireturn, 1) := by decide +kernel
theorem dX1_figuresOf_0 : decode cX1_figuresOf 0 = .ok (.iload_n 0, 1) := by decide +kernel
theorem dX1_figuresOf_1 : decode cX1_figuresOf 1 = .ok (.istore_n 1, 1) := by decide +kernel
theorem dX1_figuresOf_2 : decode cX1_figuresOf 2 = .ok (.iconst 1, 1) := by decide +kernel
theorem dX1_figuresOf_3 : decode cX1_figuresOf 3 = .ok (.istore_n 2, 1) := by decide +kernel
theorem dX1_figuresOf_4 : decode cX1_figuresOf 4 = .ok (.iconst 0, 1) := by decide +kernel
theorem dX1_figuresOf_5 : decode cX1_figuresOf 5 = .ok (.istore_n 3, 1) := by decide +kernel
theorem dX1_figuresOf_6 : decode cX1_figuresOf 6 = .ok (.iconst 0, 1) := by decide +kernel
theorem dX1_figuresOf_7 : decode cX1_figuresOf 7 = .ok (.istore 4, 2) := by decide +kernel
theorem dX1_figuresOf_9 : decode cX1_figuresOf 9 = .ok (.iload 4, 2) := by decide +kernel
theorem dX1_figuresOf_11 : decode cX1_figuresOf 11 = .ok (.iconst 4, 1) := by decide +kernel
theorem dX1_figuresOf_12 : decode cX1_figuresOf 12 = .ok (.if_icmp .ge 26, 3) := by decide +kernel
theorem dX1_figuresOf_15 : decode cX1_figuresOf 15 = .ok (.iload_n 3, 1) := by decide +kernel
theorem dX1_figuresOf_16 : decode cX1_figuresOf 16 = .ok (.iload_n 1, 1) := by decide +kernel
theorem dX1_figuresOf_17 : decode cX1_figuresOf 17 = .ok (.iconst 4, 1) := by decide +kernel
theorem dX1_figuresOf_18 : decode cX1_figuresOf 18 = .ok (.irem, 1) := by decide +kernel
theorem dX1_figuresOf_19 : decode cX1_figuresOf 19 = .ok (.iload_n 2, 1) := by decide +kernel
theorem dX1_figuresOf_20 : decode cX1_figuresOf 20 = .ok (.imul, 1) := by decide +kernel
theorem dX1_figuresOf_21 : decode cX1_figuresOf 21 = .ok (.iadd, 1) := by decide +kernel
theorem dX1_figuresOf_22 : decode cX1_figuresOf 22 = .ok (.istore_n 3, 1) := by decide +kernel
theorem dX1_figuresOf_23 : decode cX1_figuresOf 23 = .ok (.iload_n 1, 1) := by decide +kernel
theorem dX1_figuresOf_24 : decode cX1_figuresOf 24 = .ok (.iconst 4, 1) := by decide +kernel
theorem dX1_figuresOf_25 : decode cX1_figuresOf 25 = .ok (.idiv, 1) := by decide +kernel
theorem dX1_figuresOf_26 : decode cX1_figuresOf 26 = .ok (.istore_n 1, 1) := by decide +kernel
theorem dX1_figuresOf_27 : decode cX1_figuresOf 27 = .ok (.iload_n 2, 1) := by decide +kernel
theorem dX1_figuresOf_28 : decode cX1_figuresOf 28 = .ok (.bipush 10, 2) := by decide +kernel
theorem dX1_figuresOf_30 : decode cX1_figuresOf 30 = .ok (.imul, 1) := by decide +kernel
theorem dX1_figuresOf_31 : decode cX1_figuresOf 31 = .ok (.istore_n 2, 1) := by decide +kernel
theorem dX1_figuresOf_32 : decode cX1_figuresOf 32 = .ok (.iinc 4 1, 3) := by decide +kernel
theorem dX1_figuresOf_35 : decode cX1_figuresOf 35 = .ok (.goto (-26), 3) := by decide +kernel
theorem dX1_figuresOf_38 : decode cX1_figuresOf 38 = .ok (.iload_n 3, 1) := by decide +kernel
theorem dX1_figuresOf_39 : decode cX1_figuresOf 39 = .ok (.ireturn, 1) := by decide +kernel
theorem dX1_fits_0 : decode cX1_fits 0 = .ok (.iconst 0, 1) := by decide +kernel
theorem dX1_fits_1 : decode cX1_fits 1 = .ok (.istore_n 3, 1) := by decide +kernel
theorem dX1_fits_2 : decode cX1_fits 2 = .ok (.iload_n 3, 1) := by decide +kernel
theorem dX1_fits_3 : decode cX1_fits 3 = .ok (.aload_n 0, 1) := by decide +kernel
theorem dX1_fits_4 : decode cX1_fits 4 = .ok (.getfield 41, 3) := by decide +kernel
theorem dX1_fits_7 : decode cX1_fits 7 = .ok (.if_icmp .ge 31, 3) := by decide +kernel
theorem dX1_fits_10 : decode cX1_fits 10 = .ok (.aload_n 0, 1) := by decide +kernel
theorem dX1_fits_11 : decode cX1_fits 11 = .ok (.getfield 21, 3) := by decide +kernel
theorem dX1_fits_14 : decode cX1_fits 14 = .ok (.iload_n 3, 1) := by decide +kernel
theorem dX1_fits_15 : decode cX1_fits 15 = .ok (.iaload, 1) := by decide +kernel
theorem dX1_fits_16 : decode cX1_fits 16 = .ok (.iload_n 1, 1) := by decide +kernel
theorem dX1_fits_17 : decode cX1_fits 17 = .ok (.if_icmp .ne 15, 3) := by decide +kernel
theorem dX1_fits_20 : decode cX1_fits 20 = .ok (.aload_n 0, 1) := by decide +kernel
theorem dX1_fits_21 : decode cX1_fits 21 = .ok (.getfield 24, 3) := by decide +kernel
theorem dX1_fits_24 : decode cX1_fits 24 = .ok (.iload_n 3, 1) := by decide +kernel
theorem dX1_fits_25 : decode cX1_fits 25 = .ok (.iaload, 1) := by decide +kernel
theorem dX1_fits_26 : decode cX1_fits 26 = .ok (.iload_n 2, 1) := by decide +kernel
theorem dX1_fits_27 : decode cX1_fits 27 = .ok (.if_icmp .eq 5, 3) := by decide +kernel
theorem dX1_fits_30 : decode cX1_fits 30 = .ok (.iconst 0, 1) := by decide +kernel
theorem dX1_fits_31 : decode cX1_fits 31 = .ok (.ireturn, 1) := by decide +kernel
theorem dX1_fits_32 : decode cX1_fits 32 = .ok (.iinc 3 1, 3) := by decide +kernel
theorem dX1_fits_35 : decode cX1_fits 35 = .ok (.goto (-33), 3) := by decide +kernel
theorem dX1_fits_38 : decode cX1_fits 38 = .ok (.iconst 1, 1) := by decide +kernel
theorem dX1_fits_39 : decode cX1_fits 39 = .ok (.ireturn, 1) := by decide +kernel
theorem dX2_init_0 : decode cX2_init 0 = .ok (.aload_n 0, 1) := by decide +kernel
theorem dX2_init_1 : decode cX2_init 1 = .ok (.invokespecial 3, 3) := by decide +kernel
theorem dX2_init_4 : decode cX2_init 4 = .ok (.aload_n 0, 1) := by decide +kernel
theorem dX2_init_5 : decode cX2_init 5 = .ok (.bipush 10, 2) := by decide +kernel
theorem dX2_init_7 : decode cX2_init 7 = .ok (.anewarray 9, 3) := by decide +kernel
theorem dX2_init_10 : decode cX2_init 10 = .ok (.putfield 11, 3) := by decide +kernel
theorem dX2_init_13 : decode cX2_init 13 = .ok (.iconst 0, 1) := by decide +kernel
theorem dX2_init_14 : decode cX2_init 14 = .ok (.istore_n 1, 1) := by decide +kernel
theorem dX2_init_15 : decode cX2_init 15 = .ok (.iload_n 1, 1) := by decide +kernel
theorem dX2_init_16 : decode cX2_init 16 = .ok (.bipush 10, 2) := by decide +kernel
theorem dX2_init_18 : decode cX2_init 18 = .ok (.if_icmp .ge 22, 3) := by decide +kernel
theorem dX2_init_21 : decode cX2_init 21 = .ok (.aload_n 0, 1) := by decide +kernel
theorem dX2_init_22 : decode cX2_init 22 = .ok (.getfield 11, 3) := by decide +kernel
theorem dX2_init_25 : decode cX2_init 25 = .ok (.iload_n 1, 1) := by decide +kernel
theorem dX2_init_26 : decode cX2_init 26 = .ok (.new 9, 3) := by decide +kernel
theorem dX2_init_29 : decode cX2_init 29 = .ok (.dup, 1) := by decide +kernel
theorem dX2_init_30 : decode cX2_init 30 = .ok (.invokespecial 17, 3) := by decide +kernel
theorem dX2_init_33 : decode cX2_init 33 = .ok (.aastore, 1) := by decide +kernel
theorem dX2_init_34 : decode cX2_init 34 = .ok (.iinc 1 1, 3) := by decide +kernel
theorem dX2_init_37 : decode cX2_init 37 = .ok (.goto (-22), 3) := by decide +kernel
theorem dX2_init_40 : decode cX2_init 40 = .ok (.return_, 1) := by decide +kernel
theorem dX2_push_0 : decode cX2_push 0 = .ok (.aload_n 0, 1) := by decide +kernel
theorem dX2_push_1 : decode cX2_push 1 = .ok (.getfield 11, 3) := by decide +kernel
theorem dX2_push_4 : decode cX2_push 4 = .ok (.aload_n 0, 1) := by decide +kernel
theorem dX2_push_5 : decode cX2_push 5 = .ok (.getfield 18, 3) := by decide +kernel
theorem dX2_push_8 : decode cX2_push 8 = .ok (.aaload, 1) := by decide +kernel
theorem dX2_push_9 : decode cX2_push 9 = .ok (.aload_n 1, 1) := by decide +kernel
theorem dX2_push_10 : decode cX2_push 10 = .ok (.invokevirtual 22, 3) := by decide +kernel
theorem dX2_push_13 : decode cX2_push 13 = .ok (.aload_n 0, 1) := by decide +kernel
theorem dX2_push_14 : decode cX2_push 14 = .ok (.aload_n 0, 1) := by decide +kernel
theorem dX2_push_15 : decode cX2_push 15 = .ok (.getfield 18, 3) := by decide +kernel
theorem dX2_push_18 : decode cX2_push 18 = .ok (.iconst 1, 1) := by decide +kernel
theorem dX2_push_19 : decode cX2_push 19 = .ok (.iadd, 1) := by decide +kernel
theorem dX2_push_20 : decode cX2_push 20 = .ok (.bipush 10, 2) := by decide +kernel
theorem dX2_push_22 : decode cX2_push 22 = .ok (.irem, 1) := by decide +kernel
theorem dX2_push_23 : decode cX2_push 23 = .ok (.putfield 18, 3) := by decide +kernel
theorem dX2_push_26 : decode cX2_push 26 = .ok (.aload_n 0, 1) := by decide +kernel
theorem dX2_push_27 : decode cX2_push 27 = .ok (.bipush 10, 2) := by decide +kernel
theorem dX2_push_29 : decode cX2_push 29 = .ok (.aload_n 0, 1) := by decide +kernel
theorem dX2_push_30 : decode cX2_push 30 = .ok (.getfield 26, 3) := by decide +kernel
theorem dX2_push_33 : decode cX2_push 33 = .ok (.iconst 1, 1) := by decide +kernel
theorem dX2_push_34 : decode cX2_push 34 = .ok (.iadd, 1) := by decide +kernel
theorem dX2_push_35 : decode cX2_push 35 = .ok (.invokestatic 29, 3) := by decide +kernel
theorem dX2_push_38 : decode cX2_push 38 = .ok (.putfield 26, 3) := by decide +kernel
theorem dX2_push_41 : decode cX2_push 41 = .ok (.return_, 1) := by decide +kernel
theorem dX2_popInto_0 : decode cX2_popInto 0 = .ok (.aload_n 0, 1) := by decide +kernel
theorem dX2_popInto_1 : decode cX2_popInto 1 = .ok (.getfield 26, 3) := by decide +kernel
theorem dX2_popInto_4 : decode cX2_popInto 4 = .ok (.ifCond .le 42, 3) := by decide +kernel
theorem dX2_popInto_7 : decode cX2_popInto 7 = .ok (.aload_n 0, 1) := by decide +kernel
theorem dX2_popInto_8 : decode cX2_popInto 8 = .ok (.aload_n 0, 1) := by decide +kernel
theorem dX2_popInto_9 : decode cX2_popInto 9 = .ok (.getfield 18, 3) := by decide +kernel
theorem dX2_popInto_12 : decode cX2_popInto 12 = .ok (.bipush 10, 2) := by decide +kernel
theorem dX2_popInto_14 : decode cX2_popInto 14 = .ok (.iadd, 1) := by decide +kernel
theorem dX2_popInto_15 : decode cX2_popInto 15 = .ok (.iconst 1, 1) := by decide +kernel
theorem dX2_popInto_16 : decode cX2_popInto 16 = .ok (.isub, 1) := by decide +kernel
theorem dX2_popInto_17 : decode cX2_popInto 17 = .ok (.bipush 10, 2) := by decide +kernel
theorem dX2_popInto_19 : decode cX2_popInto 19 = .ok (.irem, 1) := by decide +kernel
theorem dX2_popInto_20 : decode cX2_popInto 20 = .ok (.putfield 18, 3) := by decide +kernel
theorem dX2_popInto_23 : decode cX2_popInto 23 = .ok (.aload_n 0, 1) := by decide +kernel
theorem dX2_popInto_24 : decode cX2_popInto 24 = .ok (.dup, 1) := by decide +kernel
theorem dX2_popInto_25 : decode cX2_popInto 25 = .ok (.getfield 26, 3) := by decide +kernel
theorem dX2_popInto_28 : decode cX2_popInto 28 = .ok (.iconst 1, 1) := by decide +kernel
theorem dX2_popInto_29 : decode cX2_popInto 29 = .ok (.isub, 1) := by decide +kernel
theorem dX2_popInto_30 : decode cX2_popInto 30 = .ok (.putfield 26, 3) := by decide +kernel
theorem dX2_popInto_33 : decode cX2_popInto 33 = .ok (.aload_n 1, 1) := by decide +kernel
theorem dX2_popInto_34 : decode cX2_popInto 34 = .ok (.aload_n 0, 1) := by decide +kernel
theorem dX2_popInto_35 : decode cX2_popInto 35 = .ok (.getfield 11, 3) := by decide +kernel
theorem dX2_popInto_38 : decode cX2_popInto 38 = .ok (.aload_n 0, 1) := by decide +kernel
theorem dX2_popInto_39 : decode cX2_popInto 39 = .ok (.getfield 18, 3) := by decide +kernel
theorem dX2_popInto_42 : decode cX2_popInto 42 = .ok (.aaload, 1) := by decide +kernel
theorem dX2_popInto_43 : decode cX2_popInto 43 = .ok (.invokevirtual 22, 3) := by decide +kernel
theorem dX2_popInto_46 : decode cX2_popInto 46 = .ok (.return_, 1) := by decide +kernel
theorem dX3_init_0 : decode cX3_init 0 = .ok (.aload_n 0, 1) := by decide +kernel
theorem dX3_init_1 : decode cX3_init 1 = .ok (.invokespecial 3, 3) := by decide +kernel
theorem dX3_init_4 : decode cX3_init 4 = .ok (.aload_n 0, 1) := by decide +kernel
theorem dX3_init_5 : decode cX3_init 5 = .ok (.sipush 721, 3) := by decide +kernel
theorem dX3_init_8 : decode cX3_init 8 = .ok (.newarray .int, 2) := by decide +kernel
theorem dX3_init_10 : decode cX3_init 10 = .ok (.putfield 9, 3) := by decide +kernel
theorem dX3_init_13 : decode cX3_init 13 = .ok (.aload_n 0, 1) := by decide +kernel
theorem dX3_init_14 : decode cX3_init 14 = .ok (.sipush 721, 3) := by decide +kernel
theorem dX3_init_17 : decode cX3_init 17 = .ok (.newarray .int, 2) := by decide +kernel
theorem dX3_init_19 : decode cX3_init 19 = .ok (.putfield 15, 3) := by decide +kernel
theorem dX3_init_22 : decode cX3_init 22 = .ok (.return_, 1) := by decide +kernel
theorem dX3_find_0 : decode cX3_find 0 = .ok (.aload_n 0, 1) := by decide +kernel
theorem dX3_find_1 : decode cX3_find 1 = .ok (.getfield 9, 3) := by decide +kernel
theorem dX3_find_4 : decode cX3_find 4 = .ok (.aload_n 1, 1) := by decide +kernel
theorem dX3_find_5 : decode cX3_find 5 = .ok (.aload_n 2, 1) := by decide +kernel
theorem dX3_find_6 : decode cX3_find 6 = .ok (.iload_n 3, 1) := by decide +kernel
theorem dX3_find_7 : decode cX3_find 7 = .ok (.invokestatic 18, 3) := by decide +kernel
theorem dX3_find_10 : decode cX3_find 10 = .ok (.istore 5, 2) := by decide +kernel
theorem dX3_find_12 : decode cX3_find 12 = .ok (.aload_n 0, 1) := by decide +kernel
theorem dX3_find_13 : decode cX3_find 13 = .ok (.getfield 15, 3) := by decide +kernel
theorem dX3_find_16 : decode cX3_find 16 = .ok (.aload_n 1, 1) := by decide +kernel
theorem dX3_find_17 : decode cX3_find 17 = .ok (.aload_n 2, 1) := by decide +kernel
theorem dX3_find_18 : decode cX3_find 18 = .ok (.iload 4, 2) := by decide +kernel
theorem dX3_find_20 : decode cX3_find 20 = .ok (.invokestatic 18, 3) := by decide +kernel
theorem dX3_find_23 : decode cX3_find 23 = .ok (.istore 6, 2) := by decide +kernel
theorem dX3_find_25 : decode cX3_find 25 = .ok (.aload_n 0, 1) := by decide +kernel
theorem dX3_find_26 : decode cX3_find 26 = .ok (.sipush 1000, 3) := by decide +kernel
theorem dX3_find_29 : decode cX3_find 29 = .ok (.putfield 22, 3) := by decide +kernel
theorem dX3_find_32 : decode cX3_find 32 = .ok (.aload_n 0, 1) := by decide +kernel
theorem dX3_find_33 : decode cX3_find 33 = .ok (.iconst 0, 1) := by decide +kernel
theorem dX3_find_34 : decode cX3_find 34 = .ok (.putfield 26, 3) := by decide +kernel
theorem dX3_find_37 : decode cX3_find 37 = .ok (.iload 5, 2) := by decide +kernel
theorem dX3_find_39 : decode cX3_find 39 = .ok (.iload 6, 2) := by decide +kernel
theorem dX3_find_41 : decode cX3_find 41 = .ok (.invokestatic 29, 3) := by decide +kernel
theorem dX3_find_44 : decode cX3_find 44 = .ok (.istore 7, 2) := by decide +kernel
theorem dX3_find_46 : decode cX3_find 46 = .ok (.iload 7, 2) := by decide +kernel
theorem dX3_find_48 : decode cX3_find 48 = .ok (.ifCond .lt 53, 3) := by decide +kernel
theorem dX3_find_51 : decode cX3_find 51 = .ok (.aload_n 0, 1) := by decide +kernel
theorem dX3_find_52 : decode cX3_find 52 = .ok (.getfield 9, 3) := by decide +kernel
theorem dX3_find_55 : decode cX3_find 55 = .ok (.iload 5, 2) := by decide +kernel
theorem dX3_find_57 : decode cX3_find 57 = .ok (.iload 7, 2) := by decide +kernel
theorem dX3_find_59 : decode cX3_find 59 = .ok (.isub, 1) := by decide +kernel
theorem dX3_find_60 : decode cX3_find 60 = .ok (.iaload, 1) := by decide +kernel
theorem dX3_find_61 : decode cX3_find 61 = .ok (.aload_n 0, 1) := by decide +kernel
theorem dX3_find_62 : decode cX3_find 62 = .ok (.getfield 15, 3) := by decide +kernel
theorem dX3_find_65 : decode cX3_find 65 = .ok (.iload 6, 2) := by decide +kernel
theorem dX3_find_67 : decode cX3_find 67 = .ok (.iload 7, 2) := by decide +kernel
theorem dX3_find_69 : decode cX3_find 69 = .ok (.isub, 1) := by decide +kernel
theorem dX3_find_70 : decode cX3_find 70 = .ok (.iaload, 1) := by decide +kernel
theorem dX3_find_71 : decode cX3_find 71 = .ok (.iadd, 1) := by decide +kernel
theorem dX3_find_72 : decode cX3_find 72 = .ok (.istore 8, 2) := by decide +kernel
theorem dX3_find_74 : decode cX3_find 74 = .ok (.iload 8, 2) := by decide +kernel
theorem dX3_find_76 : decode cX3_find 76 = .ok (.aload_n 0, 1) := by decide +kernel
theorem dX3_find_77 : decode cX3_find 77 = .ok (.getfield 22, 3) := by decide +kernel
theorem dX3_find_80 : decode cX3_find 80 = .ok (.if_icmp .ge 15, 3) := by decide +kernel
theorem dX3_find_83 : decode cX3_find 83 = .ok (.aload_n 0, 1) := by decide +kernel
theorem dX3_find_84 : decode cX3_find 84 = .ok (.iload 8, 2) := by decide +kernel
theorem dX3_find_86 : decode cX3_find 86 = .ok (.putfield 22, 3) := by decide +kernel
theorem dX3_find_89 : decode cX3_find 89 = .ok (.aload_n 0, 1) := by decide +kernel
theorem dX3_find_90 : decode cX3_find 90 = .ok (.iload 7, 2) := by decide +kernel
theorem dX3_find_92 : decode cX3_find 92 = .ok (.putfield 26, 3) := by decide +kernel
theorem dX3_find_95 : decode cX3_find 95 = .ok (.iinc 7 (-1), 3) := by decide +kernel
theorem dX3_find_98 : decode cX3_find 98 = .ok (.goto (-52), 3) := by decide +kernel
theorem dX3_find_101 : decode cX3_find 101 = .ok (.aload_n 0, 1) := by decide +kernel
theorem dX3_find_102 : decode cX3_find 102 = .ok (.iload 5, 2) := by decide +kernel
theorem dX3_find_104 : decode cX3_find 104 = .ok (.aload_n 0, 1) := by decide +kernel
theorem dX3_find_105 : decode cX3_find 105 = .ok (.getfield 26, 3) := by decide +kernel
theorem dX3_find_108 : decode cX3_find 108 = .ok (.isub, 1) := by decide +kernel
theorem dX3_find_109 : decode cX3_find 109 = .ok (.putfield 35, 3) := by decide +kernel
theorem dX3_find_112 : decode cX3_find 112 = .ok (.aload_n 0, 1) := by decide +kernel
theorem dX3_find_113 : decode cX3_find 113 = .ok (.iload 6, 2) := by decide +kernel
theorem dX3_find_115 : decode cX3_find 115 = .ok (.aload_n 0, 1) := by decide +kernel
theorem dX3_find_116 : decode cX3_find 116 = .ok (.getfield 26, 3) := by decide +kernel
theorem dX3_find_119 : decode cX3_find 119 = .ok (.isub, 1) := by decide +kernel
theorem dX3_find_120 : decode cX3_find 120 = .ok (.putfield 38, 3) := by decide +kernel
theorem dX3_find_123 : decode cX3_find 123 = .ok (.return_, 1) := by decide +kernel
theorem dX3_firstSays_0 : decode cX3_firstSays 0 = .ok (.aload_n 1, 1) := by decide +kernel
theorem dX3_firstSays_1 : decode cX3_firstSays 1 = .ok (.aload_n 2, 1) := by decide +kernel
theorem dX3_firstSays_2 : decode cX3_firstSays 2 = .ok (.iload_n 3, 1) := by decide +kernel
theorem dX3_firstSays_3 : decode cX3_firstSays 3 = .ok (.aload_n 0, 1) := by decide +kernel
theorem dX3_firstSays_4 : decode cX3_firstSays 4 = .ok (.getfield 35, 3) := by decide +kernel
theorem dX3_firstSays_7 : decode cX3_firstSays 7 = .ok (.aload_n 0, 1) := by decide +kernel
theorem dX3_firstSays_8 : decode cX3_firstSays 8 = .ok (.getfield 9, 3) := by decide +kernel
theorem dX3_firstSays_11 : decode cX3_firstSays 11 = .ok (.aload_n 0, 1) := by decide +kernel
theorem dX3_firstSays_12 : decode cX3_firstSays 12 = .ok (.getfield 35, 3) := by decide +kernel
theorem dX3_firstSays_15 : decode cX3_firstSays 15 = .ok (.iaload, 1) := by decide +kernel
theorem dX3_firstSays_16 : decode cX3_firstSays 16 = .ok (.invokestatic 41, 3) := by decide +kernel
theorem dX3_firstSays_19 : decode cX3_firstSays 19 = .ok (.istore 5, 2) := by decide +kernel
theorem dX3_firstSays_21 : decode cX3_firstSays 21 = .ok (.iload 5, 2) := by decide +kernel
theorem dX3_firstSays_23 : decode cX3_firstSays 23 = .ok (.iload 4, 2) := by decide +kernel
theorem dX3_firstSays_25 : decode cX3_firstSays 25 = .ok (.invokestatic 45, 3) := by decide +kernel
theorem dX3_firstSays_28 : decode cX3_firstSays 28 = .ok (.ireturn, 1) := by decide +kernel
theorem dX3_secondSays_0 : decode cX3_secondSays 0 = .ok (.aload_n 1, 1) := by decide +kernel
theorem dX3_secondSays_1 : decode cX3_secondSays 1 = .ok (.aload_n 2, 1) := by decide +kernel
theorem dX3_secondSays_2 : decode cX3_secondSays 2 = .ok (.iload_n 3, 1) := by decide +kernel
theorem dX3_secondSays_3 : decode cX3_secondSays 3 = .ok (.aload_n 0, 1) := by decide +kernel
theorem dX3_secondSays_4 : decode cX3_secondSays 4 = .ok (.getfield 38, 3) := by decide +kernel
theorem dX3_secondSays_7 : decode cX3_secondSays 7 = .ok (.aload_n 0, 1) := by decide +kernel
theorem dX3_secondSays_8 : decode cX3_secondSays 8 = .ok (.getfield 15, 3) := by decide +kernel
theorem dX3_secondSays_11 : decode cX3_secondSays 11 = .ok (.aload_n 0, 1) := by decide +kernel
theorem dX3_secondSays_12 : decode cX3_secondSays 12 = .ok (.getfield 38, 3) := by decide +kernel
theorem dX3_secondSays_15 : decode cX3_secondSays 15 = .ok (.iaload, 1) := by decide +kernel
theorem dX3_secondSays_16 : decode cX3_secondSays 16 = .ok (.invokestatic 41, 3) := by decide +kernel
theorem dX3_secondSays_19 : decode cX3_secondSays 19 = .ok (.istore 5, 2) := by decide +kernel
theorem dX3_secondSays_21 : decode cX3_secondSays 21 = .ok (.iload 5, 2) := by decide +kernel
theorem dX3_secondSays_23 : decode cX3_secondSays 23 = .ok (.iload 4, 2) := by decide +kernel
theorem dX3_secondSays_25 : decode cX3_secondSays 25 = .ok (.invokestatic 45, 3) := by decide +kernel
theorem dX3_secondSays_28 : decode cX3_secondSays 28 = .ok (.ireturn, 1) := by decide +kernel
theorem dX3_countFewest_0 : decode cX3_countFewest 0 = .ok (.aload_n 0, 1) := by decide +kernel
theorem dX3_countFewest_1 : decode cX3_countFewest 1 = .ok (.sipush 1000, 3) := by decide +kernel
theorem dX3_countFewest_4 : decode cX3_countFewest 4 = .ok (.invokestatic 48, 3) := by decide +kernel
theorem dX3_countFewest_7 : decode cX3_countFewest 7 = .ok (.aload_n 0, 1) := by decide +kernel
theorem dX3_countFewest_8 : decode cX3_countFewest 8 = .ok (.iconst 0, 1) := by decide +kernel
theorem dX3_countFewest_9 : decode cX3_countFewest 9 = .ok (.iconst 0, 1) := by decide +kernel
theorem dX3_countFewest_10 : decode cX3_countFewest 10 = .ok (.iastore, 1) := by decide +kernel
theorem dX3_countFewest_11 : decode cX3_countFewest 11 = .ok (.iconst 0, 1) := by decide +kernel
theorem dX3_countFewest_12 : decode cX3_countFewest 12 = .ok (.istore 4, 2) := by decide +kernel
theorem dX3_countFewest_14 : decode cX3_countFewest 14 = .ok (.iconst 0, 1) := by decide +kernel
theorem dX3_countFewest_15 : decode cX3_countFewest 15 = .ok (.istore 5, 2) := by decide +kernel
theorem dX3_countFewest_17 : decode cX3_countFewest 17 = .ok (.iload 5, 2) := by decide +kernel
theorem dX3_countFewest_19 : decode cX3_countFewest 19 = .ok (.iconst 4, 1) := by decide +kernel
theorem dX3_countFewest_20 : decode cX3_countFewest 20 = .ok (.if_icmp .ge 86, 3) := by decide +kernel
theorem dX3_countFewest_23 : decode cX3_countFewest 23 = .ok (.aload_n 2, 1) := by decide +kernel
theorem dX3_countFewest_24 : decode cX3_countFewest 24 = .ok (.iload_n 3, 1) := by decide +kernel
theorem dX3_countFewest_25 : decode cX3_countFewest 25 = .ok (.iconst 4, 1) := by decide +kernel
theorem dX3_countFewest_26 : decode cX3_countFewest 26 = .ok (.imul, 1) := by decide +kernel
theorem dX3_countFewest_27 : decode cX3_countFewest 27 = .ok (.iload 5, 2) := by decide +kernel
theorem dX3_countFewest_29 : decode cX3_countFewest 29 = .ok (.iadd, 1) := by decide +kernel
theorem dX3_countFewest_30 : decode cX3_countFewest 30 = .ok (.iaload, 1) := by decide +kernel
theorem dX3_countFewest_31 : decode cX3_countFewest 31 = .ok (.istore 6, 2) := by decide +kernel
theorem dX3_countFewest_33 : decode cX3_countFewest 33 = .ok (.iconst 1, 1) := by decide +kernel
theorem dX3_countFewest_34 : decode cX3_countFewest 34 = .ok (.istore 7, 2) := by decide +kernel
theorem dX3_countFewest_36 : decode cX3_countFewest 36 = .ok (.iload 6, 2) := by decide +kernel
theorem dX3_countFewest_38 : decode cX3_countFewest 38 = .ok (.ifCond .le 62, 3) := by decide +kernel
theorem dX3_countFewest_41 : decode cX3_countFewest 41 = .ok (.iload 7, 2) := by decide +kernel
theorem dX3_countFewest_43 : decode cX3_countFewest 43 = .ok (.bipush 9, 2) := by decide +kernel
theorem dX3_countFewest_45 : decode cX3_countFewest 45 = .ok (.if_icmp .gt 55, 3) := by decide +kernel
theorem dX3_countFewest_48 : decode cX3_countFewest 48 = .ok (.iload 7, 2) := by decide +kernel
theorem dX3_countFewest_50 : decode cX3_countFewest 50 = .ok (.iload 6, 2) := by decide +kernel
theorem dX3_countFewest_52 : decode cX3_countFewest 52 = .ok (.invokestatic 29, 3) := by decide +kernel
theorem dX3_countFewest_55 : decode cX3_countFewest 55 = .ok (.istore 8, 2) := by decide +kernel
theorem dX3_countFewest_57 : decode cX3_countFewest 57 = .ok (.iload 4, 2) := by decide +kernel
theorem dX3_countFewest_59 : decode cX3_countFewest 59 = .ok (.iload 8, 2) := by decide +kernel
theorem dX3_countFewest_61 : decode cX3_countFewest 61 = .ok (.aload_n 1, 1) := by decide +kernel
theorem dX3_countFewest_62 : decode cX3_countFewest 62 = .ok (.iload 5, 2) := by decide +kernel
theorem dX3_countFewest_64 : decode cX3_countFewest 64 = .ok (.iaload, 1) := by decide +kernel
theorem dX3_countFewest_65 : decode cX3_countFewest 65 = .ok (.imul, 1) := by decide +kernel
theorem dX3_countFewest_66 : decode cX3_countFewest 66 = .ok (.iadd, 1) := by decide +kernel
theorem dX3_countFewest_67 : decode cX3_countFewest 67 = .ok (.istore 4, 2) := by decide +kernel
theorem dX3_countFewest_69 : decode cX3_countFewest 69 = .ok (.aload_n 0, 1) := by decide +kernel
theorem dX3_countFewest_70 : decode cX3_countFewest 70 = .ok (.iload 4, 2) := by decide +kernel
theorem dX3_countFewest_72 : decode cX3_countFewest 72 = .ok (.iload 8, 2) := by decide +kernel
theorem dX3_countFewest_74 : decode cX3_countFewest 74 = .ok (.aload_n 1, 1) := by decide +kernel
theorem dX3_countFewest_75 : decode cX3_countFewest 75 = .ok (.iload 5, 2) := by decide +kernel
theorem dX3_countFewest_77 : decode cX3_countFewest 77 = .ok (.iaload, 1) := by decide +kernel
theorem dX3_countFewest_78 : decode cX3_countFewest 78 = .ok (.imul, 1) := by decide +kernel
theorem dX3_countFewest_79 : decode cX3_countFewest 79 = .ok (.iload 8, 2) := by decide +kernel
theorem dX3_countFewest_81 : decode cX3_countFewest 81 = .ok (.invokestatic 54, 3) := by decide +kernel
theorem dX3_countFewest_84 : decode cX3_countFewest 84 = .ok (.iload 6, 2) := by decide +kernel
theorem dX3_countFewest_86 : decode cX3_countFewest 86 = .ok (.iload 8, 2) := by decide +kernel
theorem dX3_countFewest_88 : decode cX3_countFewest 88 = .ok (.isub, 1) := by decide +kernel
theorem dX3_countFewest_89 : decode cX3_countFewest 89 = .ok (.istore 6, 2) := by decide +kernel
theorem dX3_countFewest_91 : decode cX3_countFewest 91 = .ok (.iload 7, 2) := by decide +kernel
theorem dX3_countFewest_93 : decode cX3_countFewest 93 = .ok (.iconst 2, 1) := by decide +kernel
theorem dX3_countFewest_94 : decode cX3_countFewest 94 = .ok (.imul, 1) := by decide +kernel
theorem dX3_countFewest_95 : decode cX3_countFewest 95 = .ok (.istore 7, 2) := by decide +kernel
theorem dX3_countFewest_97 : decode cX3_countFewest 97 = .ok (.goto (-61), 3) := by decide +kernel
theorem dX3_countFewest_100 : decode cX3_countFewest 100 = .ok (.iinc 5 1, 3) := by decide +kernel
theorem dX3_countFewest_103 : decode cX3_countFewest 103 = .ok (.goto (-86), 3) := by decide +kernel
theorem dX3_countFewest_106 : decode cX3_countFewest 106 = .ok (.iload 4, 2) := by decide +kernel
theorem dX3_countFewest_108 : decode cX3_countFewest 108 = .ok (.ireturn, 1) := by decide +kernel
theorem dX3_offerBundle_0 : decode cX3_offerBundle 0 = .ok (.iload_n 1, 1) := by decide +kernel
theorem dX3_offerBundle_1 : decode cX3_offerBundle 1 = .ok (.istore 4, 2) := by decide +kernel
theorem dX3_offerBundle_3 : decode cX3_offerBundle 3 = .ok (.iload 4, 2) := by decide +kernel
theorem dX3_offerBundle_5 : decode cX3_offerBundle 5 = .ok (.iload_n 2, 1) := by decide +kernel
theorem dX3_offerBundle_6 : decode cX3_offerBundle 6 = .ok (.if_icmp .lt 34, 3) := by decide +kernel
theorem dX3_offerBundle_9 : decode cX3_offerBundle 9 = .ok (.aload_n 0, 1) := by decide +kernel
theorem dX3_offerBundle_10 : decode cX3_offerBundle 10 = .ok (.iload 4, 2) := by decide +kernel
theorem dX3_offerBundle_12 : decode cX3_offerBundle 12 = .ok (.iload_n 2, 1) := by decide +kernel
theorem dX3_offerBundle_13 : decode cX3_offerBundle 13 = .ok (.isub, 1) := by decide +kernel
theorem dX3_offerBundle_14 : decode cX3_offerBundle 14 = .ok (.iaload, 1) := by decide +kernel
theorem dX3_offerBundle_15 : decode cX3_offerBundle 15 = .ok (.iload_n 3, 1) := by decide +kernel
theorem dX3_offerBundle_16 : decode cX3_offerBundle 16 = .ok (.iadd, 1) := by decide +kernel
theorem dX3_offerBundle_17 : decode cX3_offerBundle 17 = .ok (.istore 5, 2) := by decide +kernel
theorem dX3_offerBundle_19 : decode cX3_offerBundle 19 = .ok (.iload 5, 2) := by decide +kernel
theorem dX3_offerBundle_21 : decode cX3_offerBundle 21 = .ok (.aload_n 0, 1) := by decide +kernel
theorem dX3_offerBundle_22 : decode cX3_offerBundle 22 = .ok (.iload 4, 2) := by decide +kernel
theorem dX3_offerBundle_24 : decode cX3_offerBundle 24 = .ok (.iaload, 1) := by decide +kernel
theorem dX3_offerBundle_25 : decode cX3_offerBundle 25 = .ok (.if_icmp .ge 9, 3) := by decide +kernel
theorem dX3_offerBundle_28 : decode cX3_offerBundle 28 = .ok (.aload_n 0, 1) := by decide +kernel
theorem dX3_offerBundle_29 : decode cX3_offerBundle 29 = .ok (.iload 4, 2) := by decide +kernel
theorem dX3_offerBundle_31 : decode cX3_offerBundle 31 = .ok (.iload 5, 2) := by decide +kernel
theorem dX3_offerBundle_33 : decode cX3_offerBundle 33 = .ok (.iastore, 1) := by decide +kernel
theorem dX3_offerBundle_34 : decode cX3_offerBundle 34 = .ok (.iinc 4 (-1), 3) := by decide +kernel
theorem dX3_offerBundle_37 : decode cX3_offerBundle 37 = .ok (.goto (-34), 3) := by decide +kernel
theorem dX3_offerBundle_40 : decode cX3_offerBundle 40 = .ok (.return_, 1) := by decide +kernel
theorem dX3_firstWay_0 : decode cX3_firstWay 0 = .ok (.iload_n 2, 1) := by decide +kernel
theorem dX3_firstWay_1 : decode cX3_firstWay 1 = .ok (.iconst 4, 1) := by decide +kernel
theorem dX3_firstWay_2 : decode cX3_firstWay 2 = .ok (.imul, 1) := by decide +kernel
theorem dX3_firstWay_3 : decode cX3_firstWay 3 = .ok (.istore 5, 2) := by decide +kernel
theorem dX3_firstWay_5 : decode cX3_firstWay 5 = .ok (.iconst 0, 1) := by decide +kernel
theorem dX3_firstWay_6 : decode cX3_firstWay 6 = .ok (.istore 6, 2) := by decide +kernel
theorem dX3_firstWay_8 : decode cX3_firstWay 8 = .ok (.iload 6, 2) := by decide +kernel
theorem dX3_firstWay_10 : decode cX3_firstWay 10 = .ok (.aload_n 1, 1) := by decide +kernel
theorem dX3_firstWay_11 : decode cX3_firstWay 11 = .ok (.iload 5, 2) := by decide +kernel
theorem dX3_firstWay_13 : decode cX3_firstWay 13 = .ok (.iaload, 1) := by decide +kernel
theorem dX3_firstWay_14 : decode cX3_firstWay 14 = .ok (.if_icmp .gt 134, 3) := by decide +kernel
theorem dX3_firstWay_17 : decode cX3_firstWay 17 = .ok (.iconst 0, 1) := by decide +kernel
theorem dX3_firstWay_18 : decode cX3_firstWay 18 = .ok (.istore 7, 2) := by decide +kernel
theorem dX3_firstWay_20 : decode cX3_firstWay 20 = .ok (.iload 7, 2) := by decide +kernel
theorem dX3_firstWay_22 : decode cX3_firstWay 22 = .ok (.aload_n 1, 1) := by decide +kernel
theorem dX3_firstWay_23 : decode cX3_firstWay 23 = .ok (.iload 5, 2) := by decide +kernel
theorem dX3_firstWay_25 : decode cX3_firstWay 25 = .ok (.iconst 1, 1) := by decide +kernel
theorem dX3_firstWay_26 : decode cX3_firstWay 26 = .ok (.iadd, 1) := by decide +kernel
theorem dX3_firstWay_27 : decode cX3_firstWay 27 = .ok (.iaload, 1) := by decide +kernel
theorem dX3_firstWay_28 : decode cX3_firstWay 28 = .ok (.if_icmp .gt 114, 3) := by decide +kernel
theorem dX3_firstWay_31 : decode cX3_firstWay 31 = .ok (.iconst 0, 1) := by decide +kernel
theorem dX3_firstWay_32 : decode cX3_firstWay 32 = .ok (.istore 8, 2) := by decide +kernel
theorem dX3_firstWay_34 : decode cX3_firstWay 34 = .ok (.iload 8, 2) := by decide +kernel
theorem dX3_firstWay_36 : decode cX3_firstWay 36 = .ok (.aload_n 1, 1) := by decide +kernel
theorem dX3_firstWay_37 : decode cX3_firstWay 37 = .ok (.iload 5, 2) := by decide +kernel
theorem dX3_firstWay_39 : decode cX3_firstWay 39 = .ok (.iconst 2, 1) := by decide +kernel
theorem dX3_firstWay_40 : decode cX3_firstWay 40 = .ok (.iadd, 1) := by decide +kernel
theorem dX3_firstWay_41 : decode cX3_firstWay 41 = .ok (.iaload, 1) := by decide +kernel
theorem dX3_firstWay_42 : decode cX3_firstWay 42 = .ok (.if_icmp .gt 94, 3) := by decide +kernel
theorem dX3_firstWay_45 : decode cX3_firstWay 45 = .ok (.iload 4, 2) := by decide +kernel
theorem dX3_firstWay_47 : decode cX3_firstWay 47 = .ok (.iload 6, 2) := by decide +kernel
theorem dX3_firstWay_49 : decode cX3_firstWay 49 = .ok (.isub, 1) := by decide +kernel
theorem dX3_firstWay_50 : decode cX3_firstWay 50 = .ok (.iload 7, 2) := by decide +kernel
theorem dX3_firstWay_52 : decode cX3_firstWay 52 = .ok (.isub, 1) := by decide +kernel
theorem dX3_firstWay_53 : decode cX3_firstWay 53 = .ok (.iload 8, 2) := by decide +kernel
theorem dX3_firstWay_55 : decode cX3_firstWay 55 = .ok (.isub, 1) := by decide +kernel
theorem dX3_firstWay_56 : decode cX3_firstWay 56 = .ok (.istore 9, 2) := by decide +kernel
theorem dX3_firstWay_58 : decode cX3_firstWay 58 = .ok (.iload 6, 2) := by decide +kernel
theorem dX3_firstWay_60 : decode cX3_firstWay 60 = .ok (.aload_n 0, 1) := by decide +kernel
theorem dX3_firstWay_61 : decode cX3_firstWay 61 = .ok (.iconst 0, 1) := by decide +kernel
theorem dX3_firstWay_62 : decode cX3_firstWay 62 = .ok (.iaload, 1) := by decide +kernel
theorem dX3_firstWay_63 : decode cX3_firstWay 63 = .ok (.imul, 1) := by decide +kernel
theorem dX3_firstWay_64 : decode cX3_firstWay 64 = .ok (.iload 7, 2) := by decide +kernel
theorem dX3_firstWay_66 : decode cX3_firstWay 66 = .ok (.aload_n 0, 1) := by decide +kernel
theorem dX3_firstWay_67 : decode cX3_firstWay 67 = .ok (.iconst 1, 1) := by decide +kernel
theorem dX3_firstWay_68 : decode cX3_firstWay 68 = .ok (.iaload, 1) := by decide +kernel
theorem dX3_firstWay_69 : decode cX3_firstWay 69 = .ok (.imul, 1) := by decide +kernel
theorem dX3_firstWay_70 : decode cX3_firstWay 70 = .ok (.iadd, 1) := by decide +kernel
theorem dX3_firstWay_71 : decode cX3_firstWay 71 = .ok (.iload 8, 2) := by decide +kernel
theorem dX3_firstWay_73 : decode cX3_firstWay 73 = .ok (.aload_n 0, 1) := by decide +kernel
theorem dX3_firstWay_74 : decode cX3_firstWay 74 = .ok (.iconst 2, 1) := by decide +kernel
theorem dX3_firstWay_75 : decode cX3_firstWay 75 = .ok (.iaload, 1) := by decide +kernel
theorem dX3_firstWay_76 : decode cX3_firstWay 76 = .ok (.imul, 1) := by decide +kernel
theorem dX3_firstWay_77 : decode cX3_firstWay 77 = .ok (.iadd, 1) := by decide +kernel
theorem dX3_firstWay_78 : decode cX3_firstWay 78 = .ok (.iload 9, 2) := by decide +kernel
theorem dX3_firstWay_80 : decode cX3_firstWay 80 = .ok (.aload_n 0, 1) := by decide +kernel
theorem dX3_firstWay_81 : decode cX3_firstWay 81 = .ok (.iconst 3, 1) := by decide +kernel
theorem dX3_firstWay_82 : decode cX3_firstWay 82 = .ok (.iaload, 1) := by decide +kernel
theorem dX3_firstWay_83 : decode cX3_firstWay 83 = .ok (.imul, 1) := by decide +kernel
theorem dX3_firstWay_84 : decode cX3_firstWay 84 = .ok (.iadd, 1) := by decide +kernel
theorem dX3_firstWay_85 : decode cX3_firstWay 85 = .ok (.istore 10, 2) := by decide +kernel
theorem dX3_firstWay_87 : decode cX3_firstWay 87 = .ok (.iload 10, 2) := by decide +kernel
theorem dX3_firstWay_89 : decode cX3_firstWay 89 = .ok (.iload_n 3, 1) := by decide +kernel
theorem dX3_firstWay_90 : decode cX3_firstWay 90 = .ok (.if_icmp .ne 40, 3) := by decide +kernel
theorem dX3_firstWay_93 : decode cX3_firstWay 93 = .ok (.iload 9, 2) := by decide +kernel
theorem dX3_firstWay_95 : decode cX3_firstWay 95 = .ok (.iconst 0, 1) := by decide +kernel
theorem dX3_firstWay_96 : decode cX3_firstWay 96 = .ok (.aload_n 1, 1) := by decide +kernel
theorem dX3_firstWay_97 : decode cX3_firstWay 97 = .ok (.iload 5, 2) := by decide +kernel
theorem dX3_firstWay_99 : decode cX3_firstWay 99 = .ok (.iconst 3, 1) := by decide +kernel
theorem dX3_firstWay_100 : decode cX3_firstWay 100 = .ok (.iadd, 1) := by decide +kernel
theorem dX3_firstWay_101 : decode cX3_firstWay 101 = .ok (.iaload, 1) := by decide +kernel
theorem dX3_firstWay_102 : decode cX3_firstWay 102 = .ok (.invokestatic 58, 3) := by decide +kernel
theorem dX3_firstWay_105 : decode cX3_firstWay 105 = .ok (.ifCond .eq 25, 3) := by decide +kernel
theorem dX3_firstWay_108 : decode cX3_firstWay 108 = .ok (.iload 6, 2) := by decide +kernel
theorem dX3_firstWay_110 : decode cX3_firstWay 110 = .ok (.sipush 1000, 3) := by decide +kernel
theorem dX3_firstWay_113 : decode cX3_firstWay 113 = .ok (.imul, 1) := by decide +kernel
theorem dX3_firstWay_114 : decode cX3_firstWay 114 = .ok (.iload 7, 2) := by decide +kernel
theorem dX3_firstWay_116 : decode cX3_firstWay 116 = .ok (.bipush 100, 2) := by decide +kernel
theorem dX3_firstWay_118 : decode cX3_firstWay 118 = .ok (.imul, 1) := by decide +kernel
theorem dX3_firstWay_119 : decode cX3_firstWay 119 = .ok (.iadd, 1) := by decide +kernel
theorem dX3_firstWay_120 : decode cX3_firstWay 120 = .ok (.iload 8, 2) := by decide +kernel
theorem dX3_firstWay_122 : decode cX3_firstWay 122 = .ok (.bipush 10, 2) := by decide +kernel
theorem dX3_firstWay_124 : decode cX3_firstWay 124 = .ok (.imul, 1) := by decide +kernel
theorem dX3_firstWay_125 : decode cX3_firstWay 125 = .ok (.iadd, 1) := by decide +kernel
theorem dX3_firstWay_126 : decode cX3_firstWay 126 = .ok (.iload 9, 2) := by decide +kernel
theorem dX3_firstWay_128 : decode cX3_firstWay 128 = .ok (.iadd, 1) := by decide +kernel
theorem dX3_firstWay_129 : decode cX3_firstWay 129 = .ok (.ireturn, 1) := by decide +kernel
theorem dX3_firstWay_130 : decode cX3_firstWay 130 = .ok (.iinc 8 1, 3) := by decide +kernel
theorem dX3_firstWay_133 : decode cX3_firstWay 133 = .ok (.goto (-99), 3) := by decide +kernel
theorem dX3_firstWay_136 : decode cX3_firstWay 136 = .ok (.iinc 7 1, 3) := by decide +kernel
theorem dX3_firstWay_139 : decode cX3_firstWay 139 = .ok (.goto (-119), 3) := by decide +kernel
theorem dX3_firstWay_142 : decode cX3_firstWay 142 = .ok (.iinc 6 1, 3) := by decide +kernel
theorem dX3_firstWay_145 : decode cX3_firstWay 145 = .ok (.goto (-137), 3) := by decide +kernel
theorem dX3_firstWay_148 : decode cX3_firstWay 148 = .ok (.iconst 0, 1) := by decide +kernel
theorem dX3_firstWay_149 : decode cX3_firstWay 149 = .ok (.ireturn, 1) := by decide +kernel
theorem dX3_figureOf_0 : decode cX3_figureOf 0 = .ok (.iload_n 0, 1) := by decide +kernel
theorem dX3_figureOf_1 : decode cX3_figureOf 1 = .ok (.istore_n 2, 1) := by decide +kernel
theorem dX3_figureOf_2 : decode cX3_figureOf 2 = .ok (.iconst 3, 1) := by decide +kernel
theorem dX3_figureOf_3 : decode cX3_figureOf 3 = .ok (.istore_n 3, 1) := by decide +kernel
theorem dX3_figureOf_4 : decode cX3_figureOf 4 = .ok (.iload_n 3, 1) := by decide +kernel
theorem dX3_figureOf_5 : decode cX3_figureOf 5 = .ok (.iload_n 1, 1) := by decide +kernel
theorem dX3_figureOf_6 : decode cX3_figureOf 6 = .ok (.if_icmp .le 14, 3) := by decide +kernel
theorem dX3_figureOf_9 : decode cX3_figureOf 9 = .ok (.iload_n 2, 1) := by decide +kernel
theorem dX3_figureOf_10 : decode cX3_figureOf 10 = .ok (.bipush 10, 2) := by decide +kernel
theorem dX3_figureOf_12 : decode cX3_figureOf 12 = .ok (.idiv, 1) := by decide +kernel
theorem dX3_figureOf_13 : decode cX3_figureOf 13 = .ok (.istore_n 2, 1) := by decide +kernel
theorem dX3_figureOf_14 : decode cX3_figureOf 14 = .ok (.iinc 3 (-1), 3) := by decide +kernel
theorem dX3_figureOf_17 : decode cX3_figureOf 17 = .ok (.goto (-13), 3) := by decide +kernel
theorem dX3_figureOf_20 : decode cX3_figureOf 20 = .ok (.iload_n 2, 1) := by decide +kernel
theorem dX3_figureOf_21 : decode cX3_figureOf 21 = .ok (.bipush 10, 2) := by decide +kernel
theorem dX3_figureOf_23 : decode cX3_figureOf 23 = .ok (.irem, 1) := by decide +kernel
theorem dX3_figureOf_24 : decode cX3_figureOf 24 = .ok (.ireturn, 1) := by decide +kernel
theorem dX4_init_0 : decode cX4_init 0 = .ok (.aload_n 0, 1) := by decide +kernel
theorem dX4_init_1 : decode cX4_init 1 = .ok (.invokespecial 3, 3) := by decide +kernel
theorem dX4_init_4 : decode cX4_init 4 = .ok (.aload_n 0, 1) := by decide +kernel
theorem dX4_init_5 : decode cX4_init 5 = .ok (.bipush 16, 2) := by decide +kernel
theorem dX4_init_7 : decode cX4_init 7 = .ok (.newarray .int, 2) := by decide +kernel
theorem dX4_init_9 : decode cX4_init 9 = .ok (.putfield 9, 3) := by decide +kernel
theorem dX4_init_12 : decode cX4_init 12 = .ok (.return_, 1) := by decide +kernel
theorem dX4_begin_0 : decode cX4_begin 0 = .ok (.aload_n 1, 1) := by decide +kernel
theorem dX4_begin_1 : decode cX4_begin 1 = .ok (.getfield 15, 3) := by decide +kernel
theorem dX4_begin_4 : decode cX4_begin 4 = .ok (.iconst 0, 1) := by decide +kernel
theorem dX4_begin_5 : decode cX4_begin 5 = .ok (.aload_n 0, 1) := by decide +kernel
theorem dX4_begin_6 : decode cX4_begin 6 = .ok (.getfield 9, 3) := by decide +kernel
theorem dX4_begin_9 : decode cX4_begin 9 = .ok (.iconst 0, 1) := by decide +kernel
theorem dX4_begin_10 : decode cX4_begin 10 = .ok (.aload_n 0, 1) := by decide +kernel
theorem dX4_begin_11 : decode cX4_begin 11 = .ok (.getfield 9, 3) := by decide +kernel
theorem dX4_begin_14 : decode cX4_begin 14 = .ok (.arraylength, 1) := by decide +kernel
theorem dX4_begin_15 : decode cX4_begin 15 = .ok (.invokestatic 20, 3) := by decide +kernel
theorem dX4_begin_18 : decode cX4_begin 18 = .ok (.aload_n 0, 1) := by decide +kernel
theorem dX4_begin_19 : decode cX4_begin 19 = .ok (.iconst 0, 1) := by decide +kernel
theorem dX4_begin_20 : decode cX4_begin 20 = .ok (.putfield 26, 3) := by decide +kernel
theorem dX4_begin_23 : decode cX4_begin 23 = .ok (.aload_n 0, 1) := by decide +kernel
theorem dX4_begin_24 : decode cX4_begin 24 = .ok (.iconst 0, 1) := by decide +kernel
theorem dX4_begin_25 : decode cX4_begin 25 = .ok (.putfield 30, 3) := by decide +kernel
theorem dX4_begin_28 : decode cX4_begin 28 = .ok (.return_, 1) := by decide +kernel
theorem dX4_copyFrom_0 : decode cX4_copyFrom 0 = .ok (.aload_n 1, 1) := by decide +kernel
theorem dX4_copyFrom_1 : decode cX4_copyFrom 1 = .ok (.getfield 9, 3) := by decide +kernel
theorem dX4_copyFrom_4 : decode cX4_copyFrom 4 = .ok (.iconst 0, 1) := by decide +kernel
theorem dX4_copyFrom_5 : decode cX4_copyFrom 5 = .ok (.aload_n 0, 1) := by decide +kernel
theorem dX4_copyFrom_6 : decode cX4_copyFrom 6 = .ok (.getfield 9, 3) := by decide +kernel
theorem dX4_copyFrom_9 : decode cX4_copyFrom 9 = .ok (.iconst 0, 1) := by decide +kernel
theorem dX4_copyFrom_10 : decode cX4_copyFrom 10 = .ok (.aload_n 0, 1) := by decide +kernel
theorem dX4_copyFrom_11 : decode cX4_copyFrom 11 = .ok (.getfield 9, 3) := by decide +kernel
theorem dX4_copyFrom_14 : decode cX4_copyFrom 14 = .ok (.arraylength, 1) := by decide +kernel
theorem dX4_copyFrom_15 : decode cX4_copyFrom 15 = .ok (.invokestatic 20, 3) := by decide +kernel
theorem dX4_copyFrom_18 : decode cX4_copyFrom 18 = .ok (.aload_n 0, 1) := by decide +kernel
theorem dX4_copyFrom_19 : decode cX4_copyFrom 19 = .ok (.aload_n 1, 1) := by decide +kernel
theorem dX4_copyFrom_20 : decode cX4_copyFrom 20 = .ok (.getfield 26, 3) := by decide +kernel
theorem dX4_copyFrom_23 : decode cX4_copyFrom 23 = .ok (.putfield 26, 3) := by decide +kernel
theorem dX4_copyFrom_26 : decode cX4_copyFrom 26 = .ok (.aload_n 0, 1) := by decide +kernel
theorem dX4_copyFrom_27 : decode cX4_copyFrom 27 = .ok (.aload_n 1, 1) := by decide +kernel
theorem dX4_copyFrom_28 : decode cX4_copyFrom 28 = .ok (.getfield 30, 3) := by decide +kernel
theorem dX4_copyFrom_31 : decode cX4_copyFrom 31 = .ok (.putfield 30, 3) := by decide +kernel
theorem dX4_copyFrom_34 : decode cX4_copyFrom 34 = .ok (.return_, 1) := by decide +kernel
theorem dX4_add_0 : decode cX4_add 0 = .ok (.aload_n 0, 1) := by decide +kernel
theorem dX4_add_1 : decode cX4_add 1 = .ok (.getfield 9, 3) := by decide +kernel
theorem dX4_add_4 : decode cX4_add 4 = .ok (.iload_n 1, 1) := by decide +kernel
theorem dX4_add_5 : decode cX4_add 5 = .ok (.bipush 9, 2) := by decide +kernel
theorem dX4_add_7 : decode cX4_add 7 = .ok (.aload_n 0, 1) := by decide +kernel
theorem dX4_add_8 : decode cX4_add 8 = .ok (.getfield 9, 3) := by decide +kernel
theorem dX4_add_11 : decode cX4_add 11 = .ok (.iload_n 1, 1) := by decide +kernel
theorem dX4_add_12 : decode cX4_add 12 = .ok (.iaload, 1) := by decide +kernel
theorem dX4_add_13 : decode cX4_add 13 = .ok (.iload_n 2, 1) := by decide +kernel
theorem dX4_add_14 : decode cX4_add 14 = .ok (.iadd, 1) := by decide +kernel
theorem dX4_add_15 : decode cX4_add 15 = .ok (.invokestatic 33, 3) := by decide +kernel
theorem dX4_add_18 : decode cX4_add 18 = .ok (.iastore, 1) := by decide +kernel
theorem dX4_add_19 : decode cX4_add 19 = .ok (.return_, 1) := by decide +kernel
theorem dX5_init_0 : decode cX5_init 0 = .ok (.aload_n 0, 1) := by decide +kernel
theorem dX5_init_1 : decode cX5_init 1 = .ok (.invokespecial 3, 3) := by decide +kernel
theorem dX5_init_4 : decode cX5_init 4 = .ok (.aload_n 0, 1) := by decide +kernel
theorem dX5_init_5 : decode cX5_init 5 = .ok (.sipush 4096, 3) := by decide +kernel
theorem dX5_init_8 : decode cX5_init 8 = .ok (.newarray .short, 2) := by decide +kernel
theorem dX5_init_10 : decode cX5_init 10 = .ok (.putfield 9, 3) := by decide +kernel
theorem dX5_init_13 : decode cX5_init 13 = .ok (.aload_n 0, 1) := by decide +kernel
theorem dX5_init_14 : decode cX5_init 14 = .ok (.iconst 4, 1) := by decide +kernel
theorem dX5_init_15 : decode cX5_init 15 = .ok (.newarray .int, 2) := by decide +kernel
theorem dX5_init_17 : decode cX5_init 17 = .ok (.putfield 15, 3) := by decide +kernel
theorem dX5_init_20 : decode cX5_init 20 = .ok (.aload_n 0, 1) := by decide +kernel
theorem dX5_init_21 : decode cX5_init 21 = .ok (.iconst (-1), 1) := by decide +kernel
theorem dX5_init_22 : decode cX5_init 22 = .ok (.putfield 19, 3) := by decide +kernel
theorem dX5_init_25 : decode cX5_init 25 = .ok (.return_, 1) := by decide +kernel
theorem dX5_prepare_0 : decode cX5_prepare 0 = .ok (.aload_n 0, 1) := by decide +kernel
theorem dX5_prepare_1 : decode cX5_prepare 1 = .ok (.getfield 19, 3) := by decide +kernel
theorem dX5_prepare_4 : decode cX5_prepare 4 = .ok (.iload_n 1, 1) := by decide +kernel
theorem dX5_prepare_5 : decode cX5_prepare 5 = .ok (.if_icmp .ne 4, 3) := by decide +kernel
theorem dX5_prepare_8 : decode cX5_prepare 8 = .ok (.return_, 1) := by decide +kernel
theorem dX5_prepare_9 : decode cX5_prepare 9 = .ok (.aload_n 0, 1) := by decide +kernel
theorem dX5_prepare_10 : decode cX5_prepare 10 = .ok (.iload_n 1, 1) := by decide +kernel
theorem dX5_prepare_11 : decode cX5_prepare 11 = .ok (.putfield 19, 3) := by decide +kernel
theorem dX5_prepare_14 : decode cX5_prepare 14 = .ok (.aload_n 0, 1) := by decide +kernel
theorem dX5_prepare_15 : decode cX5_prepare 15 = .ok (.iload_n 1, 1) := by decide +kernel
theorem dX5_prepare_16 : decode cX5_prepare 16 = .ok (.iload_n 1, 1) := by decide +kernel
theorem dX5_prepare_17 : decode cX5_prepare 17 = .ok (.iconst 1, 1) := by decide +kernel
theorem dX5_prepare_18 : decode cX5_prepare 18 = .ok (.isub, 1) := by decide +kernel
theorem dX5_prepare_19 : decode cX5_prepare 19 = .ok (.imul, 1) := by decide +kernel
theorem dX5_prepare_20 : decode cX5_prepare 20 = .ok (.iconst 2, 1) := by decide +kernel
theorem dX5_prepare_21 : decode cX5_prepare 21 = .ok (.idiv, 1) := by decide +kernel
theorem dX5_prepare_22 : decode cX5_prepare 22 = .ok (.putfield 23, 3) := by decide +kernel
theorem dX5_prepare_25 : decode cX5_prepare 25 = .ok (.iconst 1, 1) := by decide +kernel
theorem dX5_prepare_26 : decode cX5_prepare 26 = .ok (.iconst 2, 1) := by decide +kernel
theorem dX5_prepare_27 : decode cX5_prepare 27 = .ok (.aload_n 0, 1) := by decide +kernel
theorem dX5_prepare_28 : decode cX5_prepare 28 = .ok (.getfield 23, 3) := by decide +kernel
theorem dX5_prepare_31 : decode cX5_prepare 31 = .ok (.imul, 1) := by decide +kernel
theorem dX5_prepare_32 : decode cX5_prepare 32 = .ok (.ishl, 1) := by decide +kernel
theorem dX5_prepare_33 : decode cX5_prepare 33 = .ok (.iconst 1, 1) := by decide +kernel
theorem dX5_prepare_34 : decode cX5_prepare 34 = .ok (.isub, 1) := by decide +kernel
theorem dX5_prepare_35 : decode cX5_prepare 35 = .ok (.istore_n 2, 1) := by decide +kernel
theorem dX5_prepare_36 : decode cX5_prepare 36 = .ok (.iload_n 2, 1) := by decide +kernel
theorem dX5_prepare_37 : decode cX5_prepare 37 = .ok (.ifCond .lt 46, 3) := by decide +kernel
theorem dX5_prepare_40 : decode cX5_prepare 40 = .ok (.aload_n 0, 1) := by decide +kernel
theorem dX5_prepare_41 : decode cX5_prepare 41 = .ok (.iload_n 2, 1) := by decide +kernel
theorem dX5_prepare_42 : decode cX5_prepare 42 = .ok (.invokevirtual 26, 3) := by decide +kernel
theorem dX5_prepare_45 : decode cX5_prepare 45 = .ok (.istore_n 3, 1) := by decide +kernel
theorem dX5_prepare_46 : decode cX5_prepare 46 = .ok (.iload_n 3, 1) := by decide +kernel
theorem dX5_prepare_47 : decode cX5_prepare 47 = .ok (.iconst 1, 1) := by decide +kernel
theorem dX5_prepare_48 : decode cX5_prepare 48 = .ok (.if_icmp .gt 7, 3) := by decide +kernel
theorem dX5_prepare_51 : decode cX5_prepare 51 = .ok (.iconst 0, 1) := by decide +kernel
theorem dX5_prepare_52 : decode cX5_prepare 52 = .ok (.goto 10, 3) := by decide +kernel
theorem dX5_prepare_55 : decode cX5_prepare 55 = .ok (.iconst 1, 1) := by decide +kernel
theorem dX5_prepare_56 : decode cX5_prepare 56 = .ok (.aload_n 0, 1) := by decide +kernel
theorem dX5_prepare_57 : decode cX5_prepare 57 = .ok (.iload_n 2, 1) := by decide +kernel
theorem dX5_prepare_58 : decode cX5_prepare 58 = .ok (.invokevirtual 30, 3) := by decide +kernel
theorem dX5_prepare_61 : decode cX5_prepare 61 = .ok (.iadd, 1) := by decide +kernel
theorem dX5_prepare_62 : decode cX5_prepare 62 = .ok (.istore 4, 2) := by decide +kernel
theorem dX5_prepare_64 : decode cX5_prepare 64 = .ok (.aload_n 0, 1) := by decide +kernel
theorem dX5_prepare_65 : decode cX5_prepare 65 = .ok (.getfield 9, 3) := by decide +kernel
theorem dX5_prepare_68 : decode cX5_prepare 68 = .ok (.iload_n 2, 1) := by decide +kernel
theorem dX5_prepare_69 : decode cX5_prepare 69 = .ok (.iload_n 3, 1) := by decide +kernel
theorem dX5_prepare_70 : decode cX5_prepare 70 = .ok (.iconst 3, 1) := by decide +kernel
theorem dX5_prepare_71 : decode cX5_prepare 71 = .ok (.ishl, 1) := by decide +kernel
theorem dX5_prepare_72 : decode cX5_prepare 72 = .ok (.iload 4, 2) := by decide +kernel
theorem dX5_prepare_74 : decode cX5_prepare 74 = .ok (.ior, 1) := by decide +kernel
theorem dX5_prepare_75 : decode cX5_prepare 75 = .ok (.i2s, 1) := by decide +kernel
theorem dX5_prepare_76 : decode cX5_prepare 76 = .ok (.sastore, 1) := by decide +kernel
theorem dX5_prepare_77 : decode cX5_prepare 77 = .ok (.iinc 2 (-1), 3) := by decide +kernel
theorem dX5_prepare_80 : decode cX5_prepare 80 = .ok (.goto (-44), 3) := by decide +kernel
theorem dX5_prepare_83 : decode cX5_prepare 83 = .ok (.return_, 1) := by decide +kernel
theorem dX5_ordersLeft_0 : decode cX5_ordersLeft 0 = .ok (.aload_n 0, 1) := by decide +kernel
theorem dX5_ordersLeft_1 : decode cX5_ordersLeft 1 = .ok (.getfield 9, 3) := by decide +kernel
theorem dX5_ordersLeft_4 : decode cX5_ordersLeft 4 = .ok (.iload_n 1, 1) := by decide +kernel
theorem dX5_ordersLeft_5 : decode cX5_ordersLeft 5 = .ok (.saload, 1) := by decide +kernel
theorem dX5_ordersLeft_6 : decode cX5_ordersLeft 6 = .ok (.iconst 3, 1) := by decide +kernel
theorem dX5_ordersLeft_7 : decode cX5_ordersLeft 7 = .ok (.ishr, 1) := by decide +kernel
theorem dX5_ordersLeft_8 : decode cX5_ordersLeft 8 = .ok (.ireturn, 1) := by decide +kernel
theorem dX5_worstOf_0 : decode cX5_worstOf 0 = .ok (.aload_n 0, 1) := by decide +kernel
theorem dX5_worstOf_1 : decode cX5_worstOf 1 = .ok (.getfield 9, 3) := by decide +kernel
theorem dX5_worstOf_4 : decode cX5_worstOf 4 = .ok (.iload_n 1, 1) := by decide +kernel
theorem dX5_worstOf_5 : decode cX5_worstOf 5 = .ok (.saload, 1) := by decide +kernel
theorem dX5_worstOf_6 : decode cX5_worstOf 6 = .ok (.bipush 7, 2) := by decide +kernel
theorem dX5_worstOf_8 : decode cX5_worstOf 8 = .ok (.iand, 1) := by decide +kernel
theorem dX5_worstOf_9 : decode cX5_worstOf 9 = .ok (.ireturn, 1) := by decide +kernel
theorem dX5_nextPair_0 : decode cX5_nextPair 0 = .ok (.aload_n 0, 1) := by decide +kernel
theorem dX5_nextPair_1 : decode cX5_nextPair 1 = .ok (.iload_n 1, 1) := by decide +kernel
theorem dX5_nextPair_2 : decode cX5_nextPair 2 = .ok (.invokevirtual 33, 3) := by decide +kernel
theorem dX5_nextPair_5 : decode cX5_nextPair 5 = .ok (.istore_n 2, 1) := by decide +kernel
theorem dX5_nextPair_6 : decode cX5_nextPair 6 = .ok (.iload_n 2, 1) := by decide +kernel
theorem dX5_nextPair_7 : decode cX5_nextPair 7 = .ok (.ifCond .ne 6, 3) := by decide +kernel
theorem dX5_nextPair_10 : decode cX5_nextPair 10 = .ok (.bipush (-9), 2) := by decide +kernel
theorem dX5_nextPair_12 : decode cX5_nextPair 12 = .ok (.ireturn, 1) := by decide +kernel
theorem dX5_nextPair_13 : decode cX5_nextPair 13 = .ok (.iconst 0, 1) := by decide +kernel
theorem dX5_nextPair_14 : decode cX5_nextPair 14 = .ok (.istore_n 3, 1) := by decide +kernel
theorem dX5_nextPair_15 : decode cX5_nextPair 15 = .ok (.iload_n 3, 1) := by decide +kernel
theorem dX5_nextPair_16 : decode cX5_nextPair 16 = .ok (.aload_n 0, 1) := by decide +kernel
theorem dX5_nextPair_17 : decode cX5_nextPair 17 = .ok (.getfield 19, 3) := by decide +kernel
theorem dX5_nextPair_20 : decode cX5_nextPair 20 = .ok (.if_icmp .ge 67, 3) := by decide +kernel
theorem dX5_nextPair_23 : decode cX5_nextPair 23 = .ok (.iload_n 3, 1) := by decide +kernel
theorem dX5_nextPair_24 : decode cX5_nextPair 24 = .ok (.iconst 1, 1) := by decide +kernel
theorem dX5_nextPair_25 : decode cX5_nextPair 25 = .ok (.iadd, 1) := by decide +kernel
theorem dX5_nextPair_26 : decode cX5_nextPair 26 = .ok (.istore 4, 2) := by decide +kernel
theorem dX5_nextPair_28 : decode cX5_nextPair 28 = .ok (.iload 4, 2) := by decide +kernel
theorem dX5_nextPair_30 : decode cX5_nextPair 30 = .ok (.aload_n 0, 1) := by decide +kernel
theorem dX5_nextPair_31 : decode cX5_nextPair 31 = .ok (.getfield 19, 3) := by decide +kernel
theorem dX5_nextPair_34 : decode cX5_nextPair 34 = .ok (.if_icmp .ge 47, 3) := by decide +kernel
theorem dX5_nextPair_37 : decode cX5_nextPair 37 = .ok (.iload_n 3, 1) := by decide +kernel
theorem dX5_nextPair_38 : decode cX5_nextPair 38 = .ok (.iload 4, 2) := by decide +kernel
theorem dX5_nextPair_40 : decode cX5_nextPair 40 = .ok (.invokestatic 36, 3) := by decide +kernel
theorem dX5_nextPair_43 : decode cX5_nextPair 43 = .ok (.istore 5, 2) := by decide +kernel
theorem dX5_nextPair_45 : decode cX5_nextPair 45 = .ok (.iload_n 1, 1) := by decide +kernel
theorem dX5_nextPair_46 : decode cX5_nextPair 46 = .ok (.iload 5, 2) := by decide +kernel
theorem dX5_nextPair_48 : decode cX5_nextPair 48 = .ok (.invokestatic 40, 3) := by decide +kernel
theorem dX5_nextPair_51 : decode cX5_nextPair 51 = .ok (.ifCond .ne 24, 3) := by decide +kernel
theorem dX5_nextPair_54 : decode cX5_nextPair 54 = .ok (.aload_n 0, 1) := by decide +kernel
theorem dX5_nextPair_55 : decode cX5_nextPair 55 = .ok (.iload_n 1, 1) := by decide +kernel
theorem dX5_nextPair_56 : decode cX5_nextPair 56 = .ok (.iload 5, 2) := by decide +kernel
theorem dX5_nextPair_58 : decode cX5_nextPair 58 = .ok (.invokevirtual 43, 3) := by decide +kernel
theorem dX5_nextPair_61 : decode cX5_nextPair 61 = .ok (.iload_n 2, 1) := by decide +kernel
theorem dX5_nextPair_62 : decode cX5_nextPair 62 = .ok (.iconst 1, 1) := by decide +kernel
theorem dX5_nextPair_63 : decode cX5_nextPair 63 = .ok (.isub, 1) := by decide +kernel
theorem dX5_nextPair_64 : decode cX5_nextPair 64 = .ok (.if_icmp .ne 11, 3) := by decide +kernel
theorem dX5_nextPair_67 : decode cX5_nextPair 67 = .ok (.bipush 10, 2) := by decide +kernel
theorem dX5_nextPair_69 : decode cX5_nextPair 69 = .ok (.iload_n 3, 1) := by decide +kernel
theorem dX5_nextPair_70 : decode cX5_nextPair 70 = .ok (.imul, 1) := by decide +kernel
theorem dX5_nextPair_71 : decode cX5_nextPair 71 = .ok (.iload 4, 2) := by decide +kernel
theorem dX5_nextPair_73 : decode cX5_nextPair 73 = .ok (.iadd, 1) := by decide +kernel
theorem dX5_nextPair_74 : decode cX5_nextPair 74 = .ok (.ireturn, 1) := by decide +kernel
theorem dX5_nextPair_75 : decode cX5_nextPair 75 = .ok (.iinc 4 1, 3) := by decide +kernel
theorem dX5_nextPair_78 : decode cX5_nextPair 78 = .ok (.goto (-50), 3) := by decide +kernel
theorem dX5_nextPair_81 : decode cX5_nextPair 81 = .ok (.iinc 3 1, 3) := by decide +kernel
theorem dX5_nextPair_84 : decode cX5_nextPair 84 = .ok (.goto (-69), 3) := by decide +kernel
theorem dX5_nextPair_87 : decode cX5_nextPair 87 = .ok (.bipush (-9), 2) := by decide +kernel
theorem dX5_nextPair_89 : decode cX5_nextPair 89 = .ok (.ireturn, 1) := by decide +kernel
theorem dX5_countOrders_0 : decode cX5_countOrders 0 = .ok (.iconst 0, 1) := by decide +kernel
theorem dX5_countOrders_1 : decode cX5_countOrders 1 = .ok (.istore_n 2, 1) := by decide +kernel
theorem dX5_countOrders_2 : decode cX5_countOrders 2 = .ok (.iload_n 2, 1) := by decide +kernel
theorem dX5_countOrders_3 : decode cX5_countOrders 3 = .ok (.aload_n 0, 1) := by decide +kernel
theorem dX5_countOrders_4 : decode cX5_countOrders 4 = .ok (.getfield 23, 3) := by decide +kernel
theorem dX5_countOrders_7 : decode cX5_countOrders 7 = .ok (.if_icmp .ge 50, 3) := by decide +kernel
theorem dX5_countOrders_10 : decode cX5_countOrders 10 = .ok (.iload_n 1, 1) := by decide +kernel
theorem dX5_countOrders_11 : decode cX5_countOrders 11 = .ok (.iload_n 2, 1) := by decide +kernel
theorem dX5_countOrders_12 : decode cX5_countOrders 12 = .ok (.invokestatic 40, 3) := by decide +kernel
theorem dX5_countOrders_15 : decode cX5_countOrders 15 = .ok (.ifCond .ne 36, 3) := by decide +kernel
theorem dX5_countOrders_18 : decode cX5_countOrders 18 = .ok (.aload_n 0, 1) := by decide +kernel
theorem dX5_countOrders_19 : decode cX5_countOrders 19 = .ok (.iload_n 1, 1) := by decide +kernel
theorem dX5_countOrders_20 : decode cX5_countOrders 20 = .ok (.iload_n 2, 1) := by decide +kernel
theorem dX5_countOrders_21 : decode cX5_countOrders 21 = .ok (.iconst 1, 1) := by decide +kernel
theorem dX5_countOrders_22 : decode cX5_countOrders 22 = .ok (.invokestatic 46, 3) := by decide +kernel
theorem dX5_countOrders_25 : decode cX5_countOrders 25 = .ok (.invokevirtual 50, 3) := by decide +kernel
theorem dX5_countOrders_28 : decode cX5_countOrders 28 = .ok (.aload_n 0, 1) := by decide +kernel
theorem dX5_countOrders_29 : decode cX5_countOrders 29 = .ok (.iload_n 1, 1) := by decide +kernel
theorem dX5_countOrders_30 : decode cX5_countOrders 30 = .ok (.iload_n 2, 1) := by decide +kernel
theorem dX5_countOrders_31 : decode cX5_countOrders 31 = .ok (.iconst 2, 1) := by decide +kernel
theorem dX5_countOrders_32 : decode cX5_countOrders 32 = .ok (.invokestatic 46, 3) := by decide +kernel
theorem dX5_countOrders_35 : decode cX5_countOrders 35 = .ok (.invokevirtual 50, 3) := by decide +kernel
theorem dX5_countOrders_38 : decode cX5_countOrders 38 = .ok (.iadd, 1) := by decide +kernel
theorem dX5_countOrders_39 : decode cX5_countOrders 39 = .ok (.aload_n 0, 1) := by decide +kernel
theorem dX5_countOrders_40 : decode cX5_countOrders 40 = .ok (.iload_n 1, 1) := by decide +kernel
theorem dX5_countOrders_41 : decode cX5_countOrders 41 = .ok (.iload_n 2, 1) := by decide +kernel
theorem dX5_countOrders_42 : decode cX5_countOrders 42 = .ok (.iconst 3, 1) := by decide +kernel
theorem dX5_countOrders_43 : decode cX5_countOrders 43 = .ok (.invokestatic 46, 3) := by decide +kernel
theorem dX5_countOrders_46 : decode cX5_countOrders 46 = .ok (.invokevirtual 50, 3) := by decide +kernel
theorem dX5_countOrders_49 : decode cX5_countOrders 49 = .ok (.iadd, 1) := by decide +kernel
theorem dX5_countOrders_50 : decode cX5_countOrders 50 = .ok (.ireturn, 1) := by decide +kernel
theorem dX5_countOrders_51 : decode cX5_countOrders 51 = .ok (.iinc 2 1, 3) := by decide +kernel
theorem dX5_countOrders_54 : decode cX5_countOrders 54 = .ok (.goto (-52), 3) := by decide +kernel
theorem dX5_countOrders_57 : decode cX5_countOrders 57 = .ok (.aload_n 0, 1) := by decide +kernel
theorem dX5_countOrders_58 : decode cX5_countOrders 58 = .ok (.iload_n 1, 1) := by decide +kernel
theorem dX5_countOrders_59 : decode cX5_countOrders 59 = .ok (.invokevirtual 53, 3) := by decide +kernel
theorem dX5_countOrders_62 : decode cX5_countOrders 62 = .ok (.ifCond .eq 7, 3) := by decide +kernel
theorem dX5_countOrders_65 : decode cX5_countOrders 65 = .ok (.iconst 1, 1) := by decide +kernel
theorem dX5_countOrders_66 : decode cX5_countOrders 66 = .ok (.goto 4, 3) := by decide +kernel
theorem dX5_countOrders_69 : decode cX5_countOrders 69 = .ok (.iconst 0, 1) := by decide +kernel
theorem dX5_countOrders_70 : decode cX5_countOrders 70 = .ok (.ireturn, 1) := by decide +kernel
theorem dX5_leastBehind_0 : decode cX5_leastBehind 0 = .ok (.bipush 7, 2) := by decide +kernel
theorem dX5_leastBehind_2 : decode cX5_leastBehind 2 = .ok (.istore_n 2, 1) := by decide +kernel
theorem dX5_leastBehind_3 : decode cX5_leastBehind 3 = .ok (.iconst 0, 1) := by decide +kernel
theorem dX5_leastBehind_4 : decode cX5_leastBehind 4 = .ok (.istore_n 3, 1) := by decide +kernel
theorem dX5_leastBehind_5 : decode cX5_leastBehind 5 = .ok (.iload_n 3, 1) := by decide +kernel
theorem dX5_leastBehind_6 : decode cX5_leastBehind 6 = .ok (.aload_n 0, 1) := by decide +kernel
theorem dX5_leastBehind_7 : decode cX5_leastBehind 7 = .ok (.getfield 23, 3) := by decide +kernel
theorem dX5_leastBehind_10 : decode cX5_leastBehind 10 = .ok (.if_icmp .ge 28, 3) := by decide +kernel
theorem dX5_leastBehind_13 : decode cX5_leastBehind 13 = .ok (.iload_n 1, 1) := by decide +kernel
theorem dX5_leastBehind_14 : decode cX5_leastBehind 14 = .ok (.iload_n 3, 1) := by decide +kernel
theorem dX5_leastBehind_15 : decode cX5_leastBehind 15 = .ok (.invokestatic 40, 3) := by decide +kernel
theorem dX5_leastBehind_18 : decode cX5_leastBehind 18 = .ok (.ifCond .ne 14, 3) := by decide +kernel
theorem dX5_leastBehind_21 : decode cX5_leastBehind 21 = .ok (.iload_n 2, 1) := by decide +kernel
theorem dX5_leastBehind_22 : decode cX5_leastBehind 22 = .ok (.aload_n 0, 1) := by decide +kernel
theorem dX5_leastBehind_23 : decode cX5_leastBehind 23 = .ok (.iload_n 1, 1) := by decide +kernel
theorem dX5_leastBehind_24 : decode cX5_leastBehind 24 = .ok (.iload_n 3, 1) := by decide +kernel
theorem dX5_leastBehind_25 : decode cX5_leastBehind 25 = .ok (.invokevirtual 43, 3) := by decide +kernel
theorem dX5_leastBehind_28 : decode cX5_leastBehind 28 = .ok (.invokestatic 57, 3) := by decide +kernel
theorem dX5_leastBehind_31 : decode cX5_leastBehind 31 = .ok (.istore_n 2, 1) := by decide +kernel
theorem dX5_leastBehind_32 : decode cX5_leastBehind 32 = .ok (.iinc 3 1, 3) := by decide +kernel
theorem dX5_leastBehind_35 : decode cX5_leastBehind 35 = .ok (.goto (-30), 3) := by decide +kernel
theorem dX5_leastBehind_38 : decode cX5_leastBehind 38 = .ok (.iload_n 2, 1) := by decide +kernel
theorem dX5_leastBehind_39 : decode cX5_leastBehind 39 = .ok (.ireturn, 1) := by decide +kernel
theorem dX5_worstBehind_0 : decode cX5_worstBehind 0 = .ok (.aload_n 0, 1) := by decide +kernel
theorem dX5_worstBehind_1 : decode cX5_worstBehind 1 = .ok (.iload_n 1, 1) := by decide +kernel
theorem dX5_worstBehind_2 : decode cX5_worstBehind 2 = .ok (.iload_n 2, 1) := by decide +kernel
theorem dX5_worstBehind_3 : decode cX5_worstBehind 3 = .ok (.iconst 1, 1) := by decide +kernel
theorem dX5_worstBehind_4 : decode cX5_worstBehind 4 = .ok (.invokestatic 46, 3) := by decide +kernel
theorem dX5_worstBehind_7 : decode cX5_worstBehind 7 = .ok (.invokevirtual 33, 3) := by decide +kernel
theorem dX5_worstBehind_10 : decode cX5_worstBehind 10 = .ok (.istore_n 3, 1) := by decide +kernel
theorem dX5_worstBehind_11 : decode cX5_worstBehind 11 = .ok (.aload_n 0, 1) := by decide +kernel
theorem dX5_worstBehind_12 : decode cX5_worstBehind 12 = .ok (.iload_n 1, 1) := by decide +kernel
theorem dX5_worstBehind_13 : decode cX5_worstBehind 13 = .ok (.iload_n 2, 1) := by decide +kernel
theorem dX5_worstBehind_14 : decode cX5_worstBehind 14 = .ok (.iconst 2, 1) := by decide +kernel
theorem dX5_worstBehind_15 : decode cX5_worstBehind 15 = .ok (.invokestatic 46, 3) := by decide +kernel
theorem dX5_worstBehind_18 : decode cX5_worstBehind 18 = .ok (.invokevirtual 33, 3) := by decide +kernel
theorem dX5_worstBehind_21 : decode cX5_worstBehind 21 = .ok (.istore 4, 2) := by decide +kernel
theorem dX5_worstBehind_23 : decode cX5_worstBehind 23 = .ok (.aload_n 0, 1) := by decide +kernel
theorem dX5_worstBehind_24 : decode cX5_worstBehind 24 = .ok (.iload_n 1, 1) := by decide +kernel
theorem dX5_worstBehind_25 : decode cX5_worstBehind 25 = .ok (.iload_n 2, 1) := by decide +kernel
theorem dX5_worstBehind_26 : decode cX5_worstBehind 26 = .ok (.iconst 3, 1) := by decide +kernel
theorem dX5_worstBehind_27 : decode cX5_worstBehind 27 = .ok (.invokestatic 46, 3) := by decide +kernel
theorem dX5_worstBehind_30 : decode cX5_worstBehind 30 = .ok (.invokevirtual 33, 3) := by decide +kernel
theorem dX5_worstBehind_33 : decode cX5_worstBehind 33 = .ok (.istore 5, 2) := by decide +kernel
theorem dX5_worstBehind_35 : decode cX5_worstBehind 35 = .ok (.iload_n 3, 1) := by decide +kernel
theorem dX5_worstBehind_36 : decode cX5_worstBehind 36 = .ok (.iload 4, 2) := by decide +kernel
theorem dX5_worstBehind_38 : decode cX5_worstBehind 38 = .ok (.iload 5, 2) := by decide +kernel
theorem dX5_worstBehind_40 : decode cX5_worstBehind 40 = .ok (.invokestatic 62, 3) := by decide +kernel
theorem dX5_worstBehind_43 : decode cX5_worstBehind 43 = .ok (.invokestatic 62, 3) := by decide +kernel
theorem dX5_worstBehind_46 : decode cX5_worstBehind 46 = .ok (.ireturn, 1) := by decide +kernel
theorem dX5_isOrder_0 : decode cX5_isOrder 0 = .ok (.aload_n 0, 1) := by decide +kernel
theorem dX5_isOrder_1 : decode cX5_isOrder 1 = .ok (.iload_n 1, 1) := by decide +kernel
theorem dX5_isOrder_2 : decode cX5_isOrder 2 = .ok (.invokevirtual 65, 3) := by decide +kernel
theorem dX5_isOrder_5 : decode cX5_isOrder 5 = .ok (.iconst 0, 1) := by decide +kernel
theorem dX5_isOrder_6 : decode cX5_isOrder 6 = .ok (.istore_n 2, 1) := by decide +kernel
theorem dX5_isOrder_7 : decode cX5_isOrder 7 = .ok (.iconst 1, 1) := by decide +kernel
theorem dX5_isOrder_8 : decode cX5_isOrder 8 = .ok (.istore_n 3, 1) := by decide +kernel
theorem dX5_isOrder_9 : decode cX5_isOrder 9 = .ok (.iload_n 3, 1) := by decide +kernel
theorem dX5_isOrder_10 : decode cX5_isOrder 10 = .ok (.aload_n 0, 1) := by decide +kernel
theorem dX5_isOrder_11 : decode cX5_isOrder 11 = .ok (.getfield 19, 3) := by decide +kernel
theorem dX5_isOrder_14 : decode cX5_isOrder 14 = .ok (.if_icmp .ge 57, 3) := by decide +kernel
theorem dX5_isOrder_17 : decode cX5_isOrder 17 = .ok (.iconst 0, 1) := by decide +kernel
theorem dX5_isOrder_18 : decode cX5_isOrder 18 = .ok (.istore 4, 2) := by decide +kernel
theorem dX5_isOrder_20 : decode cX5_isOrder 20 = .ok (.iload 4, 2) := by decide +kernel
theorem dX5_isOrder_22 : decode cX5_isOrder 22 = .ok (.iload_n 3, 1) := by decide +kernel
theorem dX5_isOrder_23 : decode cX5_isOrder 23 = .ok (.if_icmp .ge 42, 3) := by decide +kernel
theorem dX5_isOrder_26 : decode cX5_isOrder 26 = .ok (.aload_n 0, 1) := by decide +kernel
theorem dX5_isOrder_27 : decode cX5_isOrder 27 = .ok (.getfield 15, 3) := by decide +kernel
theorem dX5_isOrder_30 : decode cX5_isOrder 30 = .ok (.iload 4, 2) := by decide +kernel
theorem dX5_isOrder_32 : decode cX5_isOrder 32 = .ok (.iaload, 1) := by decide +kernel
theorem dX5_isOrder_33 : decode cX5_isOrder 33 = .ok (.aload_n 0, 1) := by decide +kernel
theorem dX5_isOrder_34 : decode cX5_isOrder 34 = .ok (.getfield 15, 3) := by decide +kernel
theorem dX5_isOrder_37 : decode cX5_isOrder 37 = .ok (.iload_n 3, 1) := by decide +kernel
theorem dX5_isOrder_38 : decode cX5_isOrder 38 = .ok (.iaload, 1) := by decide +kernel
theorem dX5_isOrder_39 : decode cX5_isOrder 39 = .ok (.invokestatic 69, 3) := by decide +kernel
theorem dX5_isOrder_42 : decode cX5_isOrder 42 = .ok (.istore 5, 2) := by decide +kernel
theorem dX5_isOrder_44 : decode cX5_isOrder 44 = .ok (.iload_n 1, 1) := by decide +kernel
theorem dX5_isOrder_45 : decode cX5_isOrder 45 = .ok (.iload_n 2, 1) := by decide +kernel
theorem dX5_isOrder_46 : decode cX5_isOrder 46 = .ok (.invokestatic 40, 3) := by decide +kernel
theorem dX5_isOrder_49 : decode cX5_isOrder 49 = .ok (.iload 5, 2) := by decide +kernel
theorem dX5_isOrder_51 : decode cX5_isOrder 51 = .ok (.if_icmp .eq 5, 3) := by decide +kernel
theorem dX5_isOrder_54 : decode cX5_isOrder 54 = .ok (.iconst 0, 1) := by decide +kernel
theorem dX5_isOrder_55 : decode cX5_isOrder 55 = .ok (.ireturn, 1) := by decide +kernel
theorem dX5_isOrder_56 : decode cX5_isOrder 56 = .ok (.iinc 2 1, 3) := by decide +kernel
theorem dX5_isOrder_59 : decode cX5_isOrder 59 = .ok (.iinc 4 1, 3) := by decide +kernel
theorem dX5_isOrder_62 : decode cX5_isOrder 62 = .ok (.goto (-42), 3) := by decide +kernel
theorem dX5_isOrder_65 : decode cX5_isOrder 65 = .ok (.iinc 3 1, 3) := by decide +kernel
theorem dX5_isOrder_68 : decode cX5_isOrder 68 = .ok (.goto (-59), 3) := by decide +kernel
theorem dX5_isOrder_71 : decode cX5_isOrder 71 = .ok (.iconst 1, 1) := by decide +kernel
theorem dX5_isOrder_72 : decode cX5_isOrder 72 = .ok (.ireturn, 1) := by decide +kernel
theorem dX5_countHeavierOnes_0 : decode cX5_countHeavierOnes 0 = .ok (.aload_n 0, 1) := by decide +kernel
theorem dX5_countHeavierOnes_1 : decode cX5_countHeavierOnes 1 = .ok (.getfield 15, 3) := by decide +kernel
theorem dX5_countHeavierOnes_4 : decode cX5_countHeavierOnes 4 = .ok (.iconst 0, 1) := by decide +kernel
theorem dX5_countHeavierOnes_5 : decode cX5_countHeavierOnes 5 = .ok (.invokestatic 72, 3) := by decide +kernel
theorem dX5_countHeavierOnes_8 : decode cX5_countHeavierOnes 8 = .ok (.iconst 0, 1) := by decide +kernel
theorem dX5_countHeavierOnes_9 : decode cX5_countHeavierOnes 9 = .ok (.istore_n 2, 1) := by decide +kernel
theorem dX5_countHeavierOnes_10 : decode cX5_countHeavierOnes 10 = .ok (.iconst 1, 1) := by decide +kernel
theorem dX5_countHeavierOnes_11 : decode cX5_countHeavierOnes 11 = .ok (.istore_n 3, 1) := by decide +kernel
theorem dX5_countHeavierOnes_12 : decode cX5_countHeavierOnes 12 = .ok (.iload_n 3, 1) := by decide +kernel
theorem dX5_countHeavierOnes_13 : decode cX5_countHeavierOnes 13 = .ok (.aload_n 0, 1) := by decide +kernel
theorem dX5_countHeavierOnes_14 : decode cX5_countHeavierOnes 14 = .ok (.getfield 19, 3) := by decide +kernel
theorem dX5_countHeavierOnes_17 : decode cX5_countHeavierOnes 17 = .ok (.if_icmp .ge 70, 3) := by decide +kernel
theorem dX5_countHeavierOnes_20 : decode cX5_countHeavierOnes 20 = .ok (.iconst 0, 1) := by decide +kernel
theorem dX5_countHeavierOnes_21 : decode cX5_countHeavierOnes 21 = .ok (.istore 4, 2) := by decide +kernel
theorem dX5_countHeavierOnes_23 : decode cX5_countHeavierOnes 23 = .ok (.iload 4, 2) := by decide +kernel
theorem dX5_countHeavierOnes_25 : decode cX5_countHeavierOnes 25 = .ok (.iload_n 3, 1) := by decide +kernel
theorem dX5_countHeavierOnes_26 : decode cX5_countHeavierOnes 26 = .ok (.if_icmp .ge 55, 3) := by decide +kernel
theorem dX5_countHeavierOnes_29 : decode cX5_countHeavierOnes 29 = .ok (.iload_n 1, 1) := by decide +kernel
theorem dX5_countHeavierOnes_30 : decode cX5_countHeavierOnes 30 = .ok (.iload_n 2, 1) := by decide +kernel
theorem dX5_countHeavierOnes_31 : decode cX5_countHeavierOnes 31 = .ok (.invokestatic 40, 3) := by decide +kernel
theorem dX5_countHeavierOnes_34 : decode cX5_countHeavierOnes 34 = .ok (.istore 5, 2) := by decide +kernel
theorem dX5_countHeavierOnes_36 : decode cX5_countHeavierOnes 36 = .ok (.iload 5, 2) := by decide +kernel
theorem dX5_countHeavierOnes_38 : decode cX5_countHeavierOnes 38 = .ok (.iconst 1, 1) := by decide +kernel
theorem dX5_countHeavierOnes_39 : decode cX5_countHeavierOnes 39 = .ok (.if_icmp .ne 16, 3) := by decide +kernel
theorem dX5_countHeavierOnes_42 : decode cX5_countHeavierOnes 42 = .ok (.aload_n 0, 1) := by decide +kernel
theorem dX5_countHeavierOnes_43 : decode cX5_countHeavierOnes 43 = .ok (.getfield 15, 3) := by decide +kernel
theorem dX5_countHeavierOnes_46 : decode cX5_countHeavierOnes 46 = .ok (.iload_n 3, 1) := by decide +kernel
theorem dX5_countHeavierOnes_47 : decode cX5_countHeavierOnes 47 = .ok (.dup2, 1) := by decide +kernel
theorem dX5_countHeavierOnes_48 : decode cX5_countHeavierOnes 48 = .ok (.iaload, 1) := by decide +kernel
theorem dX5_countHeavierOnes_49 : decode cX5_countHeavierOnes 49 = .ok (.iconst 1, 1) := by decide +kernel
theorem dX5_countHeavierOnes_50 : decode cX5_countHeavierOnes 50 = .ok (.iadd, 1) := by decide +kernel
theorem dX5_countHeavierOnes_51 : decode cX5_countHeavierOnes 51 = .ok (.iastore, 1) := by decide +kernel
theorem dX5_countHeavierOnes_52 : decode cX5_countHeavierOnes 52 = .ok (.goto 20, 3) := by decide +kernel
theorem dX5_countHeavierOnes_55 : decode cX5_countHeavierOnes 55 = .ok (.iload 5, 2) := by decide +kernel
theorem dX5_countHeavierOnes_57 : decode cX5_countHeavierOnes 57 = .ok (.iconst 2, 1) := by decide +kernel
theorem dX5_countHeavierOnes_58 : decode cX5_countHeavierOnes 58 = .ok (.if_icmp .ne 14, 3) := by decide +kernel
theorem dX5_countHeavierOnes_61 : decode cX5_countHeavierOnes 61 = .ok (.aload_n 0, 1) := by decide +kernel
theorem dX5_countHeavierOnes_62 : decode cX5_countHeavierOnes 62 = .ok (.getfield 15, 3) := by decide +kernel
theorem dX5_countHeavierOnes_65 : decode cX5_countHeavierOnes 65 = .ok (.iload 4, 2) := by decide +kernel
theorem dX5_countHeavierOnes_67 : decode cX5_countHeavierOnes 67 = .ok (.dup2, 1) := by decide +kernel
theorem dX5_countHeavierOnes_68 : decode cX5_countHeavierOnes 68 = .ok (.iaload, 1) := by decide +kernel
theorem dX5_countHeavierOnes_69 : decode cX5_countHeavierOnes 69 = .ok (.iconst 1, 1) := by decide +kernel
theorem dX5_countHeavierOnes_70 : decode cX5_countHeavierOnes 70 = .ok (.iadd, 1) := by decide +kernel
theorem dX5_countHeavierOnes_71 : decode cX5_countHeavierOnes 71 = .ok (.iastore, 1) := by decide +kernel
theorem dX5_countHeavierOnes_72 : decode cX5_countHeavierOnes 72 = .ok (.iinc 2 1, 3) := by decide +kernel
theorem dX5_countHeavierOnes_75 : decode cX5_countHeavierOnes 75 = .ok (.iinc 4 1, 3) := by decide +kernel
theorem dX5_countHeavierOnes_78 : decode cX5_countHeavierOnes 78 = .ok (.goto (-55), 3) := by decide +kernel
theorem dX5_countHeavierOnes_81 : decode cX5_countHeavierOnes 81 = .ok (.iinc 3 1, 3) := by decide +kernel
theorem dX5_countHeavierOnes_84 : decode cX5_countHeavierOnes 84 = .ok (.goto (-72), 3) := by decide +kernel
theorem dX5_countHeavierOnes_87 : decode cX5_countHeavierOnes 87 = .ok (.return_, 1) := by decide +kernel
theorem dX5_dueFinding_0 : decode cX5_dueFinding 0 = .ok (.iload_n 0, 1) := by decide +kernel
theorem dX5_dueFinding_1 : decode cX5_dueFinding 1 = .ok (.iload_n 1, 1) := by decide +kernel
theorem dX5_dueFinding_2 : decode cX5_dueFinding 2 = .ok (.if_icmp .ne 5, 3) := by decide +kernel
theorem dX5_dueFinding_5 : decode cX5_dueFinding 5 = .ok (.iconst 3, 1) := by decide +kernel
theorem dX5_dueFinding_6 : decode cX5_dueFinding 6 = .ok (.ireturn, 1) := by decide +kernel
theorem dX5_dueFinding_7 : decode cX5_dueFinding 7 = .ok (.iload_n 0, 1) := by decide +kernel
theorem dX5_dueFinding_8 : decode cX5_dueFinding 8 = .ok (.iload_n 1, 1) := by decide +kernel
theorem dX5_dueFinding_9 : decode cX5_dueFinding 9 = .ok (.if_icmp .ge 7, 3) := by decide +kernel
theorem dX5_dueFinding_12 : decode cX5_dueFinding 12 = .ok (.iconst 1, 1) := by decide +kernel
theorem dX5_dueFinding_13 : decode cX5_dueFinding 13 = .ok (.goto 4, 3) := by decide +kernel
theorem dX5_dueFinding_16 : decode cX5_dueFinding 16 = .ok (.iconst 2, 1) := by decide +kernel
theorem dX5_dueFinding_17 : decode cX5_dueFinding 17 = .ok (.ireturn, 1) := by decide +kernel
theorem dX6_init_0 : decode cX6_init 0 = .ok (.aload_n 0, 1) := by decide +kernel
theorem dX6_init_1 : decode cX6_init 1 = .ok (.invokespecial 3, 3) := by decide +kernel
theorem dX6_init_4 : decode cX6_init 4 = .ok (.aload_n 0, 1) := by decide +kernel
theorem dX6_init_5 : decode cX6_init 5 = .ok (.sipush 150, 3) := by decide +kernel
theorem dX6_init_8 : decode cX6_init 8 = .ok (.newarray .char, 2) := by decide +kernel
theorem dX6_init_10 : decode cX6_init 10 = .ok (.putfield 9, 3) := by decide +kernel
theorem dX6_init_13 : decode cX6_init 13 = .ok (.aload_n 0, 1) := by decide +kernel
theorem dX6_init_14 : decode cX6_init 14 = .ok (.iconst (-1), 1) := by decide +kernel
theorem dX6_init_15 : decode cX6_init 15 = .ok (.putfield 15, 3) := by decide +kernel
theorem dX6_init_18 : decode cX6_init 18 = .ok (.return_, 1) := by decide +kernel
theorem dX6_append_0 : decode cX6_append 0 = .ok (.aload_n 0, 1) := by decide +kernel
theorem dX6_append_1 : decode cX6_append 1 = .ok (.getfield 19, 3) := by decide +kernel
theorem dX6_append_4 : decode cX6_append 4 = .ok (.sipush 150, 3) := by decide +kernel
theorem dX6_append_7 : decode cX6_append 7 = .ok (.if_icmp .lt 5, 3) := by decide +kernel
theorem dX6_append_10 : decode cX6_append 10 = .ok (.iconst 0, 1) := by decide +kernel
theorem dX6_append_11 : decode cX6_append 11 = .ok (.ireturn, 1) := by decide +kernel
theorem dX6_append_12 : decode cX6_append 12 = .ok (.aload_n 0, 1) := by decide +kernel
theorem dX6_append_13 : decode cX6_append 13 = .ok (.getfield 9, 3) := by decide +kernel
theorem dX6_append_16 : decode cX6_append 16 = .ok (.aload_n 0, 1) := by decide +kernel
theorem dX6_append_17 : decode cX6_append 17 = .ok (.getfield 19, 3) := by decide +kernel
theorem dX6_append_20 : decode cX6_append 20 = .ok (.iload_n 1, 1) := by decide +kernel
theorem dX6_append_21 : decode cX6_append 21 = .ok (.castore, 1) := by decide +kernel
theorem dX6_append_22 : decode cX6_append 22 = .ok (.aload_n 0, 1) := by decide +kernel
theorem dX6_append_23 : decode cX6_append 23 = .ok (.dup, 1) := by decide +kernel
theorem dX6_append_24 : decode cX6_append 24 = .ok (.getfield 19, 3) := by decide +kernel
theorem dX6_append_27 : decode cX6_append 27 = .ok (.iconst 1, 1) := by decide +kernel
theorem dX6_append_28 : decode cX6_append 28 = .ok (.iadd, 1) := by decide +kernel
theorem dX6_append_29 : decode cX6_append 29 = .ok (.putfield 19, 3) := by decide +kernel
theorem dX6_append_32 : decode cX6_append 32 = .ok (.iconst 1, 1) := by decide +kernel
theorem dX6_append_33 : decode cX6_append 33 = .ok (.ireturn, 1) := by decide +kernel
theorem dX6_hasFault_0 : decode cX6_hasFault 0 = .ok (.aload_n 0, 1) := by decide +kernel
theorem dX6_hasFault_1 : decode cX6_hasFault 1 = .ok (.getfield 15, 3) := by decide +kernel
theorem dX6_hasFault_4 : decode cX6_hasFault 4 = .ok (.iconst (-1), 1) := by decide +kernel
theorem dX6_hasFault_5 : decode cX6_hasFault 5 = .ok (.if_icmp .eq 7, 3) := by decide +kernel
theorem dX6_hasFault_8 : decode cX6_hasFault 8 = .ok (.iconst 1, 1) := by decide +kernel
theorem dX6_hasFault_9 : decode cX6_hasFault 9 = .ok (.goto 4, 3) := by decide +kernel
theorem dX6_hasFault_12 : decode cX6_hasFault 12 = .ok (.iconst 0, 1) := by decide +kernel
theorem dX6_hasFault_13 : decode cX6_hasFault 13 = .ok (.ireturn, 1) := by decide +kernel
theorem dX6_readInto_0 : decode cX6_readInto 0 = .ok (.aload_n 1, 1) := by decide +kernel
theorem dX6_readInto_1 : decode cX6_readInto 1 = .ok (.invokevirtual 22, 3) := by decide +kernel
theorem dX6_readInto_4 : decode cX6_readInto 4 = .ok (.aload_n 0, 1) := by decide +kernel
theorem dX6_readInto_5 : decode cX6_readInto 5 = .ok (.iconst 0, 1) := by decide +kernel
theorem dX6_readInto_6 : decode cX6_readInto 6 = .ok (.putfield 27, 3) := by decide +kernel
theorem dX6_readInto_9 : decode cX6_readInto 9 = .ok (.aload_n 0, 1) := by decide +kernel
theorem dX6_readInto_10 : decode cX6_readInto 10 = .ok (.iconst (-1), 1) := by decide +kernel
theorem dX6_readInto_11 : decode cX6_readInto 11 = .ok (.putfield 15, 3) := by decide +kernel
theorem dX6_readInto_14 : decode cX6_readInto 14 = .ok (.iconst 0, 1) := by decide +kernel
theorem dX6_readInto_15 : decode cX6_readInto 15 = .ok (.istore_n 2, 1) := by decide +kernel
theorem dX6_readInto_16 : decode cX6_readInto 16 = .ok (.aload_n 0, 1) := by decide +kernel
theorem dX6_readInto_17 : decode cX6_readInto 17 = .ok (.invokevirtual 30, 3) := by decide +kernel
theorem dX6_readInto_20 : decode cX6_readInto 20 = .ok (.iload_n 2, 1) := by decide +kernel
theorem dX6_readInto_21 : decode cX6_readInto 21 = .ok (.sipush 150, 3) := by decide +kernel
theorem dX6_readInto_24 : decode cX6_readInto 24 = .ok (.if_icmp .ge 36, 3) := by decide +kernel
theorem dX6_readInto_27 : decode cX6_readInto 27 = .ok (.aload_n 0, 1) := by decide +kernel
theorem dX6_readInto_28 : decode cX6_readInto 28 = .ok (.getfield 27, 3) := by decide +kernel
theorem dX6_readInto_31 : decode cX6_readInto 31 = .ok (.aload_n 0, 1) := by decide +kernel
theorem dX6_readInto_32 : decode cX6_readInto 32 = .ok (.getfield 19, 3) := by decide +kernel
theorem dX6_readInto_35 : decode cX6_readInto 35 = .ok (.if_icmp .ge 25, 3) := by decide +kernel
theorem dX6_readInto_38 : decode cX6_readInto 38 = .ok (.aload_n 0, 1) := by decide +kernel
theorem dX6_readInto_39 : decode cX6_readInto 39 = .ok (.invokevirtual 33, 3) := by decide +kernel
theorem dX6_readInto_42 : decode cX6_readInto 42 = .ok (.ifCond .ne 18, 3) := by decide +kernel
theorem dX6_readInto_45 : decode cX6_readInto 45 = .ok (.aload_n 0, 1) := by decide +kernel
theorem dX6_readInto_46 : decode cX6_readInto 46 = .ok (.aload_n 1, 1) := by decide +kernel
theorem dX6_readInto_47 : decode cX6_readInto 47 = .ok (.invokevirtual 37, 3) := by decide +kernel
theorem dX6_readInto_50 : decode cX6_readInto 50 = .ok (.iinc 2 1, 3) := by decide +kernel
theorem dX6_readInto_53 : decode cX6_readInto 53 = .ok (.aload_n 0, 1) := by decide +kernel
theorem dX6_readInto_54 : decode cX6_readInto 54 = .ok (.invokevirtual 30, 3) := by decide +kernel
theorem dX6_readInto_57 : decode cX6_readInto 57 = .ok (.goto (-37), 3) := by decide +kernel
theorem dX6_readInto_60 : decode cX6_readInto 60 = .ok (.iload_n 2, 1) := by decide +kernel
theorem dX6_readInto_61 : decode cX6_readInto 61 = .ok (.ireturn, 1) := by decide +kernel
theorem dX6_readItem_0 : decode cX6_readItem 0 = .ok (.aload_n 0, 1) := by decide +kernel
theorem dX6_readItem_1 : decode cX6_readItem 1 = .ok (.getfield 9, 3) := by decide +kernel
theorem dX6_readItem_4 : decode cX6_readItem 4 = .ok (.aload_n 0, 1) := by decide +kernel
theorem dX6_readItem_5 : decode cX6_readItem 5 = .ok (.getfield 27, 3) := by decide +kernel
theorem dX6_readItem_8 : decode cX6_readItem 8 = .ok (.caload, 1) := by decide +kernel
theorem dX6_readItem_9 : decode cX6_readItem 9 = .ok (.istore_n 2, 1) := by decide +kernel
theorem dX6_readItem_10 : decode cX6_readItem 10 = .ok (.iload_n 2, 1) := by decide +kernel
theorem dX6_readItem_11 : decode cX6_readItem 11 = .ok (.bipush 115, 2) := by decide +kernel
theorem dX6_readItem_13 : decode cX6_readItem 13 = .ok (.if_icmp .eq 37, 3) := by decide +kernel
theorem dX6_readItem_16 : decode cX6_readItem 16 = .ok (.iload_n 2, 1) := by decide +kernel
theorem dX6_readItem_17 : decode cX6_readItem 17 = .ok (.bipush 103, 2) := by decide +kernel
theorem dX6_readItem_19 : decode cX6_readItem 19 = .ok (.if_icmp .eq 31, 3) := by decide +kernel
theorem dX6_readItem_22 : decode cX6_readItem 22 = .ok (.iload_n 2, 1) := by decide +kernel
theorem dX6_readItem_23 : decode cX6_readItem 23 = .ok (.bipush 112, 2) := by decide +kernel
theorem dX6_readItem_25 : decode cX6_readItem 25 = .ok (.if_icmp .ne 11, 3) := by decide +kernel
theorem dX6_readItem_28 : decode cX6_readItem 28 = .ok (.aload_n 1, 1) := by decide +kernel
theorem dX6_readItem_29 : decode cX6_readItem 29 = .ok (.getfield 41, 3) := by decide +kernel
theorem dX6_readItem_32 : decode cX6_readItem 32 = .ok (.iconst 4, 1) := by decide +kernel
theorem dX6_readItem_33 : decode cX6_readItem 33 = .ok (.if_icmp .lt 17, 3) := by decide +kernel
theorem dX6_readItem_36 : decode cX6_readItem 36 = .ok (.iload_n 2, 1) := by decide +kernel
theorem dX6_readItem_37 : decode cX6_readItem 37 = .ok (.bipush 98, 2) := by decide +kernel
theorem dX6_readItem_39 : decode cX6_readItem 39 = .ok (.if_icmp .ne 15, 3) := by decide +kernel
theorem dX6_readItem_42 : decode cX6_readItem 42 = .ok (.aload_n 1, 1) := by decide +kernel
theorem dX6_readItem_43 : decode cX6_readItem 43 = .ok (.getfield 44, 3) := by decide +kernel
theorem dX6_readItem_46 : decode cX6_readItem 46 = .ok (.iconst 5, 1) := by decide +kernel
theorem dX6_readItem_47 : decode cX6_readItem 47 = .ok (.if_icmp .ge 7, 3) := by decide +kernel
theorem dX6_readItem_50 : decode cX6_readItem 50 = .ok (.iconst 1, 1) := by decide +kernel
theorem dX6_readItem_51 : decode cX6_readItem 51 = .ok (.goto 4, 3) := by decide +kernel
theorem dX6_readItem_54 : decode cX6_readItem 54 = .ok (.iconst 0, 1) := by decide +kernel
theorem dX6_readItem_55 : decode cX6_readItem 55 = .ok (.istore_n 3, 1) := by decide +kernel
theorem dX6_readItem_56 : decode cX6_readItem 56 = .ok (.iload_n 3, 1) := by decide +kernel
theorem dX6_readItem_57 : decode cX6_readItem 57 = .ok (.ifCond .ne 12, 3) := by decide +kernel
theorem dX6_readItem_60 : decode cX6_readItem 60 = .ok (.aload_n 0, 1) := by decide +kernel
theorem dX6_readItem_61 : decode cX6_readItem 61 = .ok (.aload_n 0, 1) := by decide +kernel
theorem dX6_readItem_62 : decode cX6_readItem 62 = .ok (.getfield 27, 3) := by decide +kernel
theorem dX6_readItem_65 : decode cX6_readItem 65 = .ok (.putfield 15, 3) := by decide +kernel
theorem dX6_readItem_68 : decode cX6_readItem 68 = .ok (.return_, 1) := by decide +kernel
theorem dX6_readItem_69 : decode cX6_readItem 69 = .ok (.aload_n 0, 1) := by decide +kernel
theorem dX6_readItem_70 : decode cX6_readItem 70 = .ok (.dup, 1) := by decide +kernel
theorem dX6_readItem_71 : decode cX6_readItem 71 = .ok (.getfield 27, 3) := by decide +kernel
theorem dX6_readItem_74 : decode cX6_readItem 74 = .ok (.iconst 1, 1) := by decide +kernel
theorem dX6_readItem_75 : decode cX6_readItem 75 = .ok (.iadd, 1) := by decide +kernel
theorem dX6_readItem_76 : decode cX6_readItem 76 = .ok (.putfield 27, 3) := by decide +kernel
theorem dX6_readItem_79 : decode cX6_readItem 79 = .ok (.iload_n 2, 1) := by decide +kernel
theorem dX6_readItem_80 : decode cX6_readItem 80 = .ok (.bipush 115, 2) := by decide +kernel
theorem dX6_readItem_82 : decode cX6_readItem 82 = .ok (.if_icmp .ne 11, 3) := by decide +kernel
theorem dX6_readItem_85 : decode cX6_readItem 85 = .ok (.aload_n 0, 1) := by decide +kernel
theorem dX6_readItem_86 : decode cX6_readItem 86 = .ok (.aload_n 1, 1) := by decide +kernel
theorem dX6_readItem_87 : decode cX6_readItem 87 = .ok (.invokevirtual 47, 3) := by decide +kernel
theorem dX6_readItem_90 : decode cX6_readItem 90 = .ok (.goto 36, 3) := by decide +kernel
theorem dX6_readItem_93 : decode cX6_readItem 93 = .ok (.iload_n 2, 1) := by decide +kernel
theorem dX6_readItem_94 : decode cX6_readItem 94 = .ok (.bipush 112, 2) := by decide +kernel
theorem dX6_readItem_96 : decode cX6_readItem 96 = .ok (.if_icmp .ne 11, 3) := by decide +kernel
theorem dX6_readItem_99 : decode cX6_readItem 99 = .ok (.aload_n 0, 1) := by decide +kernel
theorem dX6_readItem_100 : decode cX6_readItem 100 = .ok (.aload_n 1, 1) := by decide +kernel
theorem dX6_readItem_101 : decode cX6_readItem 101 = .ok (.invokevirtual 50, 3) := by decide +kernel
theorem dX6_readItem_104 : decode cX6_readItem 104 = .ok (.goto 22, 3) := by decide +kernel
theorem dX6_readItem_107 : decode cX6_readItem 107 = .ok (.iload_n 2, 1) := by decide +kernel
theorem dX6_readItem_108 : decode cX6_readItem 108 = .ok (.bipush 103, 2) := by decide +kernel
theorem dX6_readItem_110 : decode cX6_readItem 110 = .ok (.if_icmp .ne 11, 3) := by decide +kernel
theorem dX6_readItem_113 : decode cX6_readItem 113 = .ok (.aload_n 0, 1) := by decide +kernel
theorem dX6_readItem_114 : decode cX6_readItem 114 = .ok (.aload_n 1, 1) := by decide +kernel
theorem dX6_readItem_115 : decode cX6_readItem 115 = .ok (.invokevirtual 53, 3) := by decide +kernel
theorem dX6_readItem_118 : decode cX6_readItem 118 = .ok (.goto 8, 3) := by decide +kernel
theorem dX6_readItem_121 : decode cX6_readItem 121 = .ok (.aload_n 0, 1) := by decide +kernel
theorem dX6_readItem_122 : decode cX6_readItem 122 = .ok (.aload_n 1, 1) := by decide +kernel
theorem dX6_readItem_123 : decode cX6_readItem 123 = .ok (.invokevirtual 56, 3) := by decide +kernel
theorem dX6_readItem_126 : decode cX6_readItem 126 = .ok (.return_, 1) := by decide +kernel
theorem dX6_readWeight_0 : decode cX6_readWeight 0 = .ok (.aload_n 0, 1) := by decide +kernel
theorem dX6_readWeight_1 : decode cX6_readWeight 1 = .ok (.iconst 0, 1) := by decide +kernel
theorem dX6_readWeight_2 : decode cX6_readWeight 2 = .ok (.iconst 3, 1) := by decide +kernel
theorem dX6_readWeight_3 : decode cX6_readWeight 3 = .ok (.invokevirtual 59, 3) := by decide +kernel
theorem dX6_readWeight_6 : decode cX6_readWeight 6 = .ok (.istore_n 2, 1) := by decide +kernel
theorem dX6_readWeight_7 : decode cX6_readWeight 7 = .ok (.aload_n 0, 1) := by decide +kernel
theorem dX6_readWeight_8 : decode cX6_readWeight 8 = .ok (.iconst 1, 1) := by decide +kernel
theorem dX6_readWeight_9 : decode cX6_readWeight 9 = .ok (.bipush 20, 2) := by decide +kernel
theorem dX6_readWeight_11 : decode cX6_readWeight 11 = .ok (.invokevirtual 59, 3) := by decide +kernel
theorem dX6_readWeight_14 : decode cX6_readWeight 14 = .ok (.istore_n 3, 1) := by decide +kernel
theorem dX6_readWeight_15 : decode cX6_readWeight 15 = .ok (.aload_n 0, 1) := by decide +kernel
theorem dX6_readWeight_16 : decode cX6_readWeight 16 = .ok (.invokevirtual 63, 3) := by decide +kernel
theorem dX6_readWeight_19 : decode cX6_readWeight 19 = .ok (.aload_n 0, 1) := by decide +kernel
theorem dX6_readWeight_20 : decode cX6_readWeight 20 = .ok (.invokevirtual 33, 3) := by decide +kernel
theorem dX6_readWeight_23 : decode cX6_readWeight 23 = .ok (.ifCond .ne 10, 3) := by decide +kernel
theorem dX6_readWeight_26 : decode cX6_readWeight 26 = .ok (.aload_n 1, 1) := by decide +kernel
theorem dX6_readWeight_27 : decode cX6_readWeight 27 = .ok (.getfield 66, 3) := by decide +kernel
theorem dX6_readWeight_30 : decode cX6_readWeight 30 = .ok (.iload_n 2, 1) := by decide +kernel
theorem dX6_readWeight_31 : decode cX6_readWeight 31 = .ok (.iload_n 3, 1) := by decide +kernel
theorem dX6_readWeight_32 : decode cX6_readWeight 32 = .ok (.iastore, 1) := by decide +kernel
theorem dX6_readWeight_33 : decode cX6_readWeight 33 = .ok (.return_, 1) := by decide +kernel
theorem dX6_readPerson_0 : decode cX6_readPerson 0 = .ok (.iconst 0, 1) := by decide +kernel
theorem dX6_readPerson_1 : decode cX6_readPerson 1 = .ok (.istore_n 2, 1) := by decide +kernel
theorem dX6_readPerson_2 : decode cX6_readPerson 2 = .ok (.iload_n 2, 1) := by decide +kernel
theorem dX6_readPerson_3 : decode cX6_readPerson 3 = .ok (.iconst 4, 1) := by decide +kernel
theorem dX6_readPerson_4 : decode cX6_readPerson 4 = .ok (.if_icmp .ge 38, 3) := by decide +kernel
theorem dX6_readPerson_7 : decode cX6_readPerson 7 = .ok (.aload_n 0, 1) := by decide +kernel
theorem dX6_readPerson_8 : decode cX6_readPerson 8 = .ok (.iconst 0, 1) := by decide +kernel
theorem dX6_readPerson_9 : decode cX6_readPerson 9 = .ok (.bipush 9, 2) := by decide +kernel
theorem dX6_readPerson_11 : decode cX6_readPerson 11 = .ok (.invokevirtual 59, 3) := by decide +kernel
theorem dX6_readPerson_14 : decode cX6_readPerson 14 = .ok (.istore_n 3, 1) := by decide +kernel
theorem dX6_readPerson_15 : decode cX6_readPerson 15 = .ok (.aload_n 0, 1) := by decide +kernel
theorem dX6_readPerson_16 : decode cX6_readPerson 16 = .ok (.invokevirtual 33, 3) := by decide +kernel
theorem dX6_readPerson_19 : decode cX6_readPerson 19 = .ok (.ifCond .ne 17, 3) := by decide +kernel
theorem dX6_readPerson_22 : decode cX6_readPerson 22 = .ok (.aload_n 1, 1) := by decide +kernel
theorem dX6_readPerson_23 : decode cX6_readPerson 23 = .ok (.getfield 70, 3) := by decide +kernel
theorem dX6_readPerson_26 : decode cX6_readPerson 26 = .ok (.aload_n 1, 1) := by decide +kernel
theorem dX6_readPerson_27 : decode cX6_readPerson 27 = .ok (.getfield 41, 3) := by decide +kernel
theorem dX6_readPerson_30 : decode cX6_readPerson 30 = .ok (.iconst 4, 1) := by decide +kernel
theorem dX6_readPerson_31 : decode cX6_readPerson 31 = .ok (.imul, 1) := by decide +kernel
theorem dX6_readPerson_32 : decode cX6_readPerson 32 = .ok (.iload_n 2, 1) := by decide +kernel
theorem dX6_readPerson_33 : decode cX6_readPerson 33 = .ok (.iadd, 1) := by decide +kernel
theorem dX6_readPerson_34 : decode cX6_readPerson 34 = .ok (.iload_n 3, 1) := by decide +kernel
theorem dX6_readPerson_35 : decode cX6_readPerson 35 = .ok (.iastore, 1) := by decide +kernel
theorem dX6_readPerson_36 : decode cX6_readPerson 36 = .ok (.iinc 2 1, 3) := by decide +kernel
theorem dX6_readPerson_39 : decode cX6_readPerson 39 = .ok (.goto (-37), 3) := by decide +kernel
theorem dX6_readPerson_42 : decode cX6_readPerson 42 = .ok (.aload_n 0, 1) := by decide +kernel
theorem dX6_readPerson_43 : decode cX6_readPerson 43 = .ok (.invokevirtual 63, 3) := by decide +kernel
theorem dX6_readPerson_46 : decode cX6_readPerson 46 = .ok (.aload_n 0, 1) := by decide +kernel
theorem dX6_readPerson_47 : decode cX6_readPerson 47 = .ok (.invokevirtual 33, 3) := by decide +kernel
theorem dX6_readPerson_50 : decode cX6_readPerson 50 = .ok (.ifCond .ne 13, 3) := by decide +kernel
theorem dX6_readPerson_53 : decode cX6_readPerson 53 = .ok (.aload_n 1, 1) := by decide +kernel
theorem dX6_readPerson_54 : decode cX6_readPerson 54 = .ok (.dup, 1) := by decide +kernel
theorem dX6_readPerson_55 : decode cX6_readPerson 55 = .ok (.getfield 41, 3) := by decide +kernel
theorem dX6_readPerson_58 : decode cX6_readPerson 58 = .ok (.iconst 1, 1) := by decide +kernel
theorem dX6_readPerson_59 : decode cX6_readPerson 59 = .ok (.iadd, 1) := by decide +kernel
theorem dX6_readPerson_60 : decode cX6_readPerson 60 = .ok (.putfield 41, 3) := by decide +kernel
theorem dX6_readPerson_63 : decode cX6_readPerson 63 = .ok (.return_, 1) := by decide +kernel
theorem dX6_readGrowth_0 : decode cX6_readGrowth 0 = .ok (.aload_n 0, 1) := by decide +kernel
theorem dX6_readGrowth_1 : decode cX6_readGrowth 1 = .ok (.iconst 0, 1) := by decide +kernel
theorem dX6_readGrowth_2 : decode cX6_readGrowth 2 = .ok (.aload_n 1, 1) := by decide +kernel
theorem dX6_readGrowth_3 : decode cX6_readGrowth 3 = .ok (.getfield 41, 3) := by decide +kernel
theorem dX6_readGrowth_6 : decode cX6_readGrowth 6 = .ok (.iconst 1, 1) := by decide +kernel
theorem dX6_readGrowth_7 : decode cX6_readGrowth 7 = .ok (.isub, 1) := by decide +kernel
theorem dX6_readGrowth_8 : decode cX6_readGrowth 8 = .ok (.invokevirtual 59, 3) := by decide +kernel
theorem dX6_readGrowth_11 : decode cX6_readGrowth 11 = .ok (.istore_n 2, 1) := by decide +kernel
theorem dX6_readGrowth_12 : decode cX6_readGrowth 12 = .ok (.aload_n 0, 1) := by decide +kernel
theorem dX6_readGrowth_13 : decode cX6_readGrowth 13 = .ok (.iconst 0, 1) := by decide +kernel
theorem dX6_readGrowth_14 : decode cX6_readGrowth 14 = .ok (.iconst 3, 1) := by decide +kernel
theorem dX6_readGrowth_15 : decode cX6_readGrowth 15 = .ok (.invokevirtual 59, 3) := by decide +kernel
theorem dX6_readGrowth_18 : decode cX6_readGrowth 18 = .ok (.istore_n 3, 1) := by decide +kernel
theorem dX6_readGrowth_19 : decode cX6_readGrowth 19 = .ok (.aload_n 0, 1) := by decide +kernel
theorem dX6_readGrowth_20 : decode cX6_readGrowth 20 = .ok (.iconst 0, 1) := by decide +kernel
theorem dX6_readGrowth_21 : decode cX6_readGrowth 21 = .ok (.iconst 3, 1) := by decide +kernel
theorem dX6_readGrowth_22 : decode cX6_readGrowth 22 = .ok (.invokevirtual 59, 3) := by decide +kernel
theorem dX6_readGrowth_25 : decode cX6_readGrowth 25 = .ok (.istore 4, 2) := by decide +kernel
theorem dX6_readGrowth_27 : decode cX6_readGrowth 27 = .ok (.aload_n 0, 1) := by decide +kernel
theorem dX6_readGrowth_28 : decode cX6_readGrowth 28 = .ok (.invokevirtual 63, 3) := by decide +kernel
theorem dX6_readGrowth_31 : decode cX6_readGrowth 31 = .ok (.aload_n 0, 1) := by decide +kernel
theorem dX6_readGrowth_32 : decode cX6_readGrowth 32 = .ok (.invokevirtual 33, 3) := by decide +kernel
theorem dX6_readGrowth_35 : decode cX6_readGrowth 35 = .ok (.ifCond .ne 15, 3) := by decide +kernel
theorem dX6_readGrowth_38 : decode cX6_readGrowth 38 = .ok (.aload_n 1, 1) := by decide +kernel
theorem dX6_readGrowth_39 : decode cX6_readGrowth 39 = .ok (.getfield 73, 3) := by decide +kernel
theorem dX6_readGrowth_42 : decode cX6_readGrowth 42 = .ok (.iload_n 2, 1) := by decide +kernel
theorem dX6_readGrowth_43 : decode cX6_readGrowth 43 = .ok (.iconst 4, 1) := by decide +kernel
theorem dX6_readGrowth_44 : decode cX6_readGrowth 44 = .ok (.imul, 1) := by decide +kernel
theorem dX6_readGrowth_45 : decode cX6_readGrowth 45 = .ok (.iload_n 3, 1) := by decide +kernel
theorem dX6_readGrowth_46 : decode cX6_readGrowth 46 = .ok (.iadd, 1) := by decide +kernel
theorem dX6_readGrowth_47 : decode cX6_readGrowth 47 = .ok (.iload 4, 2) := by decide +kernel
theorem dX6_readGrowth_49 : decode cX6_readGrowth 49 = .ok (.iastore, 1) := by decide +kernel
theorem dX6_readGrowth_50 : decode cX6_readGrowth 50 = .ok (.return_, 1) := by decide +kernel
theorem dX6_readPiece_0 : decode cX6_readPiece 0 = .ok (.aload_n 0, 1) := by decide +kernel
theorem dX6_readPiece_1 : decode cX6_readPiece 1 = .ok (.iconst 1, 1) := by decide +kernel
theorem dX6_readPiece_2 : decode cX6_readPiece 2 = .ok (.bipush 60, 2) := by decide +kernel
theorem dX6_readPiece_4 : decode cX6_readPiece 4 = .ok (.invokevirtual 59, 3) := by decide +kernel
theorem dX6_readPiece_7 : decode cX6_readPiece 7 = .ok (.istore_n 2, 1) := by decide +kernel
theorem dX6_readPiece_8 : decode cX6_readPiece 8 = .ok (.aload_n 0, 1) := by decide +kernel
theorem dX6_readPiece_9 : decode cX6_readPiece 9 = .ok (.invokevirtual 63, 3) := by decide +kernel
theorem dX6_readPiece_12 : decode cX6_readPiece 12 = .ok (.aload_n 0, 1) := by decide +kernel
theorem dX6_readPiece_13 : decode cX6_readPiece 13 = .ok (.invokevirtual 33, 3) := by decide +kernel
theorem dX6_readPiece_16 : decode cX6_readPiece 16 = .ok (.ifCond .ne 23, 3) := by decide +kernel
theorem dX6_readPiece_19 : decode cX6_readPiece 19 = .ok (.aload_n 1, 1) := by decide +kernel
theorem dX6_readPiece_20 : decode cX6_readPiece 20 = .ok (.getfield 76, 3) := by decide +kernel
theorem dX6_readPiece_23 : decode cX6_readPiece 23 = .ok (.aload_n 1, 1) := by decide +kernel
theorem dX6_readPiece_24 : decode cX6_readPiece 24 = .ok (.getfield 44, 3) := by decide +kernel
theorem dX6_readPiece_27 : decode cX6_readPiece 27 = .ok (.iload_n 2, 1) := by decide +kernel
theorem dX6_readPiece_28 : decode cX6_readPiece 28 = .ok (.iastore, 1) := by decide +kernel
theorem dX6_readPiece_29 : decode cX6_readPiece 29 = .ok (.aload_n 1, 1) := by decide +kernel
theorem dX6_readPiece_30 : decode cX6_readPiece 30 = .ok (.dup, 1) := by decide +kernel
theorem dX6_readPiece_31 : decode cX6_readPiece 31 = .ok (.getfield 44, 3) := by decide +kernel
theorem dX6_readPiece_34 : decode cX6_readPiece 34 = .ok (.iconst 1, 1) := by decide +kernel
theorem dX6_readPiece_35 : decode cX6_readPiece 35 = .ok (.iadd, 1) := by decide +kernel
theorem dX6_readPiece_36 : decode cX6_readPiece 36 = .ok (.putfield 44, 3) := by decide +kernel
theorem dX6_readPiece_39 : decode cX6_readPiece 39 = .ok (.return_, 1) := by decide +kernel
theorem dX6_readNumber_0 : decode cX6_readNumber 0 = .ok (.aload_n 0, 1) := by decide +kernel
theorem dX6_readNumber_1 : decode cX6_readNumber 1 = .ok (.invokevirtual 33, 3) := by decide +kernel
theorem dX6_readNumber_4 : decode cX6_readNumber 4 = .ok (.ifCond .eq 5, 3) := by decide +kernel
theorem dX6_readNumber_7 : decode cX6_readNumber 7 = .ok (.iload_n 1, 1) := by decide +kernel
theorem dX6_readNumber_8 : decode cX6_readNumber 8 = .ok (.ireturn, 1) := by decide +kernel
theorem dX6_readNumber_9 : decode cX6_readNumber 9 = .ok (.aload_n 0, 1) := by decide +kernel
theorem dX6_readNumber_10 : decode cX6_readNumber 10 = .ok (.invokevirtual 30, 3) := by decide +kernel
theorem dX6_readNumber_13 : decode cX6_readNumber 13 = .ok (.aload_n 0, 1) := by decide +kernel
theorem dX6_readNumber_14 : decode cX6_readNumber 14 = .ok (.getfield 27, 3) := by decide +kernel
theorem dX6_readNumber_17 : decode cX6_readNumber 17 = .ok (.istore_n 3, 1) := by decide +kernel
theorem dX6_readNumber_18 : decode cX6_readNumber 18 = .ok (.iconst 0, 1) := by decide +kernel
theorem dX6_readNumber_19 : decode cX6_readNumber 19 = .ok (.istore 4, 2) := by decide +kernel
theorem dX6_readNumber_21 : decode cX6_readNumber 21 = .ok (.aload_n 0, 1) := by decide +kernel
theorem dX6_readNumber_22 : decode cX6_readNumber 22 = .ok (.getfield 27, 3) := by decide +kernel
theorem dX6_readNumber_25 : decode cX6_readNumber 25 = .ok (.aload_n 0, 1) := by decide +kernel
theorem dX6_readNumber_26 : decode cX6_readNumber 26 = .ok (.getfield 19, 3) := by decide +kernel
theorem dX6_readNumber_29 : decode cX6_readNumber 29 = .ok (.if_icmp .ge 61, 3) := by decide +kernel
theorem dX6_readNumber_32 : decode cX6_readNumber 32 = .ok (.aload_n 0, 1) := by decide +kernel
theorem dX6_readNumber_33 : decode cX6_readNumber 33 = .ok (.getfield 9, 3) := by decide +kernel
theorem dX6_readNumber_36 : decode cX6_readNumber 36 = .ok (.aload_n 0, 1) := by decide +kernel
theorem dX6_readNumber_37 : decode cX6_readNumber 37 = .ok (.getfield 27, 3) := by decide +kernel
theorem dX6_readNumber_40 : decode cX6_readNumber 40 = .ok (.caload, 1) := by decide +kernel
theorem dX6_readNumber_41 : decode cX6_readNumber 41 = .ok (.invokestatic 79, 3) := by decide +kernel
theorem dX6_readNumber_44 : decode cX6_readNumber 44 = .ok (.ifCond .eq 46, 3) := by decide +kernel
theorem dX6_readNumber_47 : decode cX6_readNumber 47 = .ok (.aload_n 0, 1) := by decide +kernel
theorem dX6_readNumber_48 : decode cX6_readNumber 48 = .ok (.getfield 27, 3) := by decide +kernel
theorem dX6_readNumber_51 : decode cX6_readNumber 51 = .ok (.iload_n 3, 1) := by decide +kernel
theorem dX6_readNumber_52 : decode cX6_readNumber 52 = .ok (.isub, 1) := by decide +kernel
theorem dX6_readNumber_53 : decode cX6_readNumber 53 = .ok (.iconst 2, 1) := by decide +kernel
theorem dX6_readNumber_54 : decode cX6_readNumber 54 = .ok (.if_icmp .ge 23, 3) := by decide +kernel
theorem dX6_readNumber_57 : decode cX6_readNumber 57 = .ok (.iload 4, 2) := by decide +kernel
theorem dX6_readNumber_59 : decode cX6_readNumber 59 = .ok (.bipush 10, 2) := by decide +kernel
theorem dX6_readNumber_61 : decode cX6_readNumber 61 = .ok (.imul, 1) := by decide +kernel
theorem dX6_readNumber_62 : decode cX6_readNumber 62 = .ok (.aload_n 0, 1) := by decide +kernel
theorem dX6_readNumber_63 : decode cX6_readNumber 63 = .ok (.getfield 9, 3) := by decide +kernel
theorem dX6_readNumber_66 : decode cX6_readNumber 66 = .ok (.aload_n 0, 1) := by decide +kernel
theorem dX6_readNumber_67 : decode cX6_readNumber 67 = .ok (.getfield 27, 3) := by decide +kernel
theorem dX6_readNumber_70 : decode cX6_readNumber 70 = .ok (.caload, 1) := by decide +kernel
theorem dX6_readNumber_71 : decode cX6_readNumber 71 = .ok (.bipush 48, 2) := by decide +kernel
theorem dX6_readNumber_73 : decode cX6_readNumber 73 = .ok (.isub, 1) := by decide +kernel
theorem dX6_readNumber_74 : decode cX6_readNumber 74 = .ok (.iadd, 1) := by decide +kernel
theorem dX6_readNumber_75 : decode cX6_readNumber 75 = .ok (.istore 4, 2) := by decide +kernel
theorem dX6_readNumber_77 : decode cX6_readNumber 77 = .ok (.aload_n 0, 1) := by decide +kernel
theorem dX6_readNumber_78 : decode cX6_readNumber 78 = .ok (.dup, 1) := by decide +kernel
theorem dX6_readNumber_79 : decode cX6_readNumber 79 = .ok (.getfield 27, 3) := by decide +kernel
theorem dX6_readNumber_82 : decode cX6_readNumber 82 = .ok (.iconst 1, 1) := by decide +kernel
theorem dX6_readNumber_83 : decode cX6_readNumber 83 = .ok (.iadd, 1) := by decide +kernel
theorem dX6_readNumber_84 : decode cX6_readNumber 84 = .ok (.putfield 27, 3) := by decide +kernel
theorem dX6_readNumber_87 : decode cX6_readNumber 87 = .ok (.goto (-66), 3) := by decide +kernel
theorem dX6_readNumber_90 : decode cX6_readNumber 90 = .ok (.aload_n 0, 1) := by decide +kernel
theorem dX6_readNumber_91 : decode cX6_readNumber 91 = .ok (.getfield 27, 3) := by decide +kernel
theorem dX6_readNumber_94 : decode cX6_readNumber 94 = .ok (.iload_n 3, 1) := by decide +kernel
theorem dX6_readNumber_95 : decode cX6_readNumber 95 = .ok (.isub, 1) := by decide +kernel
theorem dX6_readNumber_96 : decode cX6_readNumber 96 = .ok (.istore 5, 2) := by decide +kernel
theorem dX6_readNumber_98 : decode cX6_readNumber 98 = .ok (.iload 5, 2) := by decide +kernel
theorem dX6_readNumber_100 : decode cX6_readNumber 100 = .ok (.iconst 1, 1) := by decide +kernel
theorem dX6_readNumber_101 : decode cX6_readNumber 101 = .ok (.if_icmp .eq 20, 3) := by decide +kernel
theorem dX6_readNumber_104 : decode cX6_readNumber 104 = .ok (.iload 5, 2) := by decide +kernel
theorem dX6_readNumber_106 : decode cX6_readNumber 106 = .ok (.iconst 2, 1) := by decide +kernel
theorem dX6_readNumber_107 : decode cX6_readNumber 107 = .ok (.if_icmp .ne 18, 3) := by decide +kernel
theorem dX6_readNumber_110 : decode cX6_readNumber 110 = .ok (.aload_n 0, 1) := by decide +kernel
theorem dX6_readNumber_111 : decode cX6_readNumber 111 = .ok (.getfield 9, 3) := by decide +kernel
theorem dX6_readNumber_114 : decode cX6_readNumber 114 = .ok (.iload_n 3, 1) := by decide +kernel
theorem dX6_readNumber_115 : decode cX6_readNumber 115 = .ok (.caload, 1) := by decide +kernel
theorem dX6_readNumber_116 : decode cX6_readNumber 116 = .ok (.bipush 48, 2) := by decide +kernel
theorem dX6_readNumber_118 : decode cX6_readNumber 118 = .ok (.if_icmp .eq 7, 3) := by decide +kernel
theorem dX6_readNumber_121 : decode cX6_readNumber 121 = .ok (.iconst 1, 1) := by decide +kernel
theorem dX6_readNumber_122 : decode cX6_readNumber 122 = .ok (.goto 4, 3) := by decide +kernel
theorem dX6_readNumber_125 : decode cX6_readNumber 125 = .ok (.iconst 0, 1) := by decide +kernel
theorem dX6_readNumber_126 : decode cX6_readNumber 126 = .ok (.istore 6, 2) := by decide +kernel
theorem dX6_readNumber_128 : decode cX6_readNumber 128 = .ok (.iload 6, 2) := by decide +kernel
theorem dX6_readNumber_130 : decode cX6_readNumber 130 = .ok (.ifCond .eq 13, 3) := by decide +kernel
theorem dX6_readNumber_133 : decode cX6_readNumber 133 = .ok (.iload 4, 2) := by decide +kernel
theorem dX6_readNumber_135 : decode cX6_readNumber 135 = .ok (.iload_n 1, 1) := by decide +kernel
theorem dX6_readNumber_136 : decode cX6_readNumber 136 = .ok (.iload_n 2, 1) := by decide +kernel
theorem dX6_readNumber_137 : decode cX6_readNumber 137 = .ok (.invokestatic 83, 3) := by decide +kernel
theorem dX6_readNumber_140 : decode cX6_readNumber 140 = .ok (.ifCond .ne 8, 3) := by decide +kernel
theorem dX6_readNumber_143 : decode cX6_readNumber 143 = .ok (.aload_n 0, 1) := by decide +kernel
theorem dX6_readNumber_144 : decode cX6_readNumber 144 = .ok (.iload_n 3, 1) := by decide +kernel
theorem dX6_readNumber_145 : decode cX6_readNumber 145 = .ok (.putfield 15, 3) := by decide +kernel
theorem dX6_readNumber_148 : decode cX6_readNumber 148 = .ok (.iload 4, 2) := by decide +kernel
theorem dX6_readNumber_150 : decode cX6_readNumber 150 = .ok (.ireturn, 1) := by decide +kernel
theorem dX6_readEnd_0 : decode cX6_readEnd 0 = .ok (.aload_n 0, 1) := by decide +kernel
theorem dX6_readEnd_1 : decode cX6_readEnd 1 = .ok (.invokevirtual 33, 3) := by decide +kernel
theorem dX6_readEnd_4 : decode cX6_readEnd 4 = .ok (.ifCond .eq 4, 3) := by decide +kernel
theorem dX6_readEnd_7 : decode cX6_readEnd 7 = .ok (.return_, 1) := by decide +kernel
theorem dX6_readEnd_8 : decode cX6_readEnd 8 = .ok (.aload_n 0, 1) := by decide +kernel
theorem dX6_readEnd_9 : decode cX6_readEnd 9 = .ok (.invokevirtual 30, 3) := by decide +kernel
theorem dX6_readEnd_12 : decode cX6_readEnd 12 = .ok (.aload_n 0, 1) := by decide +kernel
theorem dX6_readEnd_13 : decode cX6_readEnd 13 = .ok (.getfield 27, 3) := by decide +kernel
theorem dX6_readEnd_16 : decode cX6_readEnd 16 = .ok (.aload_n 0, 1) := by decide +kernel
theorem dX6_readEnd_17 : decode cX6_readEnd 17 = .ok (.getfield 19, 3) := by decide +kernel
theorem dX6_readEnd_20 : decode cX6_readEnd 20 = .ok (.if_icmp .ge 30, 3) := by decide +kernel
theorem dX6_readEnd_23 : decode cX6_readEnd 23 = .ok (.aload_n 0, 1) := by decide +kernel
theorem dX6_readEnd_24 : decode cX6_readEnd 24 = .ok (.getfield 9, 3) := by decide +kernel
theorem dX6_readEnd_27 : decode cX6_readEnd 27 = .ok (.aload_n 0, 1) := by decide +kernel
theorem dX6_readEnd_28 : decode cX6_readEnd 28 = .ok (.getfield 27, 3) := by decide +kernel
theorem dX6_readEnd_31 : decode cX6_readEnd 31 = .ok (.caload, 1) := by decide +kernel
theorem dX6_readEnd_32 : decode cX6_readEnd 32 = .ok (.bipush 59, 2) := by decide +kernel
theorem dX6_readEnd_34 : decode cX6_readEnd 34 = .ok (.if_icmp .ne 16, 3) := by decide +kernel
theorem dX6_readEnd_37 : decode cX6_readEnd 37 = .ok (.aload_n 0, 1) := by decide +kernel
theorem dX6_readEnd_38 : decode cX6_readEnd 38 = .ok (.dup, 1) := by decide +kernel
theorem dX6_readEnd_39 : decode cX6_readEnd 39 = .ok (.getfield 27, 3) := by decide +kernel
theorem dX6_readEnd_42 : decode cX6_readEnd 42 = .ok (.iconst 1, 1) := by decide +kernel
theorem dX6_readEnd_43 : decode cX6_readEnd 43 = .ok (.iadd, 1) := by decide +kernel
theorem dX6_readEnd_44 : decode cX6_readEnd 44 = .ok (.putfield 27, 3) := by decide +kernel
theorem dX6_readEnd_47 : decode cX6_readEnd 47 = .ok (.goto 11, 3) := by decide +kernel
theorem dX6_readEnd_50 : decode cX6_readEnd 50 = .ok (.aload_n 0, 1) := by decide +kernel
theorem dX6_readEnd_51 : decode cX6_readEnd 51 = .ok (.aload_n 0, 1) := by decide +kernel
theorem dX6_readEnd_52 : decode cX6_readEnd 52 = .ok (.getfield 27, 3) := by decide +kernel
theorem dX6_readEnd_55 : decode cX6_readEnd 55 = .ok (.putfield 15, 3) := by decide +kernel
theorem dX6_readEnd_58 : decode cX6_readEnd 58 = .ok (.return_, 1) := by decide +kernel
theorem dX6_skipBlanks_0 : decode cX6_skipBlanks 0 = .ok (.aload_n 0, 1) := by decide +kernel
theorem dX6_skipBlanks_1 : decode cX6_skipBlanks 1 = .ok (.getfield 27, 3) := by decide +kernel
theorem dX6_skipBlanks_4 : decode cX6_skipBlanks 4 = .ok (.aload_n 0, 1) := by decide +kernel
theorem dX6_skipBlanks_5 : decode cX6_skipBlanks 5 = .ok (.getfield 19, 3) := by decide +kernel
theorem dX6_skipBlanks_8 : decode cX6_skipBlanks 8 = .ok (.if_icmp .ge 30, 3) := by decide +kernel
theorem dX6_skipBlanks_11 : decode cX6_skipBlanks 11 = .ok (.aload_n 0, 1) := by decide +kernel
theorem dX6_skipBlanks_12 : decode cX6_skipBlanks 12 = .ok (.getfield 9, 3) := by decide +kernel
theorem dX6_skipBlanks_15 : decode cX6_skipBlanks 15 = .ok (.aload_n 0, 1) := by decide +kernel
theorem dX6_skipBlanks_16 : decode cX6_skipBlanks 16 = .ok (.getfield 27, 3) := by decide +kernel
theorem dX6_skipBlanks_19 : decode cX6_skipBlanks 19 = .ok (.caload, 1) := by decide +kernel
theorem dX6_skipBlanks_20 : decode cX6_skipBlanks 20 = .ok (.bipush 32, 2) := by decide +kernel
theorem dX6_skipBlanks_22 : decode cX6_skipBlanks 22 = .ok (.if_icmp .ne 16, 3) := by decide +kernel
theorem dX6_skipBlanks_25 : decode cX6_skipBlanks 25 = .ok (.aload_n 0, 1) := by decide +kernel
theorem dX6_skipBlanks_26 : decode cX6_skipBlanks 26 = .ok (.dup, 1) := by decide +kernel
theorem dX6_skipBlanks_27 : decode cX6_skipBlanks 27 = .ok (.getfield 27, 3) := by decide +kernel
theorem dX6_skipBlanks_30 : decode cX6_skipBlanks 30 = .ok (.iconst 1, 1) := by decide +kernel
theorem dX6_skipBlanks_31 : decode cX6_skipBlanks 31 = .ok (.iadd, 1) := by decide +kernel
theorem dX6_skipBlanks_32 : decode cX6_skipBlanks 32 = .ok (.putfield 27, 3) := by decide +kernel
theorem dX6_skipBlanks_35 : decode cX6_skipBlanks 35 = .ok (.goto (-35), 3) := by decide +kernel
theorem dX6_skipBlanks_38 : decode cX6_skipBlanks 38 = .ok (.return_, 1) := by decide +kernel
theorem dX6_isFigure_0 : decode cX6_isFigure 0 = .ok (.iload_n 0, 1) := by decide +kernel
theorem dX6_isFigure_1 : decode cX6_isFigure 1 = .ok (.bipush 48, 2) := by decide +kernel
theorem dX6_isFigure_3 : decode cX6_isFigure 3 = .ok (.if_icmp .lt 13, 3) := by decide +kernel
theorem dX6_isFigure_6 : decode cX6_isFigure 6 = .ok (.iload_n 0, 1) := by decide +kernel
theorem dX6_isFigure_7 : decode cX6_isFigure 7 = .ok (.bipush 57, 2) := by decide +kernel
theorem dX6_isFigure_9 : decode cX6_isFigure 9 = .ok (.if_icmp .gt 7, 3) := by decide +kernel
theorem dX6_isFigure_12 : decode cX6_isFigure 12 = .ok (.iconst 1, 1) := by decide +kernel
theorem dX6_isFigure_13 : decode cX6_isFigure 13 = .ok (.goto 4, 3) := by decide +kernel
theorem dX6_isFigure_16 : decode cX6_isFigure 16 = .ok (.iconst 0, 1) := by decide +kernel
theorem dX6_isFigure_17 : decode cX6_isFigure 17 = .ok (.ireturn, 1) := by decide +kernel
theorem dX7_init_0 : decode cX7_init 0 = .ok (.aload_n 0, 1) := by decide +kernel
theorem dX7_init_1 : decode cX7_init 1 = .ok (.invokespecial 3, 3) := by decide +kernel
theorem dX7_init_4 : decode cX7_init 4 = .ok (.aload_n 0, 1) := by decide +kernel
theorem dX7_init_5 : decode cX7_init 5 = .ok (.iconst 4, 1) := by decide +kernel
theorem dX7_init_6 : decode cX7_init 6 = .ok (.newarray .int, 2) := by decide +kernel
theorem dX7_init_8 : decode cX7_init 8 = .ok (.putfield 9, 3) := by decide +kernel
theorem dX7_init_11 : decode cX7_init 11 = .ok (.aload_n 0, 1) := by decide +kernel
theorem dX7_init_12 : decode cX7_init 12 = .ok (.bipush 16, 2) := by decide +kernel
theorem dX7_init_14 : decode cX7_init 14 = .ok (.newarray .int, 2) := by decide +kernel
theorem dX7_init_16 : decode cX7_init 16 = .ok (.putfield 15, 3) := by decide +kernel
theorem dX7_init_19 : decode cX7_init 19 = .ok (.aload_n 0, 1) := by decide +kernel
theorem dX7_init_20 : decode cX7_init 20 = .ok (.bipush 16, 2) := by decide +kernel
theorem dX7_init_22 : decode cX7_init 22 = .ok (.newarray .int, 2) := by decide +kernel
theorem dX7_init_24 : decode cX7_init 24 = .ok (.putfield 18, 3) := by decide +kernel
theorem dX7_init_27 : decode cX7_init 27 = .ok (.aload_n 0, 1) := by decide +kernel
theorem dX7_init_28 : decode cX7_init 28 = .ok (.iconst 5, 1) := by decide +kernel
theorem dX7_init_29 : decode cX7_init 29 = .ok (.newarray .int, 2) := by decide +kernel
theorem dX7_init_31 : decode cX7_init 31 = .ok (.putfield 21, 3) := by decide +kernel
theorem dX7_init_34 : decode cX7_init 34 = .ok (.return_, 1) := by decide +kernel
theorem dX7_makeEmpty_0 : decode cX7_makeEmpty 0 = .ok (.getstatic 24, 3) := by decide +kernel
theorem dX7_makeEmpty_3 : decode cX7_makeEmpty 3 = .ok (.iconst 0, 1) := by decide +kernel
theorem dX7_makeEmpty_4 : decode cX7_makeEmpty 4 = .ok (.aload_n 0, 1) := by decide +kernel
theorem dX7_makeEmpty_5 : decode cX7_makeEmpty 5 = .ok (.getfield 9, 3) := by decide +kernel
theorem dX7_makeEmpty_8 : decode cX7_makeEmpty 8 = .ok (.iconst 0, 1) := by decide +kernel
theorem dX7_makeEmpty_9 : decode cX7_makeEmpty 9 = .ok (.iconst 4, 1) := by decide +kernel
theorem dX7_makeEmpty_10 : decode cX7_makeEmpty 10 = .ok (.invokestatic 27, 3) := by decide +kernel
theorem dX7_makeEmpty_13 : decode cX7_makeEmpty 13 = .ok (.aload_n 0, 1) := by decide +kernel
theorem dX7_makeEmpty_14 : decode cX7_makeEmpty 14 = .ok (.getfield 15, 3) := by decide +kernel
theorem dX7_makeEmpty_17 : decode cX7_makeEmpty 17 = .ok (.iconst 0, 1) := by decide +kernel
theorem dX7_makeEmpty_18 : decode cX7_makeEmpty 18 = .ok (.invokestatic 33, 3) := by decide +kernel
theorem dX7_makeEmpty_21 : decode cX7_makeEmpty 21 = .ok (.aload_n 0, 1) := by decide +kernel
theorem dX7_makeEmpty_22 : decode cX7_makeEmpty 22 = .ok (.getfield 18, 3) := by decide +kernel
theorem dX7_makeEmpty_25 : decode cX7_makeEmpty 25 = .ok (.iconst 0, 1) := by decide +kernel
theorem dX7_makeEmpty_26 : decode cX7_makeEmpty 26 = .ok (.invokestatic 33, 3) := by decide +kernel
theorem dX7_makeEmpty_29 : decode cX7_makeEmpty 29 = .ok (.aload_n 0, 1) := by decide +kernel
theorem dX7_makeEmpty_30 : decode cX7_makeEmpty 30 = .ok (.getfield 21, 3) := by decide +kernel
theorem dX7_makeEmpty_33 : decode cX7_makeEmpty 33 = .ok (.iconst 0, 1) := by decide +kernel
theorem dX7_makeEmpty_34 : decode cX7_makeEmpty 34 = .ok (.invokestatic 33, 3) := by decide +kernel
theorem dX7_makeEmpty_37 : decode cX7_makeEmpty 37 = .ok (.aload_n 0, 1) := by decide +kernel
theorem dX7_makeEmpty_38 : decode cX7_makeEmpty 38 = .ok (.iconst 0, 1) := by decide +kernel
theorem dX7_makeEmpty_39 : decode cX7_makeEmpty 39 = .ok (.putfield 39, 3) := by decide +kernel
theorem dX7_makeEmpty_42 : decode cX7_makeEmpty 42 = .ok (.aload_n 0, 1) := by decide +kernel
theorem dX7_makeEmpty_43 : decode cX7_makeEmpty 43 = .ok (.iconst 0, 1) := by decide +kernel
theorem dX7_makeEmpty_44 : decode cX7_makeEmpty 44 = .ok (.putfield 43, 3) := by decide +kernel
theorem dX7_makeEmpty_47 : decode cX7_makeEmpty 47 = .ok (.return_, 1) := by decide +kernel
theorem dX7_copyFrom_0 : decode cX7_copyFrom 0 = .ok (.aload_n 1, 1) := by decide +kernel
theorem dX7_copyFrom_1 : decode cX7_copyFrom 1 = .ok (.getfield 9, 3) := by decide +kernel
theorem dX7_copyFrom_4 : decode cX7_copyFrom 4 = .ok (.iconst 0, 1) := by decide +kernel
theorem dX7_copyFrom_5 : decode cX7_copyFrom 5 = .ok (.aload_n 0, 1) := by decide +kernel
theorem dX7_copyFrom_6 : decode cX7_copyFrom 6 = .ok (.getfield 9, 3) := by decide +kernel
theorem dX7_copyFrom_9 : decode cX7_copyFrom 9 = .ok (.iconst 0, 1) := by decide +kernel
theorem dX7_copyFrom_10 : decode cX7_copyFrom 10 = .ok (.aload_n 0, 1) := by decide +kernel
theorem dX7_copyFrom_11 : decode cX7_copyFrom 11 = .ok (.getfield 9, 3) := by decide +kernel
theorem dX7_copyFrom_14 : decode cX7_copyFrom 14 = .ok (.arraylength, 1) := by decide +kernel
theorem dX7_copyFrom_15 : decode cX7_copyFrom 15 = .ok (.invokestatic 27, 3) := by decide +kernel
theorem dX7_copyFrom_18 : decode cX7_copyFrom 18 = .ok (.aload_n 1, 1) := by decide +kernel
theorem dX7_copyFrom_19 : decode cX7_copyFrom 19 = .ok (.getfield 15, 3) := by decide +kernel
theorem dX7_copyFrom_22 : decode cX7_copyFrom 22 = .ok (.iconst 0, 1) := by decide +kernel
theorem dX7_copyFrom_23 : decode cX7_copyFrom 23 = .ok (.aload_n 0, 1) := by decide +kernel
theorem dX7_copyFrom_24 : decode cX7_copyFrom 24 = .ok (.getfield 15, 3) := by decide +kernel
theorem dX7_copyFrom_27 : decode cX7_copyFrom 27 = .ok (.iconst 0, 1) := by decide +kernel
theorem dX7_copyFrom_28 : decode cX7_copyFrom 28 = .ok (.aload_n 0, 1) := by decide +kernel
theorem dX7_copyFrom_29 : decode cX7_copyFrom 29 = .ok (.getfield 15, 3) := by decide +kernel
theorem dX7_copyFrom_32 : decode cX7_copyFrom 32 = .ok (.arraylength, 1) := by decide +kernel
theorem dX7_copyFrom_33 : decode cX7_copyFrom 33 = .ok (.invokestatic 27, 3) := by decide +kernel
theorem dX7_copyFrom_36 : decode cX7_copyFrom 36 = .ok (.aload_n 1, 1) := by decide +kernel
theorem dX7_copyFrom_37 : decode cX7_copyFrom 37 = .ok (.getfield 18, 3) := by decide +kernel
theorem dX7_copyFrom_40 : decode cX7_copyFrom 40 = .ok (.iconst 0, 1) := by decide +kernel
theorem dX7_copyFrom_41 : decode cX7_copyFrom 41 = .ok (.aload_n 0, 1) := by decide +kernel
theorem dX7_copyFrom_42 : decode cX7_copyFrom 42 = .ok (.getfield 18, 3) := by decide +kernel
theorem dX7_copyFrom_45 : decode cX7_copyFrom 45 = .ok (.iconst 0, 1) := by decide +kernel
theorem dX7_copyFrom_46 : decode cX7_copyFrom 46 = .ok (.aload_n 0, 1) := by decide +kernel
theorem dX7_copyFrom_47 : decode cX7_copyFrom 47 = .ok (.getfield 18, 3) := by decide +kernel
theorem dX7_copyFrom_50 : decode cX7_copyFrom 50 = .ok (.arraylength, 1) := by decide +kernel
theorem dX7_copyFrom_51 : decode cX7_copyFrom 51 = .ok (.invokestatic 27, 3) := by decide +kernel
theorem dX7_copyFrom_54 : decode cX7_copyFrom 54 = .ok (.aload_n 1, 1) := by decide +kernel
theorem dX7_copyFrom_55 : decode cX7_copyFrom 55 = .ok (.getfield 21, 3) := by decide +kernel
theorem dX7_copyFrom_58 : decode cX7_copyFrom 58 = .ok (.iconst 0, 1) := by decide +kernel
theorem dX7_copyFrom_59 : decode cX7_copyFrom 59 = .ok (.aload_n 0, 1) := by decide +kernel
theorem dX7_copyFrom_60 : decode cX7_copyFrom 60 = .ok (.getfield 21, 3) := by decide +kernel
theorem dX7_copyFrom_63 : decode cX7_copyFrom 63 = .ok (.iconst 0, 1) := by decide +kernel
theorem dX7_copyFrom_64 : decode cX7_copyFrom 64 = .ok (.aload_n 0, 1) := by decide +kernel
theorem dX7_copyFrom_65 : decode cX7_copyFrom 65 = .ok (.getfield 21, 3) := by decide +kernel
theorem dX7_copyFrom_68 : decode cX7_copyFrom 68 = .ok (.arraylength, 1) := by decide +kernel
theorem dX7_copyFrom_69 : decode cX7_copyFrom 69 = .ok (.invokestatic 27, 3) := by decide +kernel
theorem dX7_copyFrom_72 : decode cX7_copyFrom 72 = .ok (.aload_n 0, 1) := by decide +kernel
theorem dX7_copyFrom_73 : decode cX7_copyFrom 73 = .ok (.aload_n 1, 1) := by decide +kernel
theorem dX7_copyFrom_74 : decode cX7_copyFrom 74 = .ok (.getfield 39, 3) := by decide +kernel
theorem dX7_copyFrom_77 : decode cX7_copyFrom 77 = .ok (.putfield 39, 3) := by decide +kernel
theorem dX7_copyFrom_80 : decode cX7_copyFrom 80 = .ok (.aload_n 0, 1) := by decide +kernel
theorem dX7_copyFrom_81 : decode cX7_copyFrom 81 = .ok (.aload_n 1, 1) := by decide +kernel
theorem dX7_copyFrom_82 : decode cX7_copyFrom 82 = .ok (.getfield 43, 3) := by decide +kernel
theorem dX7_copyFrom_85 : decode cX7_copyFrom 85 = .ok (.putfield 43, 3) := by decide +kernel
theorem dX7_copyFrom_88 : decode cX7_copyFrom 88 = .ok (.return_, 1) := by decide +kernel
theorem dX8_init_0 : decode cX8_init 0 = .ok (.aload_n 0, 1) := by decide +kernel
theorem dX8_init_1 : decode cX8_init 1 = .ok (.invokespecial 3, 3) := by decide +kernel
theorem dX8_init_4 : decode cX8_init 4 = .ok (.aload_n 0, 1) := by decide +kernel
theorem dX8_init_5 : decode cX8_init 5 = .ok (.new 9, 3) := by decide +kernel
theorem dX8_init_8 : decode cX8_init 8 = .ok (.dup, 1) := by decide +kernel
theorem dX8_init_9 : decode cX8_init 9 = .ok (.invokespecial 11, 3) := by decide +kernel
theorem dX8_init_12 : decode cX8_init 12 = .ok (.putfield 12, 3) := by decide +kernel
theorem dX8_init_15 : decode cX8_init 15 = .ok (.aload_n 0, 1) := by decide +kernel
theorem dX8_init_16 : decode cX8_init 16 = .ok (.new 16, 3) := by decide +kernel
theorem dX8_init_19 : decode cX8_init 19 = .ok (.dup, 1) := by decide +kernel
theorem dX8_init_20 : decode cX8_init 20 = .ok (.invokespecial 18, 3) := by decide +kernel
theorem dX8_init_23 : decode cX8_init 23 = .ok (.putfield 19, 3) := by decide +kernel
theorem dX8_init_26 : decode cX8_init 26 = .ok (.aload_n 0, 1) := by decide +kernel
theorem dX8_init_27 : decode cX8_init 27 = .ok (.new 16, 3) := by decide +kernel
theorem dX8_init_30 : decode cX8_init 30 = .ok (.dup, 1) := by decide +kernel
theorem dX8_init_31 : decode cX8_init 31 = .ok (.invokespecial 18, 3) := by decide +kernel
theorem dX8_init_34 : decode cX8_init 34 = .ok (.putfield 23, 3) := by decide +kernel
theorem dX8_init_37 : decode cX8_init 37 = .ok (.aload_n 0, 1) := by decide +kernel
theorem dX8_init_38 : decode cX8_init 38 = .ok (.new 26, 3) := by decide +kernel
theorem dX8_init_41 : decode cX8_init 41 = .ok (.dup, 1) := by decide +kernel
theorem dX8_init_42 : decode cX8_init 42 = .ok (.invokespecial 28, 3) := by decide +kernel
theorem dX8_init_45 : decode cX8_init 45 = .ok (.putfield 29, 3) := by decide +kernel
theorem dX8_init_48 : decode cX8_init 48 = .ok (.aload_n 0, 1) := by decide +kernel
theorem dX8_init_49 : decode cX8_init 49 = .ok (.new 33, 3) := by decide +kernel
theorem dX8_init_52 : decode cX8_init 52 = .ok (.dup, 1) := by decide +kernel
theorem dX8_init_53 : decode cX8_init 53 = .ok (.invokespecial 35, 3) := by decide +kernel
theorem dX8_init_56 : decode cX8_init 56 = .ok (.putfield 36, 3) := by decide +kernel
theorem dX8_init_59 : decode cX8_init 59 = .ok (.aload_n 0, 1) := by decide +kernel
theorem dX8_init_60 : decode cX8_init 60 = .ok (.iconst 2, 1) := by decide +kernel
theorem dX8_init_61 : decode cX8_init 61 = .ok (.anewarray 26, 3) := by decide +kernel
theorem dX8_init_64 : decode cX8_init 64 = .ok (.dup, 1) := by decide +kernel
theorem dX8_init_65 : decode cX8_init 65 = .ok (.iconst 0, 1) := by decide +kernel
theorem dX8_init_66 : decode cX8_init 66 = .ok (.new 26, 3) := by decide +kernel
theorem dX8_init_69 : decode cX8_init 69 = .ok (.dup, 1) := by decide +kernel
theorem dX8_init_70 : decode cX8_init 70 = .ok (.invokespecial 28, 3) := by decide +kernel
theorem dX8_init_73 : decode cX8_init 73 = .ok (.aastore, 1) := by decide +kernel
theorem dX8_init_74 : decode cX8_init 74 = .ok (.dup, 1) := by decide +kernel
theorem dX8_init_75 : decode cX8_init 75 = .ok (.iconst 1, 1) := by decide +kernel
theorem dX8_init_76 : decode cX8_init 76 = .ok (.new 26, 3) := by decide +kernel
theorem dX8_init_79 : decode cX8_init 79 = .ok (.dup, 1) := by decide +kernel
theorem dX8_init_80 : decode cX8_init 80 = .ok (.invokespecial 28, 3) := by decide +kernel
theorem dX8_init_83 : decode cX8_init 83 = .ok (.aastore, 1) := by decide +kernel
theorem dX8_init_84 : decode cX8_init 84 = .ok (.putfield 40, 3) := by decide +kernel
theorem dX8_init_87 : decode cX8_init 87 = .ok (.aload_n 0, 1) := by decide +kernel
theorem dX8_init_88 : decode cX8_init 88 = .ok (.iconst 2, 1) := by decide +kernel
theorem dX8_init_89 : decode cX8_init 89 = .ok (.newarray .boolean, 2) := by decide +kernel
theorem dX8_init_91 : decode cX8_init 91 = .ok (.putfield 44, 3) := by decide +kernel
theorem dX8_init_94 : decode cX8_init 94 = .ok (.aload_n 0, 1) := by decide +kernel
theorem dX8_init_95 : decode cX8_init 95 = .ok (.new 48, 3) := by decide +kernel
theorem dX8_init_98 : decode cX8_init 98 = .ok (.dup, 1) := by decide +kernel
theorem dX8_init_99 : decode cX8_init 99 = .ok (.invokespecial 50, 3) := by decide +kernel
theorem dX8_init_102 : decode cX8_init 102 = .ok (.putfield 51, 3) := by decide +kernel
theorem dX8_init_105 : decode cX8_init 105 = .ok (.aload_n 0, 1) := by decide +kernel
theorem dX8_init_106 : decode cX8_init 106 = .ok (.new 55, 3) := by decide +kernel
theorem dX8_init_109 : decode cX8_init 109 = .ok (.dup, 1) := by decide +kernel
theorem dX8_init_110 : decode cX8_init 110 = .ok (.invokespecial 57, 3) := by decide +kernel
theorem dX8_init_113 : decode cX8_init 113 = .ok (.putfield 58, 3) := by decide +kernel
theorem dX8_init_116 : decode cX8_init 116 = .ok (.aload_n 0, 1) := by decide +kernel
theorem dX8_init_117 : decode cX8_init 117 = .ok (.new 62, 3) := by decide +kernel
theorem dX8_init_120 : decode cX8_init 120 = .ok (.dup, 1) := by decide +kernel
theorem dX8_init_121 : decode cX8_init 121 = .ok (.invokespecial 64, 3) := by decide +kernel
theorem dX8_init_124 : decode cX8_init 124 = .ok (.putfield 65, 3) := by decide +kernel
theorem dX8_init_127 : decode cX8_init 127 = .ok (.aload_n 0, 1) := by decide +kernel
theorem dX8_init_128 : decode cX8_init 128 = .ok (.new 69, 3) := by decide +kernel
theorem dX8_init_131 : decode cX8_init 131 = .ok (.dup, 1) := by decide +kernel
theorem dX8_init_132 : decode cX8_init 132 = .ok (.invokespecial 71, 3) := by decide +kernel
theorem dX8_init_135 : decode cX8_init 135 = .ok (.putfield 72, 3) := by decide +kernel
theorem dX8_init_138 : decode cX8_init 138 = .ok (.aload_n 0, 1) := by decide +kernel
theorem dX8_init_139 : decode cX8_init 139 = .ok (.getfield 19, 3) := by decide +kernel
theorem dX8_init_142 : decode cX8_init 142 = .ok (.invokevirtual 76, 3) := by decide +kernel
theorem dX8_init_145 : decode cX8_init 145 = .ok (.aload_n 0, 1) := by decide +kernel
theorem dX8_init_146 : decode cX8_init 146 = .ok (.invokevirtual 79, 3) := by decide +kernel
theorem dX8_init_149 : decode cX8_init 149 = .ok (.return_, 1) := by decide +kernel
theorem dX8_type_0 : decode cX8_type 0 = .ok (.iload_n 1, 1) := by decide +kernel
theorem dX8_type_1 : decode cX8_type 1 = .ok (.iconst 0, 1) := by decide +kernel
theorem dX8_type_2 : decode cX8_type 2 = .ok (.sipush 255, 3) := by decide +kernel
theorem dX8_type_5 : decode cX8_type 5 = .ok (.invokestatic 82, 3) := by decide +kernel
theorem dX8_type_8 : decode cX8_type 8 = .ok (.ifCond .ne 5, 3) := by decide +kernel
theorem dX8_type_11 : decode cX8_type 11 = .ok (.iconst (-1), 1) := by decide +kernel
theorem dX8_type_12 : decode cX8_type 12 = .ok (.ireturn, 1) := by decide +kernel
theorem dX8_type_13 : decode cX8_type 13 = .ok (.aload_n 0, 1) := by decide +kernel
theorem dX8_type_14 : decode cX8_type 14 = .ok (.getfield 12, 3) := by decide +kernel
theorem dX8_type_17 : decode cX8_type 17 = .ok (.iload_n 1, 1) := by decide +kernel
theorem dX8_type_18 : decode cX8_type 18 = .ok (.i2c, 1) := by decide +kernel
theorem dX8_type_19 : decode cX8_type 19 = .ok (.invokevirtual 86, 3) := by decide +kernel
theorem dX8_type_22 : decode cX8_type 22 = .ok (.ifCond .eq 13, 3) := by decide +kernel
theorem dX8_type_25 : decode cX8_type 25 = .ok (.aload_n 0, 1) := by decide +kernel
theorem dX8_type_26 : decode cX8_type 26 = .ok (.getfield 12, 3) := by decide +kernel
theorem dX8_type_29 : decode cX8_type 29 = .ok (.getfield 90, 3) := by decide +kernel
theorem dX8_type_32 : decode cX8_type 32 = .ok (.goto 5, 3) := by decide +kernel
theorem dX8_type_35 : decode cX8_type 35 = .ok (.bipush (-3), 2) := by decide +kernel
theorem dX8_type_37 : decode cX8_type 37 = .ok (.ireturn, 1) := by decide +kernel
theorem dX8_clear_0 : decode cX8_clear 0 = .ok (.aload_n 0, 1) := by decide +kernel
theorem dX8_clear_1 : decode cX8_clear 1 = .ok (.getfield 12, 3) := by decide +kernel
theorem dX8_clear_4 : decode cX8_clear 4 = .ok (.getfield 90, 3) := by decide +kernel
theorem dX8_clear_7 : decode cX8_clear 7 = .ok (.istore_n 1, 1) := by decide +kernel
theorem dX8_clear_8 : decode cX8_clear 8 = .ok (.aload_n 0, 1) := by decide +kernel
theorem dX8_clear_9 : decode cX8_clear 9 = .ok (.getfield 12, 3) := by decide +kernel
theorem dX8_clear_12 : decode cX8_clear 12 = .ok (.iconst 0, 1) := by decide +kernel
theorem dX8_clear_13 : decode cX8_clear 13 = .ok (.putfield 90, 3) := by decide +kernel
theorem dX8_clear_16 : decode cX8_clear 16 = .ok (.iload_n 1, 1) := by decide +kernel
theorem dX8_clear_17 : decode cX8_clear 17 = .ok (.ireturn, 1) := by decide +kernel
theorem dX8_shop_0 : decode cX8_shop 0 = .ok (.aload_n 0, 1) := by decide +kernel
theorem dX8_shop_1 : decode cX8_shop 1 = .ok (.getfield 12, 3) := by decide +kernel
theorem dX8_shop_4 : decode cX8_shop 4 = .ok (.aload_n 0, 1) := by decide +kernel
theorem dX8_shop_5 : decode cX8_shop 5 = .ok (.getfield 23, 3) := by decide +kernel
theorem dX8_shop_8 : decode cX8_shop 8 = .ok (.invokevirtual 94, 3) := by decide +kernel
theorem dX8_shop_11 : decode cX8_shop 11 = .ok (.istore_n 1, 1) := by decide +kernel
theorem dX8_shop_12 : decode cX8_shop 12 = .ok (.aload_n 0, 1) := by decide +kernel
theorem dX8_shop_13 : decode cX8_shop 13 = .ok (.getfield 12, 3) := by decide +kernel
theorem dX8_shop_16 : decode cX8_shop 16 = .ok (.invokevirtual 98, 3) := by decide +kernel
theorem dX8_shop_19 : decode cX8_shop 19 = .ok (.ifCond .eq 14, 3) := by decide +kernel
theorem dX8_shop_22 : decode cX8_shop 22 = .ok (.bipush (-10), 2) := by decide +kernel
theorem dX8_shop_24 : decode cX8_shop 24 = .ok (.aload_n 0, 1) := by decide +kernel
theorem dX8_shop_25 : decode cX8_shop 25 = .ok (.getfield 12, 3) := by decide +kernel
theorem dX8_shop_28 : decode cX8_shop 28 = .ok (.getfield 102, 3) := by decide +kernel
theorem dX8_shop_31 : decode cX8_shop 31 = .ok (.isub, 1) := by decide +kernel
theorem dX8_shop_32 : decode cX8_shop 32 = .ok (.ireturn, 1) := by decide +kernel
theorem dX8_shop_33 : decode cX8_shop 33 = .ok (.aload_n 0, 1) := by decide +kernel
theorem dX8_shop_34 : decode cX8_shop 34 = .ok (.getfield 19, 3) := by decide +kernel
theorem dX8_shop_37 : decode cX8_shop 37 = .ok (.aload_n 0, 1) := by decide +kernel
theorem dX8_shop_38 : decode cX8_shop 38 = .ok (.getfield 23, 3) := by decide +kernel
theorem dX8_shop_41 : decode cX8_shop 41 = .ok (.invokevirtual 105, 3) := by decide +kernel
theorem dX8_shop_44 : decode cX8_shop 44 = .ok (.aload_n 0, 1) := by decide +kernel
theorem dX8_shop_45 : decode cX8_shop 45 = .ok (.getfield 12, 3) := by decide +kernel
theorem dX8_shop_48 : decode cX8_shop 48 = .ok (.iconst 0, 1) := by decide +kernel
theorem dX8_shop_49 : decode cX8_shop 49 = .ok (.putfield 90, 3) := by decide +kernel
theorem dX8_shop_52 : decode cX8_shop 52 = .ok (.aload_n 0, 1) := by decide +kernel
theorem dX8_shop_53 : decode cX8_shop 53 = .ok (.invokevirtual 79, 3) := by decide +kernel
theorem dX8_shop_56 : decode cX8_shop 56 = .ok (.iload_n 1, 1) := by decide +kernel
theorem dX8_shop_57 : decode cX8_shop 57 = .ok (.ireturn, 1) := by decide +kernel
theorem dX8_holds_0 : decode cX8_holds 0 = .ok (.aload_n 0, 1) := by decide +kernel
theorem dX8_holds_1 : decode cX8_holds 1 = .ok (.iload_n 1, 1) := by decide +kernel
theorem dX8_holds_2 : decode cX8_holds 2 = .ok (.invokevirtual 109, 3) := by decide +kernel
theorem dX8_holds_5 : decode cX8_holds 5 = .ok (.ifCond .eq 26, 3) := by decide +kernel
theorem dX8_holds_8 : decode cX8_holds 8 = .ok (.iload_n 2, 1) := by decide +kernel
theorem dX8_holds_9 : decode cX8_holds 9 = .ok (.invokestatic 113, 3) := by decide +kernel
theorem dX8_holds_12 : decode cX8_holds 12 = .ok (.ifCond .eq 19, 3) := by decide +kernel
theorem dX8_holds_15 : decode cX8_holds 15 = .ok (.aload_n 0, 1) := by decide +kernel
theorem dX8_holds_16 : decode cX8_holds 16 = .ok (.getfield 29, 3) := by decide +kernel
theorem dX8_holds_19 : decode cX8_holds 19 = .ok (.getfield 116, 3) := by decide +kernel
theorem dX8_holds_22 : decode cX8_holds 22 = .ok (.iload_n 1, 1) := by decide +kernel
theorem dX8_holds_23 : decode cX8_holds 23 = .ok (.iconst 4, 1) := by decide +kernel
theorem dX8_holds_24 : decode cX8_holds 24 = .ok (.imul, 1) := by decide +kernel
theorem dX8_holds_25 : decode cX8_holds 25 = .ok (.iload_n 2, 1) := by decide +kernel
theorem dX8_holds_26 : decode cX8_holds 26 = .ok (.iadd, 1) := by decide +kernel
theorem dX8_holds_27 : decode cX8_holds 27 = .ok (.iaload, 1) := by decide +kernel
theorem dX8_holds_28 : decode cX8_holds 28 = .ok (.goto 4, 3) := by decide +kernel
theorem dX8_holds_31 : decode cX8_holds 31 = .ok (.iconst (-1), 1) := by decide +kernel
theorem dX8_holds_32 : decode cX8_holds 32 = .ok (.ireturn, 1) := by decide +kernel
theorem dX8_grows_0 : decode cX8_grows 0 = .ok (.aload_n 0, 1) := by decide +kernel
theorem dX8_grows_1 : decode cX8_grows 1 = .ok (.iload_n 1, 1) := by decide +kernel
theorem dX8_grows_2 : decode cX8_grows 2 = .ok (.invokevirtual 109, 3) := by decide +kernel
theorem dX8_grows_5 : decode cX8_grows 5 = .ok (.ifCond .eq 26, 3) := by decide +kernel
theorem dX8_grows_8 : decode cX8_grows 8 = .ok (.iload_n 2, 1) := by decide +kernel
theorem dX8_grows_9 : decode cX8_grows 9 = .ok (.invokestatic 113, 3) := by decide +kernel
theorem dX8_grows_12 : decode cX8_grows 12 = .ok (.ifCond .eq 19, 3) := by decide +kernel
theorem dX8_grows_15 : decode cX8_grows 15 = .ok (.aload_n 0, 1) := by decide +kernel
theorem dX8_grows_16 : decode cX8_grows 16 = .ok (.getfield 19, 3) := by decide +kernel
theorem dX8_grows_19 : decode cX8_grows 19 = .ok (.getfield 120, 3) := by decide +kernel
theorem dX8_grows_22 : decode cX8_grows 22 = .ok (.iload_n 1, 1) := by decide +kernel
theorem dX8_grows_23 : decode cX8_grows 23 = .ok (.iconst 4, 1) := by decide +kernel
theorem dX8_grows_24 : decode cX8_grows 24 = .ok (.imul, 1) := by decide +kernel
theorem dX8_grows_25 : decode cX8_grows 25 = .ok (.iload_n 2, 1) := by decide +kernel
theorem dX8_grows_26 : decode cX8_grows 26 = .ok (.iadd, 1) := by decide +kernel
theorem dX8_grows_27 : decode cX8_grows 27 = .ok (.iaload, 1) := by decide +kernel
theorem dX8_grows_28 : decode cX8_grows 28 = .ok (.goto 4, 3) := by decide +kernel
theorem dX8_grows_31 : decode cX8_grows 31 = .ok (.iconst (-1), 1) := by decide +kernel
theorem dX8_grows_32 : decode cX8_grows 32 = .ok (.ireturn, 1) := by decide +kernel
theorem dX8_weight_0 : decode cX8_weight 0 = .ok (.iload_n 1, 1) := by decide +kernel
theorem dX8_weight_1 : decode cX8_weight 1 = .ok (.invokestatic 113, 3) := by decide +kernel
theorem dX8_weight_4 : decode cX8_weight 4 = .ok (.ifCond .eq 13, 3) := by decide +kernel
theorem dX8_weight_7 : decode cX8_weight 7 = .ok (.aload_n 0, 1) := by decide +kernel
theorem dX8_weight_8 : decode cX8_weight 8 = .ok (.getfield 19, 3) := by decide +kernel
theorem dX8_weight_11 : decode cX8_weight 11 = .ok (.getfield 123, 3) := by decide +kernel
theorem dX8_weight_14 : decode cX8_weight 14 = .ok (.iload_n 1, 1) := by decide +kernel
theorem dX8_weight_15 : decode cX8_weight 15 = .ok (.iaload, 1) := by decide +kernel
theorem dX8_weight_16 : decode cX8_weight 16 = .ok (.ireturn, 1) := by decide +kernel
theorem dX8_weight_17 : decode cX8_weight 17 = .ok (.iload_n 1, 1) := by decide +kernel
theorem dX8_weight_18 : decode cX8_weight 18 = .ok (.iconst 4, 1) := by decide +kernel
theorem dX8_weight_19 : decode cX8_weight 19 = .ok (.bipush 8, 2) := by decide +kernel
theorem dX8_weight_21 : decode cX8_weight 21 = .ok (.invokestatic 82, 3) := by decide +kernel
theorem dX8_weight_24 : decode cX8_weight 24 = .ok (.ifCond .ne 5, 3) := by decide +kernel
theorem dX8_weight_27 : decode cX8_weight 27 = .ok (.iconst (-1), 1) := by decide +kernel
theorem dX8_weight_28 : decode cX8_weight 28 = .ok (.ireturn, 1) := by decide +kernel
theorem dX8_weight_29 : decode cX8_weight 29 = .ok (.iload_n 1, 1) := by decide +kernel
theorem dX8_weight_30 : decode cX8_weight 30 = .ok (.iconst 4, 1) := by decide +kernel
theorem dX8_weight_31 : decode cX8_weight 31 = .ok (.isub, 1) := by decide +kernel
theorem dX8_weight_32 : decode cX8_weight 32 = .ok (.istore_n 2, 1) := by decide +kernel
theorem dX8_weight_33 : decode cX8_weight 33 = .ok (.iload_n 2, 1) := by decide +kernel
theorem dX8_weight_34 : decode cX8_weight 34 = .ok (.aload_n 0, 1) := by decide +kernel
theorem dX8_weight_35 : decode cX8_weight 35 = .ok (.getfield 19, 3) := by decide +kernel
theorem dX8_weight_38 : decode cX8_weight 38 = .ok (.getfield 126, 3) := by decide +kernel
theorem dX8_weight_41 : decode cX8_weight 41 = .ok (.if_icmp .ge 15, 3) := by decide +kernel
theorem dX8_weight_44 : decode cX8_weight 44 = .ok (.aload_n 0, 1) := by decide +kernel
theorem dX8_weight_45 : decode cX8_weight 45 = .ok (.getfield 19, 3) := by decide +kernel
theorem dX8_weight_48 : decode cX8_weight 48 = .ok (.getfield 129, 3) := by decide +kernel
theorem dX8_weight_51 : decode cX8_weight 51 = .ok (.iload_n 2, 1) := by decide +kernel
theorem dX8_weight_52 : decode cX8_weight 52 = .ok (.iaload, 1) := by decide +kernel
theorem dX8_weight_53 : decode cX8_weight 53 = .ok (.goto 5, 3) := by decide +kernel
theorem dX8_weight_56 : decode cX8_weight 56 = .ok (.bipush (-9), 2) := by decide +kernel
theorem dX8_weight_58 : decode cX8_weight 58 = .ok (.ireturn, 1) := by decide +kernel
theorem dX8_heavy_0 : decode cX8_heavy 0 = .ok (.aload_n 0, 1) := by decide +kernel
theorem dX8_heavy_1 : decode cX8_heavy 1 = .ok (.iload_n 1, 1) := by decide +kernel
theorem dX8_heavy_2 : decode cX8_heavy 2 = .ok (.invokevirtual 109, 3) := by decide +kernel
theorem dX8_heavy_5 : decode cX8_heavy 5 = .ok (.ifCond .eq 11, 3) := by decide +kernel
theorem dX8_heavy_8 : decode cX8_heavy 8 = .ok (.aload_n 0, 1) := by decide +kernel
theorem dX8_heavy_9 : decode cX8_heavy 9 = .ok (.iload_n 1, 1) := by decide +kernel
theorem dX8_heavy_10 : decode cX8_heavy 10 = .ok (.invokevirtual 132, 3) := by decide +kernel
theorem dX8_heavy_13 : decode cX8_heavy 13 = .ok (.goto 4, 3) := by decide +kernel
theorem dX8_heavy_16 : decode cX8_heavy 16 = .ok (.iconst (-1), 1) := by decide +kernel
theorem dX8_heavy_17 : decode cX8_heavy 17 = .ok (.ireturn, 1) := by decide +kernel
theorem dX8_known_0 : decode cX8_known 0 = .ok (.aload_n 0, 1) := by decide +kernel
theorem dX8_known_1 : decode cX8_known 1 = .ok (.iload_n 1, 1) := by decide +kernel
theorem dX8_known_2 : decode cX8_known 2 = .ok (.iload_n 2, 1) := by decide +kernel
theorem dX8_known_3 : decode cX8_known 3 = .ok (.invokevirtual 136, 3) := by decide +kernel
theorem dX8_known_6 : decode cX8_known 6 = .ok (.ifCond .eq 12, 3) := by decide +kernel
theorem dX8_known_9 : decode cX8_known 9 = .ok (.aload_n 0, 1) := by decide +kernel
theorem dX8_known_10 : decode cX8_known 10 = .ok (.iload_n 1, 1) := by decide +kernel
theorem dX8_known_11 : decode cX8_known 11 = .ok (.iload_n 2, 1) := by decide +kernel
theorem dX8_known_12 : decode cX8_known 12 = .ok (.invokevirtual 140, 3) := by decide +kernel
theorem dX8_known_15 : decode cX8_known 15 = .ok (.goto 4, 3) := by decide +kernel
theorem dX8_known_18 : decode cX8_known 18 = .ok (.iconst (-1), 1) := by decide +kernel
theorem dX8_known_19 : decode cX8_known 19 = .ok (.ireturn, 1) := by decide +kernel
theorem dX8_now_0 : decode cX8_now 0 = .ok (.iload_n 1, 1) := by decide +kernel
theorem dX8_now_1 : decode cX8_now 1 = .ok (.tableswitch 78 0 6 #[43, 51, 56, 56, 56, 62, 70], 43) := by decide +kernel
theorem dX8_now_44 : decode cX8_now 44 = .ok (.aload_n 0, 1) := by decide +kernel
theorem dX8_now_45 : decode cX8_now 45 = .ok (.getfield 29, 3) := by decide +kernel
theorem dX8_now_48 : decode cX8_now 48 = .ok (.getfield 144, 3) := by decide +kernel
theorem dX8_now_51 : decode cX8_now 51 = .ok (.ireturn, 1) := by decide +kernel
theorem dX8_now_52 : decode cX8_now 52 = .ok (.aload_n 0, 1) := by decide +kernel
theorem dX8_now_53 : decode cX8_now 53 = .ok (.invokevirtual 147, 3) := by decide +kernel
theorem dX8_now_56 : decode cX8_now 56 = .ok (.ireturn, 1) := by decide +kernel
theorem dX8_now_57 : decode cX8_now 57 = .ok (.aload_n 0, 1) := by decide +kernel
theorem dX8_now_58 : decode cX8_now 58 = .ok (.iload_n 1, 1) := by decide +kernel
theorem dX8_now_59 : decode cX8_now 59 = .ok (.invokevirtual 151, 3) := by decide +kernel
theorem dX8_now_62 : decode cX8_now 62 = .ok (.ireturn, 1) := by decide +kernel
theorem dX8_now_63 : decode cX8_now 63 = .ok (.aload_n 0, 1) := by decide +kernel
theorem dX8_now_64 : decode cX8_now 64 = .ok (.getfield 58, 3) := by decide +kernel
theorem dX8_now_67 : decode cX8_now 67 = .ok (.invokevirtual 154, 3) := by decide +kernel
theorem dX8_now_70 : decode cX8_now 70 = .ok (.ireturn, 1) := by decide +kernel
theorem dX8_now_71 : decode cX8_now 71 = .ok (.aload_n 0, 1) := by decide +kernel
theorem dX8_now_72 : decode cX8_now 72 = .ok (.getfield 36, 3) := by decide +kernel
theorem dX8_now_75 : decode cX8_now 75 = .ok (.getfield 157, 3) := by decide +kernel
theorem dX8_now_78 : decode cX8_now 78 = .ok (.ireturn, 1) := by decide +kernel
theorem dX8_now_79 : decode cX8_now 79 = .ok (.iconst (-1), 1) := by decide +kernel
theorem dX8_now_80 : decode cX8_now 80 = .ok (.ireturn, 1) := by decide +kernel
theorem dX8_tells_0 : decode cX8_tells 0 = .ok (.aload_n 0, 1) := by decide +kernel
theorem dX8_tells_1 : decode cX8_tells 1 = .ok (.iload_n 1, 1) := by decide +kernel
theorem dX8_tells_2 : decode cX8_tells 2 = .ok (.iload_n 2, 1) := by decide +kernel
theorem dX8_tells_3 : decode cX8_tells 3 = .ok (.invokevirtual 136, 3) := by decide +kernel
theorem dX8_tells_6 : decode cX8_tells 6 = .ok (.ifCond .eq 10, 3) := by decide +kernel
theorem dX8_tells_9 : decode cX8_tells 9 = .ok (.iload_n 3, 1) := by decide +kernel
theorem dX8_tells_10 : decode cX8_tells 10 = .ok (.invokestatic 113, 3) := by decide +kernel
theorem dX8_tells_13 : decode cX8_tells 13 = .ok (.ifCond .ne 5, 3) := by decide +kernel
theorem dX8_tells_16 : decode cX8_tells 16 = .ok (.iconst (-1), 1) := by decide +kernel
theorem dX8_tells_17 : decode cX8_tells 17 = .ok (.ireturn, 1) := by decide +kernel
theorem dX8_tells_18 : decode cX8_tells 18 = .ok (.iload_n 1, 1) := by decide +kernel
theorem dX8_tells_19 : decode cX8_tells 19 = .ok (.iconst 4, 1) := by decide +kernel
theorem dX8_tells_20 : decode cX8_tells 20 = .ok (.imul, 1) := by decide +kernel
theorem dX8_tells_21 : decode cX8_tells 21 = .ok (.iload_n 3, 1) := by decide +kernel
theorem dX8_tells_22 : decode cX8_tells 22 = .ok (.iadd, 1) := by decide +kernel
theorem dX8_tells_23 : decode cX8_tells 23 = .ok (.istore 4, 2) := by decide +kernel
theorem dX8_tells_25 : decode cX8_tells 25 = .ok (.aload_n 0, 1) := by decide +kernel
theorem dX8_tells_26 : decode cX8_tells 26 = .ok (.getfield 29, 3) := by decide +kernel
theorem dX8_tells_29 : decode cX8_tells 29 = .ok (.getfield 116, 3) := by decide +kernel
theorem dX8_tells_32 : decode cX8_tells 32 = .ok (.iload 4, 2) := by decide +kernel
theorem dX8_tells_34 : decode cX8_tells 34 = .ok (.iaload, 1) := by decide +kernel
theorem dX8_tells_35 : decode cX8_tells 35 = .ok (.ifCond .ne 6, 3) := by decide +kernel
theorem dX8_tells_38 : decode cX8_tells 38 = .ok (.bipush (-2), 2) := by decide +kernel
theorem dX8_tells_40 : decode cX8_tells 40 = .ok (.ireturn, 1) := by decide +kernel
theorem dX8_tells_41 : decode cX8_tells 41 = .ok (.aload_n 0, 1) := by decide +kernel
theorem dX8_tells_42 : decode cX8_tells 42 = .ok (.getfield 36, 3) := by decide +kernel
theorem dX8_tells_45 : decode cX8_tells 45 = .ok (.aload_n 0, 1) := by decide +kernel
theorem dX8_tells_46 : decode cX8_tells 46 = .ok (.getfield 29, 3) := by decide +kernel
theorem dX8_tells_49 : decode cX8_tells 49 = .ok (.invokevirtual 160, 3) := by decide +kernel
theorem dX8_tells_52 : decode cX8_tells 52 = .ok (.aload_n 0, 1) := by decide +kernel
theorem dX8_tells_53 : decode cX8_tells 53 = .ok (.getfield 29, 3) := by decide +kernel
theorem dX8_tells_56 : decode cX8_tells 56 = .ok (.getfield 116, 3) := by decide +kernel
theorem dX8_tells_59 : decode cX8_tells 59 = .ok (.iload 4, 2) := by decide +kernel
theorem dX8_tells_61 : decode cX8_tells 61 = .ok (.dup2, 1) := by decide +kernel
theorem dX8_tells_62 : decode cX8_tells 62 = .ok (.iaload, 1) := by decide +kernel
theorem dX8_tells_63 : decode cX8_tells 63 = .ok (.iconst 1, 1) := by decide +kernel
theorem dX8_tells_64 : decode cX8_tells 64 = .ok (.isub, 1) := by decide +kernel
theorem dX8_tells_65 : decode cX8_tells 65 = .ok (.iastore, 1) := by decide +kernel
theorem dX8_tells_66 : decode cX8_tells 66 = .ok (.iload_n 3, 1) := by decide +kernel
theorem dX8_tells_67 : decode cX8_tells 67 = .ok (.ifCond .le 18, 3) := by decide +kernel
theorem dX8_tells_70 : decode cX8_tells 70 = .ok (.aload_n 0, 1) := by decide +kernel
theorem dX8_tells_71 : decode cX8_tells 71 = .ok (.getfield 29, 3) := by decide +kernel
theorem dX8_tells_74 : decode cX8_tells 74 = .ok (.iload_n 2, 1) := by decide +kernel
theorem dX8_tells_75 : decode cX8_tells 75 = .ok (.iconst 4, 1) := by decide +kernel
theorem dX8_tells_76 : decode cX8_tells 76 = .ok (.imul, 1) := by decide +kernel
theorem dX8_tells_77 : decode cX8_tells 77 = .ok (.iload_n 3, 1) := by decide +kernel
theorem dX8_tells_78 : decode cX8_tells 78 = .ok (.iadd, 1) := by decide +kernel
theorem dX8_tells_79 : decode cX8_tells 79 = .ok (.iconst 1, 1) := by decide +kernel
theorem dX8_tells_80 : decode cX8_tells 80 = .ok (.isub, 1) := by decide +kernel
theorem dX8_tells_81 : decode cX8_tells 81 = .ok (.iconst 1, 1) := by decide +kernel
theorem dX8_tells_82 : decode cX8_tells 82 = .ok (.invokevirtual 164, 3) := by decide +kernel
theorem dX8_tells_85 : decode cX8_tells 85 = .ok (.aload_n 0, 1) := by decide +kernel
theorem dX8_tells_86 : decode cX8_tells 86 = .ok (.iload_n 1, 1) := by decide +kernel
theorem dX8_tells_87 : decode cX8_tells 87 = .ok (.invokevirtual 132, 3) := by decide +kernel
theorem dX8_tells_90 : decode cX8_tells 90 = .ok (.ireturn, 1) := by decide +kernel
theorem dX8_keeps_0 : decode cX8_keeps 0 = .ok (.aload_n 0, 1) := by decide +kernel
theorem dX8_keeps_1 : decode cX8_keeps 1 = .ok (.iload_n 1, 1) := by decide +kernel
theorem dX8_keeps_2 : decode cX8_keeps 2 = .ok (.invokevirtual 109, 3) := by decide +kernel
theorem dX8_keeps_5 : decode cX8_keeps 5 = .ok (.ifCond .eq 10, 3) := by decide +kernel
theorem dX8_keeps_8 : decode cX8_keeps 8 = .ok (.iload_n 2, 1) := by decide +kernel
theorem dX8_keeps_9 : decode cX8_keeps 9 = .ok (.invokestatic 113, 3) := by decide +kernel
theorem dX8_keeps_12 : decode cX8_keeps 12 = .ok (.ifCond .ne 5, 3) := by decide +kernel
theorem dX8_keeps_15 : decode cX8_keeps 15 = .ok (.iconst (-1), 1) := by decide +kernel
theorem dX8_keeps_16 : decode cX8_keeps 16 = .ok (.ireturn, 1) := by decide +kernel
theorem dX8_keeps_17 : decode cX8_keeps 17 = .ok (.iload_n 1, 1) := by decide +kernel
theorem dX8_keeps_18 : decode cX8_keeps 18 = .ok (.iconst 4, 1) := by decide +kernel
theorem dX8_keeps_19 : decode cX8_keeps 19 = .ok (.imul, 1) := by decide +kernel
theorem dX8_keeps_20 : decode cX8_keeps 20 = .ok (.iload_n 2, 1) := by decide +kernel
theorem dX8_keeps_21 : decode cX8_keeps 21 = .ok (.iadd, 1) := by decide +kernel
theorem dX8_keeps_22 : decode cX8_keeps 22 = .ok (.istore_n 3, 1) := by decide +kernel
theorem dX8_keeps_23 : decode cX8_keeps 23 = .ok (.aload_n 0, 1) := by decide +kernel
theorem dX8_keeps_24 : decode cX8_keeps 24 = .ok (.getfield 29, 3) := by decide +kernel
theorem dX8_keeps_27 : decode cX8_keeps 27 = .ok (.getfield 116, 3) := by decide +kernel
theorem dX8_keeps_30 : decode cX8_keeps 30 = .ok (.iload_n 3, 1) := by decide +kernel
theorem dX8_keeps_31 : decode cX8_keeps 31 = .ok (.iaload, 1) := by decide +kernel
theorem dX8_keeps_32 : decode cX8_keeps 32 = .ok (.bipush 9, 2) := by decide +kernel
theorem dX8_keeps_34 : decode cX8_keeps 34 = .ok (.if_icmp .lt 6, 3) := by decide +kernel
theorem dX8_keeps_37 : decode cX8_keeps 37 = .ok (.bipush (-2), 2) := by decide +kernel
theorem dX8_keeps_39 : decode cX8_keeps 39 = .ok (.ireturn, 1) := by decide +kernel
theorem dX8_keeps_40 : decode cX8_keeps 40 = .ok (.aload_n 0, 1) := by decide +kernel
theorem dX8_keeps_41 : decode cX8_keeps 41 = .ok (.getfield 36, 3) := by decide +kernel
theorem dX8_keeps_44 : decode cX8_keeps 44 = .ok (.aload_n 0, 1) := by decide +kernel
theorem dX8_keeps_45 : decode cX8_keeps 45 = .ok (.getfield 29, 3) := by decide +kernel
theorem dX8_keeps_48 : decode cX8_keeps 48 = .ok (.invokevirtual 160, 3) := by decide +kernel
theorem dX8_keeps_51 : decode cX8_keeps 51 = .ok (.aload_n 0, 1) := by decide +kernel
theorem dX8_keeps_52 : decode cX8_keeps 52 = .ok (.getfield 29, 3) := by decide +kernel
theorem dX8_keeps_55 : decode cX8_keeps 55 = .ok (.iload_n 3, 1) := by decide +kernel
theorem dX8_keeps_56 : decode cX8_keeps 56 = .ok (.iconst 1, 1) := by decide +kernel
theorem dX8_keeps_57 : decode cX8_keeps 57 = .ok (.invokevirtual 164, 3) := by decide +kernel
theorem dX8_keeps_60 : decode cX8_keeps 60 = .ok (.aload_n 0, 1) := by decide +kernel
theorem dX8_keeps_61 : decode cX8_keeps 61 = .ok (.getfield 29, 3) := by decide +kernel
theorem dX8_keeps_64 : decode cX8_keeps 64 = .ok (.getfield 116, 3) := by decide +kernel
theorem dX8_keeps_67 : decode cX8_keeps 67 = .ok (.iload_n 3, 1) := by decide +kernel
theorem dX8_keeps_68 : decode cX8_keeps 68 = .ok (.iaload, 1) := by decide +kernel
theorem dX8_keeps_69 : decode cX8_keeps 69 = .ok (.ireturn, 1) := by decide +kernel
theorem dX8_day_0 : decode cX8_day 0 = .ok (.aload_n 0, 1) := by decide +kernel
theorem dX8_day_1 : decode cX8_day 1 = .ok (.getfield 29, 3) := by decide +kernel
theorem dX8_day_4 : decode cX8_day 4 = .ok (.getfield 144, 3) := by decide +kernel
theorem dX8_day_7 : decode cX8_day 7 = .ok (.sipush 999, 3) := by decide +kernel
theorem dX8_day_10 : decode cX8_day 10 = .ok (.if_icmp .lt 6, 3) := by decide +kernel
theorem dX8_day_13 : decode cX8_day 13 = .ok (.bipush (-2), 2) := by decide +kernel
theorem dX8_day_15 : decode cX8_day 15 = .ok (.ireturn, 1) := by decide +kernel
theorem dX8_day_16 : decode cX8_day 16 = .ok (.aload_n 0, 1) := by decide +kernel
theorem dX8_day_17 : decode cX8_day 17 = .ok (.getfield 36, 3) := by decide +kernel
theorem dX8_day_20 : decode cX8_day 20 = .ok (.aload_n 0, 1) := by decide +kernel
theorem dX8_day_21 : decode cX8_day 21 = .ok (.getfield 29, 3) := by decide +kernel
theorem dX8_day_24 : decode cX8_day 24 = .ok (.invokevirtual 160, 3) := by decide +kernel
theorem dX8_day_27 : decode cX8_day 27 = .ok (.iconst 0, 1) := by decide +kernel
theorem dX8_day_28 : decode cX8_day 28 = .ok (.istore_n 1, 1) := by decide +kernel
theorem dX8_day_29 : decode cX8_day 29 = .ok (.iload_n 1, 1) := by decide +kernel
theorem dX8_day_30 : decode cX8_day 30 = .ok (.aload_n 0, 1) := by decide +kernel
theorem dX8_day_31 : decode cX8_day 31 = .ok (.getfield 19, 3) := by decide +kernel
theorem dX8_day_34 : decode cX8_day 34 = .ok (.getfield 168, 3) := by decide +kernel
theorem dX8_day_37 : decode cX8_day 37 = .ok (.iconst 4, 1) := by decide +kernel
theorem dX8_day_38 : decode cX8_day 38 = .ok (.imul, 1) := by decide +kernel
theorem dX8_day_39 : decode cX8_day 39 = .ok (.if_icmp .ge 26, 3) := by decide +kernel
theorem dX8_day_42 : decode cX8_day 42 = .ok (.aload_n 0, 1) := by decide +kernel
theorem dX8_day_43 : decode cX8_day 43 = .ok (.getfield 29, 3) := by decide +kernel
theorem dX8_day_46 : decode cX8_day 46 = .ok (.iload_n 1, 1) := by decide +kernel
theorem dX8_day_47 : decode cX8_day 47 = .ok (.aload_n 0, 1) := by decide +kernel
theorem dX8_day_48 : decode cX8_day 48 = .ok (.getfield 19, 3) := by decide +kernel
theorem dX8_day_51 : decode cX8_day 51 = .ok (.getfield 120, 3) := by decide +kernel
theorem dX8_day_54 : decode cX8_day 54 = .ok (.iload_n 1, 1) := by decide +kernel
theorem dX8_day_55 : decode cX8_day 55 = .ok (.iaload, 1) := by decide +kernel
theorem dX8_day_56 : decode cX8_day 56 = .ok (.invokevirtual 164, 3) := by decide +kernel
theorem dX8_day_59 : decode cX8_day 59 = .ok (.iinc 1 1, 3) := by decide +kernel
theorem dX8_day_62 : decode cX8_day 62 = .ok (.goto (-33), 3) := by decide +kernel
theorem dX8_day_65 : decode cX8_day 65 = .ok (.aload_n 0, 1) := by decide +kernel
theorem dX8_day_66 : decode cX8_day 66 = .ok (.getfield 29, 3) := by decide +kernel
theorem dX8_day_69 : decode cX8_day 69 = .ok (.dup, 1) := by decide +kernel
theorem dX8_day_70 : decode cX8_day 70 = .ok (.getfield 144, 3) := by decide +kernel
theorem dX8_day_73 : decode cX8_day 73 = .ok (.iconst 1, 1) := by decide +kernel
theorem dX8_day_74 : decode cX8_day 74 = .ok (.iadd, 1) := by decide +kernel
theorem dX8_day_75 : decode cX8_day 75 = .ok (.putfield 144, 3) := by decide +kernel
theorem dX8_day_78 : decode cX8_day 78 = .ok (.aload_n 0, 1) := by decide +kernel
theorem dX8_day_79 : decode cX8_day 79 = .ok (.getfield 29, 3) := by decide +kernel
theorem dX8_day_82 : decode cX8_day 82 = .ok (.getfield 144, 3) := by decide +kernel
theorem dX8_day_85 : decode cX8_day 85 = .ok (.ireturn, 1) := by decide +kernel
theorem dX8_weighs_0 : decode cX8_weighs 0 = .ok (.aload_n 0, 1) := by decide +kernel
theorem dX8_weighs_1 : decode cX8_weighs 1 = .ok (.iload_n 1, 1) := by decide +kernel
theorem dX8_weighs_2 : decode cX8_weighs 2 = .ok (.iload_n 2, 1) := by decide +kernel
theorem dX8_weighs_3 : decode cX8_weighs 3 = .ok (.invokevirtual 136, 3) := by decide +kernel
theorem dX8_weighs_6 : decode cX8_weighs 6 = .ok (.ifCond .ne 5, 3) := by decide +kernel
theorem dX8_weighs_9 : decode cX8_weighs 9 = .ok (.iconst (-1), 1) := by decide +kernel
theorem dX8_weighs_10 : decode cX8_weighs 10 = .ok (.ireturn, 1) := by decide +kernel
theorem dX8_weighs_11 : decode cX8_weighs 11 = .ok (.aload_n 0, 1) := by decide +kernel
theorem dX8_weighs_12 : decode cX8_weighs 12 = .ok (.getfield 36, 3) := by decide +kernel
theorem dX8_weighs_15 : decode cX8_weighs 15 = .ok (.aload_n 0, 1) := by decide +kernel
theorem dX8_weighs_16 : decode cX8_weighs 16 = .ok (.getfield 29, 3) := by decide +kernel
theorem dX8_weighs_19 : decode cX8_weighs 19 = .ok (.invokevirtual 160, 3) := by decide +kernel
theorem dX8_weighs_22 : decode cX8_weighs 22 = .ok (.aload_n 0, 1) := by decide +kernel
theorem dX8_weighs_23 : decode cX8_weighs 23 = .ok (.getfield 29, 3) := by decide +kernel
theorem dX8_weighs_26 : decode cX8_weighs 26 = .ok (.aload_n 0, 1) := by decide +kernel
theorem dX8_weighs_27 : decode cX8_weighs 27 = .ok (.getfield 29, 3) := by decide +kernel
theorem dX8_weighs_30 : decode cX8_weighs 30 = .ok (.getfield 171, 3) := by decide +kernel
theorem dX8_weighs_33 : decode cX8_weighs 33 = .ok (.iload_n 1, 1) := by decide +kernel
theorem dX8_weighs_34 : decode cX8_weighs 34 = .ok (.iload_n 2, 1) := by decide +kernel
theorem dX8_weighs_35 : decode cX8_weighs 35 = .ok (.invokestatic 174, 3) := by decide +kernel
theorem dX8_weighs_38 : decode cX8_weighs 38 = .ok (.aload_n 0, 1) := by decide +kernel
theorem dX8_weighs_39 : decode cX8_weighs 39 = .ok (.iload_n 1, 1) := by decide +kernel
theorem dX8_weighs_40 : decode cX8_weighs 40 = .ok (.iload_n 2, 1) := by decide +kernel
theorem dX8_weighs_41 : decode cX8_weighs 41 = .ok (.invokevirtual 177, 3) := by decide +kernel
theorem dX8_weighs_44 : decode cX8_weighs 44 = .ok (.invokestatic 180, 3) := by decide +kernel
theorem dX8_weighs_47 : decode cX8_weighs 47 = .ok (.putfield 171, 3) := by decide +kernel
theorem dX8_weighs_50 : decode cX8_weighs 50 = .ok (.aload_n 0, 1) := by decide +kernel
theorem dX8_weighs_51 : decode cX8_weighs 51 = .ok (.iload_n 1, 1) := by decide +kernel
theorem dX8_weighs_52 : decode cX8_weighs 52 = .ok (.iload_n 2, 1) := by decide +kernel
theorem dX8_weighs_53 : decode cX8_weighs 53 = .ok (.invokevirtual 140, 3) := by decide +kernel
theorem dX8_weighs_56 : decode cX8_weighs 56 = .ok (.ireturn, 1) := by decide +kernel
theorem dX8_forgets_0 : decode cX8_forgets 0 = .ok (.aload_n 0, 1) := by decide +kernel
theorem dX8_forgets_1 : decode cX8_forgets 1 = .ok (.invokevirtual 147, 3) := by decide +kernel
theorem dX8_forgets_4 : decode cX8_forgets 4 = .ok (.istore_n 1, 1) := by decide +kernel
theorem dX8_forgets_5 : decode cX8_forgets 5 = .ok (.aload_n 0, 1) := by decide +kernel
theorem dX8_forgets_6 : decode cX8_forgets 6 = .ok (.getfield 36, 3) := by decide +kernel
theorem dX8_forgets_9 : decode cX8_forgets 9 = .ok (.aload_n 0, 1) := by decide +kernel
theorem dX8_forgets_10 : decode cX8_forgets 10 = .ok (.getfield 29, 3) := by decide +kernel
theorem dX8_forgets_13 : decode cX8_forgets 13 = .ok (.invokevirtual 160, 3) := by decide +kernel
theorem dX8_forgets_16 : decode cX8_forgets 16 = .ok (.aload_n 0, 1) := by decide +kernel
theorem dX8_forgets_17 : decode cX8_forgets 17 = .ok (.getfield 29, 3) := by decide +kernel
theorem dX8_forgets_20 : decode cX8_forgets 20 = .ok (.iconst 0, 1) := by decide +kernel
theorem dX8_forgets_21 : decode cX8_forgets 21 = .ok (.putfield 171, 3) := by decide +kernel
theorem dX8_forgets_24 : decode cX8_forgets 24 = .ok (.iload_n 1, 1) := by decide +kernel
theorem dX8_forgets_25 : decode cX8_forgets 25 = .ok (.ireturn, 1) := by decide +kernel
theorem dX8_undo_0 : decode cX8_undo 0 = .ok (.aload_n 0, 1) := by decide +kernel
theorem dX8_undo_1 : decode cX8_undo 1 = .ok (.getfield 36, 3) := by decide +kernel
theorem dX8_undo_4 : decode cX8_undo 4 = .ok (.getfield 157, 3) := by decide +kernel
theorem dX8_undo_7 : decode cX8_undo 7 = .ok (.ifCond .ne 6, 3) := by decide +kernel
theorem dX8_undo_10 : decode cX8_undo 10 = .ok (.bipush (-2), 2) := by decide +kernel
theorem dX8_undo_12 : decode cX8_undo 12 = .ok (.ireturn, 1) := by decide +kernel
theorem dX8_undo_13 : decode cX8_undo 13 = .ok (.aload_n 0, 1) := by decide +kernel
theorem dX8_undo_14 : decode cX8_undo 14 = .ok (.getfield 36, 3) := by decide +kernel
theorem dX8_undo_17 : decode cX8_undo 17 = .ok (.aload_n 0, 1) := by decide +kernel
theorem dX8_undo_18 : decode cX8_undo 18 = .ok (.getfield 29, 3) := by decide +kernel
theorem dX8_undo_21 : decode cX8_undo 21 = .ok (.invokevirtual 184, 3) := by decide +kernel
theorem dX8_undo_24 : decode cX8_undo 24 = .ok (.aload_n 0, 1) := by decide +kernel
theorem dX8_undo_25 : decode cX8_undo 25 = .ok (.getfield 36, 3) := by decide +kernel
theorem dX8_undo_28 : decode cX8_undo 28 = .ok (.getfield 157, 3) := by decide +kernel
theorem dX8_undo_31 : decode cX8_undo 31 = .ok (.ireturn, 1) := by decide +kernel
theorem dX8_beam_0 : decode cX8_beam 0 = .ok (.aload_n 0, 1) := by decide +kernel
theorem dX8_beam_1 : decode cX8_beam 1 = .ok (.iload_n 1, 1) := by decide +kernel
theorem dX8_beam_2 : decode cX8_beam 2 = .ok (.iload_n 2, 1) := by decide +kernel
theorem dX8_beam_3 : decode cX8_beam 3 = .ok (.invokevirtual 136, 3) := by decide +kernel
theorem dX8_beam_6 : decode cX8_beam 6 = .ok (.ifCond .eq 17, 3) := by decide +kernel
theorem dX8_beam_9 : decode cX8_beam 9 = .ok (.aload_n 0, 1) := by decide +kernel
theorem dX8_beam_10 : decode cX8_beam 10 = .ok (.iload_n 1, 1) := by decide +kernel
theorem dX8_beam_11 : decode cX8_beam 11 = .ok (.invokevirtual 132, 3) := by decide +kernel
theorem dX8_beam_14 : decode cX8_beam 14 = .ok (.aload_n 0, 1) := by decide +kernel
theorem dX8_beam_15 : decode cX8_beam 15 = .ok (.iload_n 2, 1) := by decide +kernel
theorem dX8_beam_16 : decode cX8_beam 16 = .ok (.invokevirtual 132, 3) := by decide +kernel
theorem dX8_beam_19 : decode cX8_beam 19 = .ok (.isub, 1) := by decide +kernel
theorem dX8_beam_20 : decode cX8_beam 20 = .ok (.goto 5, 3) := by decide +kernel
theorem dX8_beam_23 : decode cX8_beam 23 = .ok (.ldc 187, 2) := by decide +kernel
theorem dX8_beam_25 : decode cX8_beam 25 = .ok (.ireturn, 1) := by decide +kernel
theorem dX8_level_0 : decode cX8_level 0 = .ok (.aload_n 0, 1) := by decide +kernel
theorem dX8_level_1 : decode cX8_level 1 = .ok (.iload_n 1, 1) := by decide +kernel
theorem dX8_level_2 : decode cX8_level 2 = .ok (.iload_n 2, 1) := by decide +kernel
theorem dX8_level_3 : decode cX8_level 3 = .ok (.invokevirtual 136, 3) := by decide +kernel
theorem dX8_level_6 : decode cX8_level 6 = .ok (.ifCond .eq 13, 3) := by decide +kernel
theorem dX8_level_9 : decode cX8_level 9 = .ok (.iload_n 3, 1) := by decide +kernel
theorem dX8_level_10 : decode cX8_level 10 = .ok (.iconst 0, 1) := by decide +kernel
theorem dX8_level_11 : decode cX8_level 11 = .ok (.bipush 9, 2) := by decide +kernel
theorem dX8_level_13 : decode cX8_level 13 = .ok (.invokestatic 82, 3) := by decide +kernel
theorem dX8_level_16 : decode cX8_level 16 = .ok (.ifCond .ne 5, 3) := by decide +kernel
theorem dX8_level_19 : decode cX8_level 19 = .ok (.iconst (-1), 1) := by decide +kernel
theorem dX8_level_20 : decode cX8_level 20 = .ok (.ireturn, 1) := by decide +kernel
theorem dX8_level_21 : decode cX8_level 21 = .ok (.aload_n 0, 1) := by decide +kernel
theorem dX8_level_22 : decode cX8_level 22 = .ok (.getfield 65, 3) := by decide +kernel
theorem dX8_level_25 : decode cX8_level 25 = .ok (.aload_n 0, 1) := by decide +kernel
theorem dX8_level_26 : decode cX8_level 26 = .ok (.getfield 19, 3) := by decide +kernel
theorem dX8_level_29 : decode cX8_level 29 = .ok (.getfield 123, 3) := by decide +kernel
theorem dX8_level_32 : decode cX8_level 32 = .ok (.aload_n 0, 1) := by decide +kernel
theorem dX8_level_33 : decode cX8_level 33 = .ok (.getfield 29, 3) := by decide +kernel
theorem dX8_level_36 : decode cX8_level 36 = .ok (.getfield 116, 3) := by decide +kernel
theorem dX8_level_39 : decode cX8_level 39 = .ok (.iload_n 1, 1) := by decide +kernel
theorem dX8_level_40 : decode cX8_level 40 = .ok (.iload_n 2, 1) := by decide +kernel
theorem dX8_level_41 : decode cX8_level 41 = .ok (.invokevirtual 188, 3) := by decide +kernel
theorem dX8_level_44 : decode cX8_level 44 = .ok (.iload_n 3, 1) := by decide +kernel
theorem dX8_level_45 : decode cX8_level 45 = .ok (.ifCond .ne 11, 3) := by decide +kernel
theorem dX8_level_48 : decode cX8_level 48 = .ok (.aload_n 0, 1) := by decide +kernel
theorem dX8_level_49 : decode cX8_level 49 = .ok (.getfield 65, 3) := by decide +kernel
theorem dX8_level_52 : decode cX8_level 52 = .ok (.getfield 192, 3) := by decide +kernel
theorem dX8_level_55 : decode cX8_level 55 = .ok (.ireturn, 1) := by decide +kernel
theorem dX8_level_56 : decode cX8_level 56 = .ok (.iload_n 3, 1) := by decide +kernel
theorem dX8_level_57 : decode cX8_level 57 = .ok (.iconst 1, 1) := by decide +kernel
theorem dX8_level_58 : decode cX8_level 58 = .ok (.if_icmp .ne 11, 3) := by decide +kernel
theorem dX8_level_61 : decode cX8_level 61 = .ok (.aload_n 0, 1) := by decide +kernel
theorem dX8_level_62 : decode cX8_level 62 = .ok (.getfield 65, 3) := by decide +kernel
theorem dX8_level_65 : decode cX8_level 65 = .ok (.getfield 195, 3) := by decide +kernel
theorem dX8_level_68 : decode cX8_level 68 = .ok (.ireturn, 1) := by decide +kernel
theorem dX8_level_69 : decode cX8_level 69 = .ok (.iload_n 3, 1) := by decide +kernel
theorem dX8_level_70 : decode cX8_level 70 = .ok (.bipush 6, 2) := by decide +kernel
theorem dX8_level_72 : decode cX8_level 72 = .ok (.if_icmp .ge 31, 3) := by decide +kernel
theorem dX8_level_75 : decode cX8_level 75 = .ok (.aload_n 0, 1) := by decide +kernel
theorem dX8_level_76 : decode cX8_level 76 = .ok (.getfield 65, 3) := by decide +kernel
theorem dX8_level_79 : decode cX8_level 79 = .ok (.aload_n 0, 1) := by decide +kernel
theorem dX8_level_80 : decode cX8_level 80 = .ok (.getfield 19, 3) := by decide +kernel
theorem dX8_level_83 : decode cX8_level 83 = .ok (.getfield 123, 3) := by decide +kernel
theorem dX8_level_86 : decode cX8_level 86 = .ok (.aload_n 0, 1) := by decide +kernel
theorem dX8_level_87 : decode cX8_level 87 = .ok (.getfield 29, 3) := by decide +kernel
theorem dX8_level_90 : decode cX8_level 90 = .ok (.getfield 116, 3) := by decide +kernel
theorem dX8_level_93 : decode cX8_level 93 = .ok (.iload_n 1, 1) := by decide +kernel
theorem dX8_level_94 : decode cX8_level 94 = .ok (.iload_n 3, 1) := by decide +kernel
theorem dX8_level_95 : decode cX8_level 95 = .ok (.iconst 2, 1) := by decide +kernel
theorem dX8_level_96 : decode cX8_level 96 = .ok (.isub, 1) := by decide +kernel
theorem dX8_level_97 : decode cX8_level 97 = .ok (.invokevirtual 198, 3) := by decide +kernel
theorem dX8_level_100 : decode cX8_level 100 = .ok (.goto 29, 3) := by decide +kernel
theorem dX8_level_103 : decode cX8_level 103 = .ok (.aload_n 0, 1) := by decide +kernel
theorem dX8_level_104 : decode cX8_level 104 = .ok (.getfield 65, 3) := by decide +kernel
theorem dX8_level_107 : decode cX8_level 107 = .ok (.aload_n 0, 1) := by decide +kernel
theorem dX8_level_108 : decode cX8_level 108 = .ok (.getfield 19, 3) := by decide +kernel
theorem dX8_level_111 : decode cX8_level 111 = .ok (.getfield 123, 3) := by decide +kernel
theorem dX8_level_114 : decode cX8_level 114 = .ok (.aload_n 0, 1) := by decide +kernel
theorem dX8_level_115 : decode cX8_level 115 = .ok (.getfield 29, 3) := by decide +kernel
theorem dX8_level_118 : decode cX8_level 118 = .ok (.getfield 116, 3) := by decide +kernel
theorem dX8_level_121 : decode cX8_level 121 = .ok (.iload_n 2, 1) := by decide +kernel
theorem dX8_level_122 : decode cX8_level 122 = .ok (.iload_n 3, 1) := by decide +kernel
theorem dX8_level_123 : decode cX8_level 123 = .ok (.bipush 6, 2) := by decide +kernel
theorem dX8_level_125 : decode cX8_level 125 = .ok (.isub, 1) := by decide +kernel
theorem dX8_level_126 : decode cX8_level 126 = .ok (.invokevirtual 202, 3) := by decide +kernel
theorem dX8_level_129 : decode cX8_level 129 = .ok (.ireturn, 1) := by decide +kernel
theorem dX8_when_0 : decode cX8_when 0 = .ok (.aload_n 0, 1) := by decide +kernel
theorem dX8_when_1 : decode cX8_when 1 = .ok (.iload_n 1, 1) := by decide +kernel
theorem dX8_when_2 : decode cX8_when 2 = .ok (.iload_n 2, 1) := by decide +kernel
theorem dX8_when_3 : decode cX8_when 3 = .ok (.invokevirtual 136, 3) := by decide +kernel
theorem dX8_when_6 : decode cX8_when 6 = .ok (.ifCond .ne 5, 3) := by decide +kernel
theorem dX8_when_9 : decode cX8_when 9 = .ok (.iconst (-1), 1) := by decide +kernel
theorem dX8_when_10 : decode cX8_when 10 = .ok (.ireturn, 1) := by decide +kernel
theorem dX8_when_11 : decode cX8_when 11 = .ok (.iconst 0, 1) := by decide +kernel
theorem dX8_when_12 : decode cX8_when 12 = .ok (.istore_n 3, 1) := by decide +kernel
theorem dX8_when_13 : decode cX8_when 13 = .ok (.iload_n 3, 1) := by decide +kernel
theorem dX8_when_14 : decode cX8_when 14 = .ok (.bipush 99, 2) := by decide +kernel
theorem dX8_when_16 : decode cX8_when 16 = .ok (.if_icmp .gt 34, 3) := by decide +kernel
theorem dX8_when_19 : decode cX8_when 19 = .ok (.aload_n 0, 1) := by decide +kernel
theorem dX8_when_20 : decode cX8_when 20 = .ok (.iload_n 1, 1) := by decide +kernel
theorem dX8_when_21 : decode cX8_when 21 = .ok (.iload_n 3, 1) := by decide +kernel
theorem dX8_when_22 : decode cX8_when 22 = .ok (.invokevirtual 205, 3) := by decide +kernel
theorem dX8_when_25 : decode cX8_when 25 = .ok (.aload_n 0, 1) := by decide +kernel
theorem dX8_when_26 : decode cX8_when 26 = .ok (.iload_n 2, 1) := by decide +kernel
theorem dX8_when_27 : decode cX8_when 27 = .ok (.iload_n 3, 1) := by decide +kernel
theorem dX8_when_28 : decode cX8_when 28 = .ok (.invokevirtual 205, 3) := by decide +kernel
theorem dX8_when_31 : decode cX8_when 31 = .ok (.if_icmp .le 13, 3) := by decide +kernel
theorem dX8_when_34 : decode cX8_when 34 = .ok (.aload_n 0, 1) := by decide +kernel
theorem dX8_when_35 : decode cX8_when 35 = .ok (.getfield 29, 3) := by decide +kernel
theorem dX8_when_38 : decode cX8_when 38 = .ok (.getfield 144, 3) := by decide +kernel
theorem dX8_when_41 : decode cX8_when 41 = .ok (.iload_n 3, 1) := by decide +kernel
theorem dX8_when_42 : decode cX8_when 42 = .ok (.iadd, 1) := by decide +kernel
theorem dX8_when_43 : decode cX8_when 43 = .ok (.ireturn, 1) := by decide +kernel
theorem dX8_when_44 : decode cX8_when 44 = .ok (.iinc 3 1, 3) := by decide +kernel
theorem dX8_when_47 : decode cX8_when 47 = .ok (.goto (-34), 3) := by decide +kernel
theorem dX8_when_50 : decode cX8_when 50 = .ok (.bipush (-9), 2) := by decide +kernel
theorem dX8_when_52 : decode cX8_when 52 = .ok (.ireturn, 1) := by decide +kernel
theorem dX8_odds_0 : decode cX8_odds 0 = .ok (.aload_n 0, 1) := by decide +kernel
theorem dX8_odds_1 : decode cX8_odds 1 = .ok (.iload_n 1, 1) := by decide +kernel
theorem dX8_odds_2 : decode cX8_odds 2 = .ok (.iload_n 2, 1) := by decide +kernel
theorem dX8_odds_3 : decode cX8_odds 3 = .ok (.invokevirtual 136, 3) := by decide +kernel
theorem dX8_odds_6 : decode cX8_odds 6 = .ok (.ifCond .eq 31, 3) := by decide +kernel
theorem dX8_odds_9 : decode cX8_odds 9 = .ok (.iload_n 3, 1) := by decide +kernel
theorem dX8_odds_10 : decode cX8_odds 10 = .ok (.invokestatic 113, 3) := by decide +kernel
theorem dX8_odds_13 : decode cX8_odds 13 = .ok (.ifCond .eq 24, 3) := by decide +kernel
theorem dX8_odds_16 : decode cX8_odds 16 = .ok (.iload 4, 2) := by decide +kernel
theorem dX8_odds_18 : decode cX8_odds 18 = .ok (.iconst 0, 1) := by decide +kernel
theorem dX8_odds_19 : decode cX8_odds 19 = .ok (.bipush 10, 2) := by decide +kernel
theorem dX8_odds_21 : decode cX8_odds 21 = .ok (.invokestatic 82, 3) := by decide +kernel
theorem dX8_odds_24 : decode cX8_odds 24 = .ok (.ifCond .eq 13, 3) := by decide +kernel
theorem dX8_odds_27 : decode cX8_odds 27 = .ok (.iload 5, 2) := by decide +kernel
theorem dX8_odds_29 : decode cX8_odds 29 = .ok (.iconst 0, 1) := by decide +kernel
theorem dX8_odds_30 : decode cX8_odds 30 = .ok (.iconst 1, 1) := by decide +kernel
theorem dX8_odds_31 : decode cX8_odds 31 = .ok (.invokestatic 82, 3) := by decide +kernel
theorem dX8_odds_34 : decode cX8_odds 34 = .ok (.ifCond .ne 7, 3) := by decide +kernel
theorem dX8_odds_37 : decode cX8_odds 37 = .ok (.ldc2_w 208, 3) := by decide +kernel
theorem dX8_odds_40 : decode cX8_odds 40 = .ok (.lreturn, 1) := by decide +kernel
theorem dX8_odds_41 : decode cX8_odds 41 = .ok (.aload_n 0, 1) := by decide +kernel
theorem dX8_odds_42 : decode cX8_odds 42 = .ok (.iload_n 1, 1) := by decide +kernel
theorem dX8_odds_43 : decode cX8_odds 43 = .ok (.iload_n 2, 1) := by decide +kernel
theorem dX8_odds_44 : decode cX8_odds 44 = .ok (.iload_n 3, 1) := by decide +kernel
theorem dX8_odds_45 : decode cX8_odds 45 = .ok (.iload 4, 2) := by decide +kernel
theorem dX8_odds_47 : decode cX8_odds 47 = .ok (.invokevirtual 210, 3) := by decide +kernel
theorem dX8_odds_50 : decode cX8_odds 50 = .ok (.lstore 6, 2) := by decide +kernel
theorem dX8_odds_52 : decode cX8_odds 52 = .ok (.bipush 10, 2) := by decide +kernel
theorem dX8_odds_54 : decode cX8_odds 54 = .ok (.aload_n 0, 1) := by decide +kernel
theorem dX8_odds_55 : decode cX8_odds 55 = .ok (.getfield 29, 3) := by decide +kernel
theorem dX8_odds_58 : decode cX8_odds 58 = .ok (.getfield 116, 3) := by decide +kernel
theorem dX8_odds_61 : decode cX8_odds 61 = .ok (.iload_n 1, 1) := by decide +kernel
theorem dX8_odds_62 : decode cX8_odds 62 = .ok (.iconst 4, 1) := by decide +kernel
theorem dX8_odds_63 : decode cX8_odds 63 = .ok (.imul, 1) := by decide +kernel
theorem dX8_odds_64 : decode cX8_odds 64 = .ok (.iload_n 3, 1) := by decide +kernel
theorem dX8_odds_65 : decode cX8_odds 65 = .ok (.iadd, 1) := by decide +kernel
theorem dX8_odds_66 : decode cX8_odds 66 = .ok (.iaload, 1) := by decide +kernel
theorem dX8_odds_67 : decode cX8_odds 67 = .ok (.invokestatic 214, 3) := by decide +kernel
theorem dX8_odds_70 : decode cX8_odds 70 = .ok (.lstore 8, 2) := by decide +kernel
theorem dX8_odds_72 : decode cX8_odds 72 = .ok (.lload 6, 2) := by decide +kernel
theorem dX8_odds_74 : decode cX8_odds 74 = .ok (.lload 8, 2) := by decide +kernel
theorem dX8_odds_76 : decode cX8_odds 76 = .ok (.invokestatic 218, 3) := by decide +kernel
theorem dX8_odds_79 : decode cX8_odds 79 = .ok (.lstore 10, 2) := by decide +kernel
theorem dX8_odds_81 : decode cX8_odds 81 = .ok (.lload 10, 2) := by decide +kernel
theorem dX8_odds_83 : decode cX8_odds 83 = .ok (.lconst 0, 1) := by decide +kernel
theorem dX8_odds_84 : decode cX8_odds 84 = .ok (.lcmp, 1) := by decide +kernel
theorem dX8_odds_85 : decode cX8_odds 85 = .ok (.ifCond .ne 7, 3) := by decide +kernel
theorem dX8_odds_88 : decode cX8_odds 88 = .ok (.ldc2_w 208, 3) := by decide +kernel
theorem dX8_odds_91 : decode cX8_odds 91 = .ok (.lreturn, 1) := by decide +kernel
theorem dX8_odds_92 : decode cX8_odds 92 = .ok (.iload 5, 2) := by decide +kernel
theorem dX8_odds_94 : decode cX8_odds 94 = .ok (.ifCond .ne 11, 3) := by decide +kernel
theorem dX8_odds_97 : decode cX8_odds 97 = .ok (.lload 6, 2) := by decide +kernel
theorem dX8_odds_99 : decode cX8_odds 99 = .ok (.lload 10, 2) := by decide +kernel
theorem dX8_odds_101 : decode cX8_odds 101 = .ok (.ldiv, 1) := by decide +kernel
theorem dX8_odds_102 : decode cX8_odds 102 = .ok (.goto 8, 3) := by decide +kernel
theorem dX8_odds_105 : decode cX8_odds 105 = .ok (.lload 8, 2) := by decide +kernel
theorem dX8_odds_107 : decode cX8_odds 107 = .ok (.lload 10, 2) := by decide +kernel
theorem dX8_odds_109 : decode cX8_odds 109 = .ok (.ldiv, 1) := by decide +kernel
theorem dX8_odds_110 : decode cX8_odds 110 = .ok (.lreturn, 1) := by decide +kernel
theorem dX8_brass_0 : decode cX8_brass 0 = .ok (.iload_n 1, 1) := by decide +kernel
theorem dX8_brass_1 : decode cX8_brass 1 = .ok (.iconst 0, 1) := by decide +kernel
theorem dX8_brass_2 : decode cX8_brass 2 = .ok (.sipush 300, 3) := by decide +kernel
theorem dX8_brass_5 : decode cX8_brass 5 = .ok (.invokestatic 82, 3) := by decide +kernel
theorem dX8_brass_8 : decode cX8_brass 8 = .ok (.ifCond .eq 12, 3) := by decide +kernel
theorem dX8_brass_11 : decode cX8_brass 11 = .ok (.iload_n 2, 1) := by decide +kernel
theorem dX8_brass_12 : decode cX8_brass 12 = .ok (.iconst 0, 1) := by decide +kernel
theorem dX8_brass_13 : decode cX8_brass 13 = .ok (.iconst 2, 1) := by decide +kernel
theorem dX8_brass_14 : decode cX8_brass 14 = .ok (.invokestatic 82, 3) := by decide +kernel
theorem dX8_brass_17 : decode cX8_brass 17 = .ok (.ifCond .ne 5, 3) := by decide +kernel
theorem dX8_brass_20 : decode cX8_brass 20 = .ok (.iconst (-1), 1) := by decide +kernel
theorem dX8_brass_21 : decode cX8_brass 21 = .ok (.ireturn, 1) := by decide +kernel
theorem dX8_brass_22 : decode cX8_brass 22 = .ok (.aload_n 0, 1) := by decide +kernel
theorem dX8_brass_23 : decode cX8_brass 23 = .ok (.getfield 58, 3) := by decide +kernel
theorem dX8_brass_26 : decode cX8_brass 26 = .ok (.iload_n 1, 1) := by decide +kernel
theorem dX8_brass_27 : decode cX8_brass 27 = .ok (.invokevirtual 222, 3) := by decide +kernel
theorem dX8_brass_30 : decode cX8_brass 30 = .ok (.ifCond .ne 6, 3) := by decide +kernel
theorem dX8_brass_33 : decode cX8_brass 33 = .ok (.bipush (-9), 2) := by decide +kernel
theorem dX8_brass_35 : decode cX8_brass 35 = .ok (.ireturn, 1) := by decide +kernel
theorem dX8_brass_36 : decode cX8_brass 36 = .ok (.iload_n 2, 1) := by decide +kernel
theorem dX8_brass_37 : decode cX8_brass 37 = .ok (.ifCond .ne 12, 3) := by decide +kernel
theorem dX8_brass_40 : decode cX8_brass 40 = .ok (.aload_n 0, 1) := by decide +kernel
theorem dX8_brass_41 : decode cX8_brass 41 = .ok (.getfield 58, 3) := by decide +kernel
theorem dX8_brass_44 : decode cX8_brass 44 = .ok (.iload_n 1, 1) := by decide +kernel
theorem dX8_brass_45 : decode cX8_brass 45 = .ok (.invokevirtual 225, 3) := by decide +kernel
theorem dX8_brass_48 : decode cX8_brass 48 = .ok (.ireturn, 1) := by decide +kernel
theorem dX8_brass_49 : decode cX8_brass 49 = .ok (.iload_n 2, 1) := by decide +kernel
theorem dX8_brass_50 : decode cX8_brass 50 = .ok (.iconst 1, 1) := by decide +kernel
theorem dX8_brass_51 : decode cX8_brass 51 = .ok (.if_icmp .ne 14, 3) := by decide +kernel
theorem dX8_brass_54 : decode cX8_brass 54 = .ok (.aload_n 0, 1) := by decide +kernel
theorem dX8_brass_55 : decode cX8_brass 55 = .ok (.getfield 58, 3) := by decide +kernel
theorem dX8_brass_58 : decode cX8_brass 58 = .ok (.iload_n 1, 1) := by decide +kernel
theorem dX8_brass_59 : decode cX8_brass 59 = .ok (.invokevirtual 228, 3) := by decide +kernel
theorem dX8_brass_62 : decode cX8_brass 62 = .ok (.goto 11, 3) := by decide +kernel
theorem dX8_brass_65 : decode cX8_brass 65 = .ok (.aload_n 0, 1) := by decide +kernel
theorem dX8_brass_66 : decode cX8_brass 66 = .ok (.getfield 58, 3) := by decide +kernel
theorem dX8_brass_69 : decode cX8_brass 69 = .ok (.iload_n 1, 1) := by decide +kernel
theorem dX8_brass_70 : decode cX8_brass 70 = .ok (.invokevirtual 231, 3) := by decide +kernel
theorem dX8_brass_73 : decode cX8_brass 73 = .ok (.ireturn, 1) := by decide +kernel
theorem dX8_shows_0 : decode cX8_shows 0 = .ok (.aload_n 0, 1) := by decide +kernel
theorem dX8_shows_1 : decode cX8_shows 1 = .ok (.iload_n 1, 1) := by decide +kernel
theorem dX8_shows_2 : decode cX8_shows 2 = .ok (.invokevirtual 109, 3) := by decide +kernel
theorem dX8_shows_5 : decode cX8_shows 5 = .ok (.ifCond .eq 23, 3) := by decide +kernel
theorem dX8_shows_8 : decode cX8_shows 8 = .ok (.iload_n 2, 1) := by decide +kernel
theorem dX8_shows_9 : decode cX8_shows 9 = .ok (.iconst 0, 1) := by decide +kernel
theorem dX8_shows_10 : decode cX8_shows 10 = .ok (.sipush 720, 3) := by decide +kernel
theorem dX8_shows_13 : decode cX8_shows 13 = .ok (.invokestatic 82, 3) := by decide +kernel
theorem dX8_shows_16 : decode cX8_shows 16 = .ok (.ifCond .eq 12, 3) := by decide +kernel
theorem dX8_shows_19 : decode cX8_shows 19 = .ok (.iload_n 3, 1) := by decide +kernel
theorem dX8_shows_20 : decode cX8_shows 20 = .ok (.iconst 0, 1) := by decide +kernel
theorem dX8_shows_21 : decode cX8_shows 21 = .ok (.iconst 2, 1) := by decide +kernel
theorem dX8_shows_22 : decode cX8_shows 22 = .ok (.invokestatic 82, 3) := by decide +kernel
theorem dX8_shows_25 : decode cX8_shows 25 = .ok (.ifCond .ne 5, 3) := by decide +kernel
theorem dX8_shows_28 : decode cX8_shows 28 = .ok (.iconst (-1), 1) := by decide +kernel
theorem dX8_shows_29 : decode cX8_shows 29 = .ok (.ireturn, 1) := by decide +kernel
theorem dX8_shows_30 : decode cX8_shows 30 = .ok (.aload_n 0, 1) := by decide +kernel
theorem dX8_shows_31 : decode cX8_shows 31 = .ok (.getfield 72, 3) := by decide +kernel
theorem dX8_shows_34 : decode cX8_shows 34 = .ok (.iload_n 1, 1) := by decide +kernel
theorem dX8_shows_35 : decode cX8_shows 35 = .ok (.iload_n 2, 1) := by decide +kernel
theorem dX8_shows_36 : decode cX8_shows 36 = .ok (.iload_n 3, 1) := by decide +kernel
theorem dX8_shows_37 : decode cX8_shows 37 = .ok (.invokevirtual 234, 3) := by decide +kernel
theorem dX8_shows_40 : decode cX8_shows 40 = .ok (.ifCond .eq 13, 3) := by decide +kernel
theorem dX8_shows_43 : decode cX8_shows 43 = .ok (.aload_n 0, 1) := by decide +kernel
theorem dX8_shows_44 : decode cX8_shows 44 = .ok (.getfield 72, 3) := by decide +kernel
theorem dX8_shows_47 : decode cX8_shows 47 = .ok (.getfield 237, 3) := by decide +kernel
theorem dX8_shows_50 : decode cX8_shows 50 = .ok (.goto 5, 3) := by decide +kernel
theorem dX8_shows_53 : decode cX8_shows 53 = .ok (.bipush (-3), 2) := by decide +kernel
theorem dX8_shows_55 : decode cX8_shows 55 = .ok (.ireturn, 1) := by decide +kernel
theorem dX8_can_0 : decode cX8_can 0 = .ok (.aload_n 0, 1) := by decide +kernel
theorem dX8_can_1 : decode cX8_can 1 = .ok (.iload_n 1, 1) := by decide +kernel
theorem dX8_can_2 : decode cX8_can 2 = .ok (.invokevirtual 109, 3) := by decide +kernel
theorem dX8_can_5 : decode cX8_can 5 = .ok (.ifCond .eq 12, 3) := by decide +kernel
theorem dX8_can_8 : decode cX8_can 8 = .ok (.iload_n 2, 1) := by decide +kernel
theorem dX8_can_9 : decode cX8_can 9 = .ok (.iconst 0, 1) := by decide +kernel
theorem dX8_can_10 : decode cX8_can 10 = .ok (.iconst 2, 1) := by decide +kernel
theorem dX8_can_11 : decode cX8_can 11 = .ok (.invokestatic 82, 3) := by decide +kernel
theorem dX8_can_14 : decode cX8_can 14 = .ok (.ifCond .ne 5, 3) := by decide +kernel
theorem dX8_can_17 : decode cX8_can 17 = .ok (.iconst (-1), 1) := by decide +kernel
theorem dX8_can_18 : decode cX8_can 18 = .ok (.ireturn, 1) := by decide +kernel
theorem dX8_can_19 : decode cX8_can 19 = .ok (.aload_n 0, 1) := by decide +kernel
theorem dX8_can_20 : decode cX8_can 20 = .ok (.getfield 72, 3) := by decide +kernel
theorem dX8_can_23 : decode cX8_can 23 = .ok (.aload_n 0, 1) := by decide +kernel
theorem dX8_can_24 : decode cX8_can 24 = .ok (.getfield 19, 3) := by decide +kernel
theorem dX8_can_27 : decode cX8_can 27 = .ok (.getfield 123, 3) := by decide +kernel
theorem dX8_can_30 : decode cX8_can 30 = .ok (.invokevirtual 240, 3) := by decide +kernel
theorem dX8_can_33 : decode cX8_can 33 = .ok (.aload_n 0, 1) := by decide +kernel
theorem dX8_can_34 : decode cX8_can 34 = .ok (.getfield 72, 3) := by decide +kernel
theorem dX8_can_37 : decode cX8_can 37 = .ok (.iload_n 1, 1) := by decide +kernel
theorem dX8_can_38 : decode cX8_can 38 = .ok (.invokevirtual 244, 3) := by decide +kernel
theorem dX8_can_41 : decode cX8_can 41 = .ok (.istore_n 3, 1) := by decide +kernel
theorem dX8_can_42 : decode cX8_can 42 = .ok (.aload_n 0, 1) := by decide +kernel
theorem dX8_can_43 : decode cX8_can 43 = .ok (.getfield 72, 3) := by decide +kernel
theorem dX8_can_46 : decode cX8_can 46 = .ok (.iload_n 1, 1) := by decide +kernel
theorem dX8_can_47 : decode cX8_can 47 = .ok (.invokevirtual 247, 3) := by decide +kernel
theorem dX8_can_50 : decode cX8_can 50 = .ok (.istore 4, 2) := by decide +kernel
theorem dX8_can_52 : decode cX8_can 52 = .ok (.iload_n 2, 1) := by decide +kernel
theorem dX8_can_53 : decode cX8_can 53 = .ok (.ifCond .ne 14, 3) := by decide +kernel
theorem dX8_can_56 : decode cX8_can 56 = .ok (.aload_n 0, 1) := by decide +kernel
theorem dX8_can_57 : decode cX8_can 57 = .ok (.getfield 72, 3) := by decide +kernel
theorem dX8_can_60 : decode cX8_can 60 = .ok (.iload_n 3, 1) := by decide +kernel
theorem dX8_can_61 : decode cX8_can 61 = .ok (.iload 4, 2) := by decide +kernel
theorem dX8_can_63 : decode cX8_can 63 = .ok (.invokevirtual 250, 3) := by decide +kernel
theorem dX8_can_66 : decode cX8_can 66 = .ok (.ireturn, 1) := by decide +kernel
theorem dX8_can_67 : decode cX8_can 67 = .ok (.iload_n 2, 1) := by decide +kernel
theorem dX8_can_68 : decode cX8_can 68 = .ok (.iconst 1, 1) := by decide +kernel
theorem dX8_can_69 : decode cX8_can 69 = .ok (.if_icmp .ne 16, 3) := by decide +kernel
theorem dX8_can_72 : decode cX8_can 72 = .ok (.aload_n 0, 1) := by decide +kernel
theorem dX8_can_73 : decode cX8_can 73 = .ok (.getfield 72, 3) := by decide +kernel
theorem dX8_can_76 : decode cX8_can 76 = .ok (.iload_n 3, 1) := by decide +kernel
theorem dX8_can_77 : decode cX8_can 77 = .ok (.iload 4, 2) := by decide +kernel
theorem dX8_can_79 : decode cX8_can 79 = .ok (.invokevirtual 253, 3) := by decide +kernel
theorem dX8_can_82 : decode cX8_can 82 = .ok (.goto 13, 3) := by decide +kernel
theorem dX8_can_85 : decode cX8_can 85 = .ok (.aload_n 0, 1) := by decide +kernel
theorem dX8_can_86 : decode cX8_can 86 = .ok (.getfield 72, 3) := by decide +kernel
theorem dX8_can_89 : decode cX8_can 89 = .ok (.iload_n 3, 1) := by decide +kernel
theorem dX8_can_90 : decode cX8_can 90 = .ok (.iload 4, 2) := by decide +kernel
theorem dX8_can_92 : decode cX8_can 92 = .ok (.invokevirtual 256, 3) := by decide +kernel
theorem dX8_can_95 : decode cX8_can 95 = .ok (.ireturn, 1) := by decide +kernel
theorem dX8_saw_0 : decode cX8_saw 0 = .ok (.aload_n 0, 1) := by decide +kernel
theorem dX8_saw_1 : decode cX8_saw 1 = .ok (.iload_n 1, 1) := by decide +kernel
theorem dX8_saw_2 : decode cX8_saw 2 = .ok (.invokevirtual 109, 3) := by decide +kernel
theorem dX8_saw_5 : decode cX8_saw 5 = .ok (.ifCond .eq 14, 3) := by decide +kernel
theorem dX8_saw_8 : decode cX8_saw 8 = .ok (.iload_n 2, 1) := by decide +kernel
theorem dX8_saw_9 : decode cX8_saw 9 = .ok (.iconst 0, 1) := by decide +kernel
theorem dX8_saw_10 : decode cX8_saw 10 = .ok (.sipush 240, 3) := by decide +kernel
theorem dX8_saw_13 : decode cX8_saw 13 = .ok (.invokestatic 82, 3) := by decide +kernel
theorem dX8_saw_16 : decode cX8_saw 16 = .ok (.ifCond .ne 5, 3) := by decide +kernel
theorem dX8_saw_19 : decode cX8_saw 19 = .ok (.iconst (-1), 1) := by decide +kernel
theorem dX8_saw_20 : decode cX8_saw 20 = .ok (.ireturn, 1) := by decide +kernel
theorem dX8_saw_21 : decode cX8_saw 21 = .ok (.aload_n 0, 1) := by decide +kernel
theorem dX8_saw_22 : decode cX8_saw 22 = .ok (.getfield 72, 3) := by decide +kernel
theorem dX8_saw_25 : decode cX8_saw 25 = .ok (.iload_n 1, 1) := by decide +kernel
theorem dX8_saw_26 : decode cX8_saw 26 = .ok (.iload_n 2, 1) := by decide +kernel
theorem dX8_saw_27 : decode cX8_saw 27 = .ok (.invokevirtual 259, 3) := by decide +kernel
theorem dX8_saw_30 : decode cX8_saw 30 = .ok (.ifCond .eq 13, 3) := by decide +kernel
theorem dX8_saw_33 : decode cX8_saw 33 = .ok (.aload_n 0, 1) := by decide +kernel
theorem dX8_saw_34 : decode cX8_saw 34 = .ok (.getfield 72, 3) := by decide +kernel
theorem dX8_saw_37 : decode cX8_saw 37 = .ok (.getfield 262, 3) := by decide +kernel
theorem dX8_saw_40 : decode cX8_saw 40 = .ok (.goto 5, 3) := by decide +kernel
theorem dX8_saw_43 : decode cX8_saw 43 = .ok (.bipush (-3), 2) := by decide +kernel
theorem dX8_saw_45 : decode cX8_saw 45 = .ok (.ireturn, 1) := by decide +kernel
theorem dX8_laws_0 : decode cX8_laws 0 = .ok (.aload_n 0, 1) := by decide +kernel
theorem dX8_laws_1 : decode cX8_laws 1 = .ok (.iload_n 1, 1) := by decide +kernel
theorem dX8_laws_2 : decode cX8_laws 2 = .ok (.invokevirtual 109, 3) := by decide +kernel
theorem dX8_laws_5 : decode cX8_laws 5 = .ok (.ifCond .eq 12, 3) := by decide +kernel
theorem dX8_laws_8 : decode cX8_laws 8 = .ok (.iload_n 2, 1) := by decide +kernel
theorem dX8_laws_9 : decode cX8_laws 9 = .ok (.iconst 0, 1) := by decide +kernel
theorem dX8_laws_10 : decode cX8_laws 10 = .ok (.iconst 1, 1) := by decide +kernel
theorem dX8_laws_11 : decode cX8_laws 11 = .ok (.invokestatic 82, 3) := by decide +kernel
theorem dX8_laws_14 : decode cX8_laws 14 = .ok (.ifCond .ne 5, 3) := by decide +kernel
theorem dX8_laws_17 : decode cX8_laws 17 = .ok (.iconst (-1), 1) := by decide +kernel
theorem dX8_laws_18 : decode cX8_laws 18 = .ok (.ireturn, 1) := by decide +kernel
theorem dX8_laws_19 : decode cX8_laws 19 = .ok (.iload_n 2, 1) := by decide +kernel
theorem dX8_laws_20 : decode cX8_laws 20 = .ok (.ifCond .ne 21, 3) := by decide +kernel
theorem dX8_laws_23 : decode cX8_laws 23 = .ok (.aload_n 0, 1) := by decide +kernel
theorem dX8_laws_24 : decode cX8_laws 24 = .ok (.getfield 72, 3) := by decide +kernel
theorem dX8_laws_27 : decode cX8_laws 27 = .ok (.iload_n 1, 1) := by decide +kernel
theorem dX8_laws_28 : decode cX8_laws 28 = .ok (.aload_n 0, 1) := by decide +kernel
theorem dX8_laws_29 : decode cX8_laws 29 = .ok (.getfield 19, 3) := by decide +kernel
theorem dX8_laws_32 : decode cX8_laws 32 = .ok (.getfield 123, 3) := by decide +kernel
theorem dX8_laws_35 : decode cX8_laws 35 = .ok (.invokevirtual 265, 3) := by decide +kernel
theorem dX8_laws_38 : decode cX8_laws 38 = .ok (.goto 18, 3) := by decide +kernel
theorem dX8_laws_41 : decode cX8_laws 41 = .ok (.aload_n 0, 1) := by decide +kernel
theorem dX8_laws_42 : decode cX8_laws 42 = .ok (.getfield 72, 3) := by decide +kernel
theorem dX8_laws_45 : decode cX8_laws 45 = .ok (.iload_n 1, 1) := by decide +kernel
theorem dX8_laws_46 : decode cX8_laws 46 = .ok (.aload_n 0, 1) := by decide +kernel
theorem dX8_laws_47 : decode cX8_laws 47 = .ok (.getfield 19, 3) := by decide +kernel
theorem dX8_laws_50 : decode cX8_laws 50 = .ok (.getfield 123, 3) := by decide +kernel
theorem dX8_laws_53 : decode cX8_laws 53 = .ok (.invokevirtual 269, 3) := by decide +kernel
theorem dX8_laws_56 : decode cX8_laws 56 = .ok (.ireturn, 1) := by decide +kernel
theorem dX8_clean_0 : decode cX8_clean 0 = .ok (.aload_n 0, 1) := by decide +kernel
theorem dX8_clean_1 : decode cX8_clean 1 = .ok (.getfield 72, 3) := by decide +kernel
theorem dX8_clean_4 : decode cX8_clean 4 = .ok (.getfield 237, 3) := by decide +kernel
theorem dX8_clean_7 : decode cX8_clean 7 = .ok (.aload_n 0, 1) := by decide +kernel
theorem dX8_clean_8 : decode cX8_clean 8 = .ok (.getfield 72, 3) := by decide +kernel
theorem dX8_clean_11 : decode cX8_clean 11 = .ok (.getfield 262, 3) := by decide +kernel
theorem dX8_clean_14 : decode cX8_clean 14 = .ok (.iadd, 1) := by decide +kernel
theorem dX8_clean_15 : decode cX8_clean 15 = .ok (.istore_n 1, 1) := by decide +kernel
theorem dX8_clean_16 : decode cX8_clean 16 = .ok (.aload_n 0, 1) := by decide +kernel
theorem dX8_clean_17 : decode cX8_clean 17 = .ok (.getfield 72, 3) := by decide +kernel
theorem dX8_clean_20 : decode cX8_clean 20 = .ok (.invokevirtual 272, 3) := by decide +kernel
theorem dX8_clean_23 : decode cX8_clean 23 = .ok (.iload_n 1, 1) := by decide +kernel
theorem dX8_clean_24 : decode cX8_clean 24 = .ok (.ireturn, 1) := by decide +kernel
theorem dX8_rate_0 : decode cX8_rate 0 = .ok (.aload_n 0, 1) := by decide +kernel
theorem dX8_rate_1 : decode cX8_rate 1 = .ok (.iload_n 2, 1) := by decide +kernel
theorem dX8_rate_2 : decode cX8_rate 2 = .ok (.invokevirtual 109, 3) := by decide +kernel
theorem dX8_rate_5 : decode cX8_rate 5 = .ok (.ifCond .ne 6, 3) := by decide +kernel
theorem dX8_rate_8 : decode cX8_rate 8 = .ok (.ldc 187, 2) := by decide +kernel
theorem dX8_rate_10 : decode cX8_rate 10 = .ok (.ireturn, 1) := by decide +kernel
theorem dX8_rate_11 : decode cX8_rate 11 = .ok (.iload_n 1, 1) := by decide +kernel
theorem dX8_rate_12 : decode cX8_rate 12 = .ok (.tableswitch 76 0 5 #[40, 46, 52, 58, 64, 70], 40) := by decide +kernel
theorem dX8_rate_52 : decode cX8_rate 52 = .ok (.aload_n 0, 1) := by decide +kernel
theorem dX8_rate_53 : decode cX8_rate 53 = .ok (.iload_n 2, 1) := by decide +kernel
theorem dX8_rate_54 : decode cX8_rate 54 = .ok (.invokevirtual 275, 3) := by decide +kernel
theorem dX8_rate_57 : decode cX8_rate 57 = .ok (.ireturn, 1) := by decide +kernel
theorem dX8_rate_58 : decode cX8_rate 58 = .ok (.aload_n 0, 1) := by decide +kernel
theorem dX8_rate_59 : decode cX8_rate 59 = .ok (.iload_n 2, 1) := by decide +kernel
theorem dX8_rate_60 : decode cX8_rate 60 = .ok (.invokevirtual 278, 3) := by decide +kernel
theorem dX8_rate_63 : decode cX8_rate 63 = .ok (.ireturn, 1) := by decide +kernel
theorem dX8_rate_64 : decode cX8_rate 64 = .ok (.aload_n 0, 1) := by decide +kernel
theorem dX8_rate_65 : decode cX8_rate 65 = .ok (.iload_n 2, 1) := by decide +kernel
theorem dX8_rate_66 : decode cX8_rate 66 = .ok (.invokevirtual 281, 3) := by decide +kernel
theorem dX8_rate_69 : decode cX8_rate 69 = .ok (.ireturn, 1) := by decide +kernel
theorem dX8_rate_70 : decode cX8_rate 70 = .ok (.aload_n 0, 1) := by decide +kernel
theorem dX8_rate_71 : decode cX8_rate 71 = .ok (.iload_n 2, 1) := by decide +kernel
theorem dX8_rate_72 : decode cX8_rate 72 = .ok (.invokevirtual 284, 3) := by decide +kernel
theorem dX8_rate_75 : decode cX8_rate 75 = .ok (.ireturn, 1) := by decide +kernel
theorem dX8_rate_76 : decode cX8_rate 76 = .ok (.aload_n 0, 1) := by decide +kernel
theorem dX8_rate_77 : decode cX8_rate 77 = .ok (.iload_n 2, 1) := by decide +kernel
theorem dX8_rate_78 : decode cX8_rate 78 = .ok (.invokevirtual 287, 3) := by decide +kernel
theorem dX8_rate_81 : decode cX8_rate 81 = .ok (.ireturn, 1) := by decide +kernel
theorem dX8_rate_82 : decode cX8_rate 82 = .ok (.aload_n 0, 1) := by decide +kernel
theorem dX8_rate_83 : decode cX8_rate 83 = .ok (.iload_n 2, 1) := by decide +kernel
theorem dX8_rate_84 : decode cX8_rate 84 = .ok (.invokevirtual 290, 3) := by decide +kernel
theorem dX8_rate_87 : decode cX8_rate 87 = .ok (.ireturn, 1) := by decide +kernel
theorem dX8_rate_88 : decode cX8_rate 88 = .ok (.ldc 187, 2) := by decide +kernel
theorem dX8_rate_90 : decode cX8_rate 90 = .ok (.ireturn, 1) := by decide +kernel
theorem dX8_keep_0 : decode cX8_keep 0 = .ok (.iload_n 1, 1) := by decide +kernel
theorem dX8_keep_1 : decode cX8_keep 1 = .ok (.iconst 0, 1) := by decide +kernel
theorem dX8_keep_2 : decode cX8_keep 2 = .ok (.iconst 1, 1) := by decide +kernel
theorem dX8_keep_3 : decode cX8_keep 3 = .ok (.invokestatic 82, 3) := by decide +kernel
theorem dX8_keep_6 : decode cX8_keep 6 = .ok (.ifCond .ne 5, 3) := by decide +kernel
theorem dX8_keep_9 : decode cX8_keep 9 = .ok (.iconst (-1), 1) := by decide +kernel
theorem dX8_keep_10 : decode cX8_keep 10 = .ok (.ireturn, 1) := by decide +kernel
theorem dX8_keep_11 : decode cX8_keep 11 = .ok (.aload_n 0, 1) := by decide +kernel
theorem dX8_keep_12 : decode cX8_keep 12 = .ok (.getfield 40, 3) := by decide +kernel
theorem dX8_keep_15 : decode cX8_keep 15 = .ok (.iload_n 1, 1) := by decide +kernel
theorem dX8_keep_16 : decode cX8_keep 16 = .ok (.aaload, 1) := by decide +kernel
theorem dX8_keep_17 : decode cX8_keep 17 = .ok (.aload_n 0, 1) := by decide +kernel
theorem dX8_keep_18 : decode cX8_keep 18 = .ok (.getfield 29, 3) := by decide +kernel
theorem dX8_keep_21 : decode cX8_keep 21 = .ok (.invokevirtual 293, 3) := by decide +kernel
theorem dX8_keep_24 : decode cX8_keep 24 = .ok (.aload_n 0, 1) := by decide +kernel
theorem dX8_keep_25 : decode cX8_keep 25 = .ok (.getfield 44, 3) := by decide +kernel
theorem dX8_keep_28 : decode cX8_keep 28 = .ok (.iload_n 1, 1) := by decide +kernel
theorem dX8_keep_29 : decode cX8_keep 29 = .ok (.iconst 1, 1) := by decide +kernel
theorem dX8_keep_30 : decode cX8_keep 30 = .ok (.bastore, 1) := by decide +kernel
theorem dX8_keep_31 : decode cX8_keep 31 = .ok (.aload_n 0, 1) := by decide +kernel
theorem dX8_keep_32 : decode cX8_keep 32 = .ok (.getfield 29, 3) := by decide +kernel
theorem dX8_keep_35 : decode cX8_keep 35 = .ok (.getfield 144, 3) := by decide +kernel
theorem dX8_keep_38 : decode cX8_keep 38 = .ok (.ireturn, 1) := by decide +kernel
theorem dX8_back_0 : decode cX8_back 0 = .ok (.iload_n 1, 1) := by decide +kernel
theorem dX8_back_1 : decode cX8_back 1 = .ok (.iconst 0, 1) := by decide +kernel
theorem dX8_back_2 : decode cX8_back 2 = .ok (.iconst 1, 1) := by decide +kernel
theorem dX8_back_3 : decode cX8_back 3 = .ok (.invokestatic 82, 3) := by decide +kernel
theorem dX8_back_6 : decode cX8_back 6 = .ok (.ifCond .ne 5, 3) := by decide +kernel
theorem dX8_back_9 : decode cX8_back 9 = .ok (.iconst (-1), 1) := by decide +kernel
theorem dX8_back_10 : decode cX8_back 10 = .ok (.ireturn, 1) := by decide +kernel
theorem dX8_back_11 : decode cX8_back 11 = .ok (.aload_n 0, 1) := by decide +kernel
theorem dX8_back_12 : decode cX8_back 12 = .ok (.getfield 44, 3) := by decide +kernel
theorem dX8_back_15 : decode cX8_back 15 = .ok (.iload_n 1, 1) := by decide +kernel
theorem dX8_back_16 : decode cX8_back 16 = .ok (.baload, 1) := by decide +kernel
theorem dX8_back_17 : decode cX8_back 17 = .ok (.ifCond .ne 6, 3) := by decide +kernel
theorem dX8_back_20 : decode cX8_back 20 = .ok (.bipush (-2), 2) := by decide +kernel
theorem dX8_back_22 : decode cX8_back 22 = .ok (.ireturn, 1) := by decide +kernel
theorem dX8_back_23 : decode cX8_back 23 = .ok (.aload_n 0, 1) := by decide +kernel
theorem dX8_back_24 : decode cX8_back 24 = .ok (.getfield 29, 3) := by decide +kernel
theorem dX8_back_27 : decode cX8_back 27 = .ok (.aload_n 0, 1) := by decide +kernel
theorem dX8_back_28 : decode cX8_back 28 = .ok (.getfield 40, 3) := by decide +kernel
theorem dX8_back_31 : decode cX8_back 31 = .ok (.iload_n 1, 1) := by decide +kernel
theorem dX8_back_32 : decode cX8_back 32 = .ok (.aaload, 1) := by decide +kernel
theorem dX8_back_33 : decode cX8_back 33 = .ok (.invokevirtual 293, 3) := by decide +kernel
theorem dX8_back_36 : decode cX8_back 36 = .ok (.aload_n 0, 1) := by decide +kernel
theorem dX8_back_37 : decode cX8_back 37 = .ok (.getfield 36, 3) := by decide +kernel
theorem dX8_back_40 : decode cX8_back 40 = .ok (.iconst 0, 1) := by decide +kernel
theorem dX8_back_41 : decode cX8_back 41 = .ok (.putfield 157, 3) := by decide +kernel
theorem dX8_back_44 : decode cX8_back 44 = .ok (.aload_n 0, 1) := by decide +kernel
theorem dX8_back_45 : decode cX8_back 45 = .ok (.getfield 29, 3) := by decide +kernel
theorem dX8_back_48 : decode cX8_back 48 = .ok (.getfield 144, 3) := by decide +kernel
theorem dX8_back_51 : decode cX8_back 51 = .ok (.ireturn, 1) := by decide +kernel
theorem dX8_count_0 : decode cX8_count 0 = .ok (.iload_n 1, 1) := by decide +kernel
theorem dX8_count_1 : decode cX8_count 1 = .ok (.tableswitch 75 0 4 #[35, 43, 51, 59, 67], 35) := by decide +kernel
theorem dX8_count_36 : decode cX8_count 36 = .ok (.aload_n 0, 1) := by decide +kernel
theorem dX8_count_37 : decode cX8_count 37 = .ok (.getfield 19, 3) := by decide +kernel
theorem dX8_count_40 : decode cX8_count 40 = .ok (.getfield 168, 3) := by decide +kernel
theorem dX8_count_43 : decode cX8_count 43 = .ok (.ireturn, 1) := by decide +kernel
theorem dX8_count_44 : decode cX8_count 44 = .ok (.aload_n 0, 1) := by decide +kernel
theorem dX8_count_45 : decode cX8_count 45 = .ok (.getfield 19, 3) := by decide +kernel
theorem dX8_count_48 : decode cX8_count 48 = .ok (.getfield 126, 3) := by decide +kernel
theorem dX8_count_51 : decode cX8_count 51 = .ok (.ireturn, 1) := by decide +kernel
theorem dX8_count_52 : decode cX8_count 52 = .ok (.aload_n 0, 1) := by decide +kernel
theorem dX8_count_53 : decode cX8_count 53 = .ok (.getfield 72, 3) := by decide +kernel
theorem dX8_count_56 : decode cX8_count 56 = .ok (.getfield 237, 3) := by decide +kernel
theorem dX8_count_59 : decode cX8_count 59 = .ok (.ireturn, 1) := by decide +kernel
theorem dX8_count_60 : decode cX8_count 60 = .ok (.aload_n 0, 1) := by decide +kernel
theorem dX8_count_61 : decode cX8_count 61 = .ok (.getfield 72, 3) := by decide +kernel
theorem dX8_count_64 : decode cX8_count 64 = .ok (.getfield 262, 3) := by decide +kernel
theorem dX8_count_67 : decode cX8_count 67 = .ok (.ireturn, 1) := by decide +kernel
theorem dX8_count_68 : decode cX8_count 68 = .ok (.aload_n 0, 1) := by decide +kernel
theorem dX8_count_69 : decode cX8_count 69 = .ok (.getfield 12, 3) := by decide +kernel
theorem dX8_count_72 : decode cX8_count 72 = .ok (.getfield 90, 3) := by decide +kernel
theorem dX8_count_75 : decode cX8_count 75 = .ok (.ireturn, 1) := by decide +kernel
theorem dX8_count_76 : decode cX8_count 76 = .ok (.iconst (-1), 1) := by decide +kernel
theorem dX8_count_77 : decode cX8_count 77 = .ok (.ireturn, 1) := by decide +kernel
theorem dX8_trace_0 : decode cX8_trace 0 = .ok (.aload_n 0, 1) := by decide +kernel
theorem dX8_trace_1 : decode cX8_trace 1 = .ok (.getfield 295, 3) := by decide +kernel
theorem dX8_trace_4 : decode cX8_trace 4 = .ok (.lreturn, 1) := by decide +kernel
theorem dX8_beginAnew_0 : decode cX8_beginAnew 0 = .ok (.aload_n 0, 1) := by decide +kernel
theorem dX8_beginAnew_1 : decode cX8_beginAnew 1 = .ok (.getfield 29, 3) := by decide +kernel
theorem dX8_beginAnew_4 : decode cX8_beginAnew 4 = .ok (.aload_n 0, 1) := by decide +kernel
theorem dX8_beginAnew_5 : decode cX8_beginAnew 5 = .ok (.getfield 19, 3) := by decide +kernel
theorem dX8_beginAnew_8 : decode cX8_beginAnew 8 = .ok (.invokevirtual 299, 3) := by decide +kernel
theorem dX8_beginAnew_11 : decode cX8_beginAnew 11 = .ok (.aload_n 0, 1) := by decide +kernel
theorem dX8_beginAnew_12 : decode cX8_beginAnew 12 = .ok (.getfield 36, 3) := by decide +kernel
theorem dX8_beginAnew_15 : decode cX8_beginAnew 15 = .ok (.iconst 0, 1) := by decide +kernel
theorem dX8_beginAnew_16 : decode cX8_beginAnew 16 = .ok (.putfield 157, 3) := by decide +kernel
theorem dX8_beginAnew_19 : decode cX8_beginAnew 19 = .ok (.iconst 0, 1) := by decide +kernel
theorem dX8_beginAnew_20 : decode cX8_beginAnew 20 = .ok (.istore_n 1, 1) := by decide +kernel
theorem dX8_beginAnew_21 : decode cX8_beginAnew 21 = .ok (.iload_n 1, 1) := by decide +kernel
theorem dX8_beginAnew_22 : decode cX8_beginAnew 22 = .ok (.iconst 2, 1) := by decide +kernel
theorem dX8_beginAnew_23 : decode cX8_beginAnew 23 = .ok (.if_icmp .ge 16, 3) := by decide +kernel
theorem dX8_beginAnew_26 : decode cX8_beginAnew 26 = .ok (.aload_n 0, 1) := by decide +kernel
theorem dX8_beginAnew_27 : decode cX8_beginAnew 27 = .ok (.getfield 44, 3) := by decide +kernel
theorem dX8_beginAnew_30 : decode cX8_beginAnew 30 = .ok (.iload_n 1, 1) := by decide +kernel
theorem dX8_beginAnew_31 : decode cX8_beginAnew 31 = .ok (.iconst 0, 1) := by decide +kernel
theorem dX8_beginAnew_32 : decode cX8_beginAnew 32 = .ok (.bastore, 1) := by decide +kernel
theorem dX8_beginAnew_33 : decode cX8_beginAnew 33 = .ok (.iinc 1 1, 3) := by decide +kernel
theorem dX8_beginAnew_36 : decode cX8_beginAnew 36 = .ok (.goto (-15), 3) := by decide +kernel
theorem dX8_beginAnew_39 : decode cX8_beginAnew 39 = .ok (.aload_n 0, 1) := by decide +kernel
theorem dX8_beginAnew_40 : decode cX8_beginAnew 40 = .ok (.getfield 58, 3) := by decide +kernel
theorem dX8_beginAnew_43 : decode cX8_beginAnew 43 = .ok (.aload_n 0, 1) := by decide +kernel
theorem dX8_beginAnew_44 : decode cX8_beginAnew 44 = .ok (.getfield 19, 3) := by decide +kernel
theorem dX8_beginAnew_47 : decode cX8_beginAnew 47 = .ok (.invokevirtual 302, 3) := by decide +kernel
theorem dX8_beginAnew_50 : decode cX8_beginAnew 50 = .ok (.aload_n 0, 1) := by decide +kernel
theorem dX8_beginAnew_51 : decode cX8_beginAnew 51 = .ok (.getfield 72, 3) := by decide +kernel
theorem dX8_beginAnew_54 : decode cX8_beginAnew 54 = .ok (.invokevirtual 305, 3) := by decide +kernel
theorem dX8_beginAnew_57 : decode cX8_beginAnew 57 = .ok (.return_, 1) := by decide +kernel
theorem dX8_within_0 : decode cX8_within 0 = .ok (.iload_n 0, 1) := by decide +kernel
theorem dX8_within_1 : decode cX8_within 1 = .ok (.iload_n 1, 1) := by decide +kernel
theorem dX8_within_2 : decode cX8_within 2 = .ok (.if_icmp .lt 12, 3) := by decide +kernel
theorem dX8_within_5 : decode cX8_within 5 = .ok (.iload_n 0, 1) := by decide +kernel
theorem dX8_within_6 : decode cX8_within 6 = .ok (.iload_n 2, 1) := by decide +kernel
theorem dX8_within_7 : decode cX8_within 7 = .ok (.if_icmp .gt 7, 3) := by decide +kernel
theorem dX8_within_10 : decode cX8_within 10 = .ok (.iconst 1, 1) := by decide +kernel
theorem dX8_within_11 : decode cX8_within 11 = .ok (.goto 4, 3) := by decide +kernel
theorem dX8_within_14 : decode cX8_within 14 = .ok (.iconst 0, 1) := by decide +kernel
theorem dX8_within_15 : decode cX8_within 15 = .ok (.ireturn, 1) := by decide +kernel
theorem dX8_isSort_0 : decode cX8_isSort 0 = .ok (.iload_n 0, 1) := by decide +kernel
theorem dX8_isSort_1 : decode cX8_isSort 1 = .ok (.iconst 0, 1) := by decide +kernel
theorem dX8_isSort_2 : decode cX8_isSort 2 = .ok (.iconst 3, 1) := by decide +kernel
theorem dX8_isSort_3 : decode cX8_isSort 3 = .ok (.invokestatic 82, 3) := by decide +kernel
theorem dX8_isSort_6 : decode cX8_isSort 6 = .ok (.ireturn, 1) := by decide +kernel
theorem dX8_isPerson_0 : decode cX8_isPerson 0 = .ok (.iload_n 1, 1) := by decide +kernel
theorem dX8_isPerson_1 : decode cX8_isPerson 1 = .ok (.iconst 0, 1) := by decide +kernel
theorem dX8_isPerson_2 : decode cX8_isPerson 2 = .ok (.aload_n 0, 1) := by decide +kernel
theorem dX8_isPerson_3 : decode cX8_isPerson 3 = .ok (.getfield 19, 3) := by decide +kernel
theorem dX8_isPerson_6 : decode cX8_isPerson 6 = .ok (.getfield 168, 3) := by decide +kernel
theorem dX8_isPerson_9 : decode cX8_isPerson 9 = .ok (.iconst 1, 1) := by decide +kernel
theorem dX8_isPerson_10 : decode cX8_isPerson 10 = .ok (.isub, 1) := by decide +kernel
theorem dX8_isPerson_11 : decode cX8_isPerson 11 = .ok (.invokestatic 82, 3) := by decide +kernel
theorem dX8_isPerson_14 : decode cX8_isPerson 14 = .ok (.ireturn, 1) := by decide +kernel
theorem dX8_isPair_0 : decode cX8_isPair 0 = .ok (.aload_n 0, 1) := by decide +kernel
theorem dX8_isPair_1 : decode cX8_isPair 1 = .ok (.iload_n 1, 1) := by decide +kernel
theorem dX8_isPair_2 : decode cX8_isPair 2 = .ok (.invokevirtual 109, 3) := by decide +kernel
theorem dX8_isPair_5 : decode cX8_isPair 5 = .ok (.ifCond .eq 20, 3) := by decide +kernel
theorem dX8_isPair_8 : decode cX8_isPair 8 = .ok (.aload_n 0, 1) := by decide +kernel
theorem dX8_isPair_9 : decode cX8_isPair 9 = .ok (.iload_n 2, 1) := by decide +kernel
theorem dX8_isPair_10 : decode cX8_isPair 10 = .ok (.invokevirtual 109, 3) := by decide +kernel
theorem dX8_isPair_13 : decode cX8_isPair 13 = .ok (.ifCond .eq 12, 3) := by decide +kernel
theorem dX8_isPair_16 : decode cX8_isPair 16 = .ok (.iload_n 1, 1) := by decide +kernel
theorem dX8_isPair_17 : decode cX8_isPair 17 = .ok (.iload_n 2, 1) := by decide +kernel
theorem dX8_isPair_18 : decode cX8_isPair 18 = .ok (.if_icmp .eq 7, 3) := by decide +kernel
theorem dX8_isPair_21 : decode cX8_isPair 21 = .ok (.iconst 1, 1) := by decide +kernel
theorem dX8_isPair_22 : decode cX8_isPair 22 = .ok (.goto 4, 3) := by decide +kernel
theorem dX8_isPair_25 : decode cX8_isPair 25 = .ok (.iconst 0, 1) := by decide +kernel
theorem dX8_isPair_26 : decode cX8_isPair 26 = .ok (.ireturn, 1) := by decide +kernel
theorem dX8_heavinessOf_0 : decode cX8_heavinessOf 0 = .ok (.aload_n 0, 1) := by decide +kernel
theorem dX8_heavinessOf_1 : decode cX8_heavinessOf 1 = .ok (.iload_n 1, 1) := by decide +kernel
theorem dX8_heavinessOf_2 : decode cX8_heavinessOf 2 = .ok (.iconst 0, 1) := by decide +kernel
theorem dX8_heavinessOf_3 : decode cX8_heavinessOf 3 = .ok (.invokevirtual 205, 3) := by decide +kernel
theorem dX8_heavinessOf_6 : decode cX8_heavinessOf 6 = .ok (.ireturn, 1) := by decide +kernel
theorem dX8_heavinessAhead_0 : decode cX8_heavinessAhead 0 = .ok (.iconst 0, 1) := by decide +kernel
theorem dX8_heavinessAhead_1 : decode cX8_heavinessAhead 1 = .ok (.istore_n 3, 1) := by decide +kernel
theorem dX8_heavinessAhead_2 : decode cX8_heavinessAhead 2 = .ok (.iconst 0, 1) := by decide +kernel
theorem dX8_heavinessAhead_3 : decode cX8_heavinessAhead 3 = .ok (.istore 4, 2) := by decide +kernel
theorem dX8_heavinessAhead_5 : decode cX8_heavinessAhead 5 = .ok (.iload 4, 2) := by decide +kernel
theorem dX8_heavinessAhead_7 : decode cX8_heavinessAhead 7 = .ok (.iconst 4, 1) := by decide +kernel
theorem dX8_heavinessAhead_8 : decode cX8_heavinessAhead 8 = .ok (.if_icmp .ge 63, 3) := by decide +kernel
theorem dX8_heavinessAhead_11 : decode cX8_heavinessAhead 11 = .ok (.iload_n 1, 1) := by decide +kernel
theorem dX8_heavinessAhead_12 : decode cX8_heavinessAhead 12 = .ok (.iconst 4, 1) := by decide +kernel
theorem dX8_heavinessAhead_13 : decode cX8_heavinessAhead 13 = .ok (.imul, 1) := by decide +kernel
theorem dX8_heavinessAhead_14 : decode cX8_heavinessAhead 14 = .ok (.iload 4, 2) := by decide +kernel
theorem dX8_heavinessAhead_16 : decode cX8_heavinessAhead 16 = .ok (.iadd, 1) := by decide +kernel
theorem dX8_heavinessAhead_17 : decode cX8_heavinessAhead 17 = .ok (.istore 5, 2) := by decide +kernel
theorem dX8_heavinessAhead_19 : decode cX8_heavinessAhead 19 = .ok (.bipush 9, 2) := by decide +kernel
theorem dX8_heavinessAhead_21 : decode cX8_heavinessAhead 21 = .ok (.aload_n 0, 1) := by decide +kernel
theorem dX8_heavinessAhead_22 : decode cX8_heavinessAhead 22 = .ok (.getfield 29, 3) := by decide +kernel
theorem dX8_heavinessAhead_25 : decode cX8_heavinessAhead 25 = .ok (.getfield 116, 3) := by decide +kernel
theorem dX8_heavinessAhead_28 : decode cX8_heavinessAhead 28 = .ok (.iload 5, 2) := by decide +kernel
theorem dX8_heavinessAhead_30 : decode cX8_heavinessAhead 30 = .ok (.iaload, 1) := by decide +kernel
theorem dX8_heavinessAhead_31 : decode cX8_heavinessAhead 31 = .ok (.aload_n 0, 1) := by decide +kernel
theorem dX8_heavinessAhead_32 : decode cX8_heavinessAhead 32 = .ok (.getfield 19, 3) := by decide +kernel
theorem dX8_heavinessAhead_35 : decode cX8_heavinessAhead 35 = .ok (.getfield 120, 3) := by decide +kernel
theorem dX8_heavinessAhead_38 : decode cX8_heavinessAhead 38 = .ok (.iload 5, 2) := by decide +kernel
theorem dX8_heavinessAhead_40 : decode cX8_heavinessAhead 40 = .ok (.iaload, 1) := by decide +kernel
theorem dX8_heavinessAhead_41 : decode cX8_heavinessAhead 41 = .ok (.iload_n 2, 1) := by decide +kernel
theorem dX8_heavinessAhead_42 : decode cX8_heavinessAhead 42 = .ok (.imul, 1) := by decide +kernel
theorem dX8_heavinessAhead_43 : decode cX8_heavinessAhead 43 = .ok (.iadd, 1) := by decide +kernel
theorem dX8_heavinessAhead_44 : decode cX8_heavinessAhead 44 = .ok (.invokestatic 307, 3) := by decide +kernel
theorem dX8_heavinessAhead_47 : decode cX8_heavinessAhead 47 = .ok (.istore 6, 2) := by decide +kernel
theorem dX8_heavinessAhead_49 : decode cX8_heavinessAhead 49 = .ok (.iload_n 3, 1) := by decide +kernel
theorem dX8_heavinessAhead_50 : decode cX8_heavinessAhead 50 = .ok (.aload_n 0, 1) := by decide +kernel
theorem dX8_heavinessAhead_51 : decode cX8_heavinessAhead 51 = .ok (.getfield 19, 3) := by decide +kernel
theorem dX8_heavinessAhead_54 : decode cX8_heavinessAhead 54 = .ok (.getfield 123, 3) := by decide +kernel
theorem dX8_heavinessAhead_57 : decode cX8_heavinessAhead 57 = .ok (.iload 4, 2) := by decide +kernel
theorem dX8_heavinessAhead_59 : decode cX8_heavinessAhead 59 = .ok (.iaload, 1) := by decide +kernel
theorem dX8_heavinessAhead_60 : decode cX8_heavinessAhead 60 = .ok (.iload 6, 2) := by decide +kernel
theorem dX8_heavinessAhead_62 : decode cX8_heavinessAhead 62 = .ok (.imul, 1) := by decide +kernel
theorem dX8_heavinessAhead_63 : decode cX8_heavinessAhead 63 = .ok (.iadd, 1) := by decide +kernel
theorem dX8_heavinessAhead_64 : decode cX8_heavinessAhead 64 = .ok (.istore_n 3, 1) := by decide +kernel
theorem dX8_heavinessAhead_65 : decode cX8_heavinessAhead 65 = .ok (.iinc 4 1, 3) := by decide +kernel
theorem dX8_heavinessAhead_68 : decode cX8_heavinessAhead 68 = .ok (.goto (-63), 3) := by decide +kernel
theorem dX8_heavinessAhead_71 : decode cX8_heavinessAhead 71 = .ok (.iload_n 3, 1) := by decide +kernel
theorem dX8_heavinessAhead_72 : decode cX8_heavinessAhead 72 = .ok (.ireturn, 1) := by decide +kernel
theorem dX8_pairOf_0 : decode cX8_pairOf 0 = .ok (.iload_n 0, 1) := by decide +kernel
theorem dX8_pairOf_1 : decode cX8_pairOf 1 = .ok (.iload_n 1, 1) := by decide +kernel
theorem dX8_pairOf_2 : decode cX8_pairOf 2 = .ok (.invokestatic 307, 3) := by decide +kernel
theorem dX8_pairOf_5 : decode cX8_pairOf 5 = .ok (.istore_n 2, 1) := by decide +kernel
theorem dX8_pairOf_6 : decode cX8_pairOf 6 = .ok (.iload_n 0, 1) := by decide +kernel
theorem dX8_pairOf_7 : decode cX8_pairOf 7 = .ok (.iload_n 1, 1) := by decide +kernel
theorem dX8_pairOf_8 : decode cX8_pairOf 8 = .ok (.invokestatic 312, 3) := by decide +kernel
theorem dX8_pairOf_11 : decode cX8_pairOf 11 = .ok (.istore_n 3, 1) := by decide +kernel
theorem dX8_pairOf_12 : decode cX8_pairOf 12 = .ok (.iload_n 3, 1) := by decide +kernel
theorem dX8_pairOf_13 : decode cX8_pairOf 13 = .ok (.iload_n 3, 1) := by decide +kernel
theorem dX8_pairOf_14 : decode cX8_pairOf 14 = .ok (.iconst 1, 1) := by decide +kernel
theorem dX8_pairOf_15 : decode cX8_pairOf 15 = .ok (.isub, 1) := by decide +kernel
theorem dX8_pairOf_16 : decode cX8_pairOf 16 = .ok (.imul, 1) := by decide +kernel
theorem dX8_pairOf_17 : decode cX8_pairOf 17 = .ok (.iconst 2, 1) := by decide +kernel
theorem dX8_pairOf_18 : decode cX8_pairOf 18 = .ok (.idiv, 1) := by decide +kernel
theorem dX8_pairOf_19 : decode cX8_pairOf 19 = .ok (.iload_n 2, 1) := by decide +kernel
theorem dX8_pairOf_20 : decode cX8_pairOf 20 = .ok (.iadd, 1) := by decide +kernel
theorem dX8_pairOf_21 : decode cX8_pairOf 21 = .ok (.ireturn, 1) := by decide +kernel
theorem dX8_foundOf_0 : decode cX8_foundOf 0 = .ok (.iload_n 0, 1) := by decide +kernel
theorem dX8_foundOf_1 : decode cX8_foundOf 1 = .ok (.iconst 2, 1) := by decide +kernel
theorem dX8_foundOf_2 : decode cX8_foundOf 2 = .ok (.iload_n 1, 1) := by decide +kernel
theorem dX8_foundOf_3 : decode cX8_foundOf 3 = .ok (.imul, 1) := by decide +kernel
theorem dX8_foundOf_4 : decode cX8_foundOf 4 = .ok (.ishr, 1) := by decide +kernel
theorem dX8_foundOf_5 : decode cX8_foundOf 5 = .ok (.iconst 3, 1) := by decide +kernel
theorem dX8_foundOf_6 : decode cX8_foundOf 6 = .ok (.iand, 1) := by decide +kernel
theorem dX8_foundOf_7 : decode cX8_foundOf 7 = .ok (.ireturn, 1) := by decide +kernel
theorem dX8_withFound_0 : decode cX8_withFound 0 = .ok (.iconst 2, 1) := by decide +kernel
theorem dX8_withFound_1 : decode cX8_withFound 1 = .ok (.iload_n 1, 1) := by decide +kernel
theorem dX8_withFound_2 : decode cX8_withFound 2 = .ok (.imul, 1) := by decide +kernel
theorem dX8_withFound_3 : decode cX8_withFound 3 = .ok (.istore_n 3, 1) := by decide +kernel
theorem dX8_withFound_4 : decode cX8_withFound 4 = .ok (.iload_n 0, 1) := by decide +kernel
theorem dX8_withFound_5 : decode cX8_withFound 5 = .ok (.iconst 3, 1) := by decide +kernel
theorem dX8_withFound_6 : decode cX8_withFound 6 = .ok (.iload_n 3, 1) := by decide +kernel
theorem dX8_withFound_7 : decode cX8_withFound 7 = .ok (.ishl, 1) := by decide +kernel
theorem dX8_withFound_8 : decode cX8_withFound 8 = .ok (.iconst (-1), 1) := by decide +kernel
theorem dX8_withFound_9 : decode cX8_withFound 9 = .ok (.ixor, 1) := by decide +kernel
theorem dX8_withFound_10 : decode cX8_withFound 10 = .ok (.iand, 1) := by decide +kernel
theorem dX8_withFound_11 : decode cX8_withFound 11 = .ok (.iload_n 2, 1) := by decide +kernel
theorem dX8_withFound_12 : decode cX8_withFound 12 = .ok (.iload_n 3, 1) := by decide +kernel
theorem dX8_withFound_13 : decode cX8_withFound 13 = .ok (.ishl, 1) := by decide +kernel
theorem dX8_withFound_14 : decode cX8_withFound 14 = .ok (.ior, 1) := by decide +kernel
theorem dX8_withFound_15 : decode cX8_withFound 15 = .ok (.ireturn, 1) := by decide +kernel
theorem dX8_compareLower_0 : decode cX8_compareLower 0 = .ok (.aload_n 0, 1) := by decide +kernel
theorem dX8_compareLower_1 : decode cX8_compareLower 1 = .ok (.iload_n 1, 1) := by decide +kernel
theorem dX8_compareLower_2 : decode cX8_compareLower 2 = .ok (.iload_n 2, 1) := by decide +kernel
theorem dX8_compareLower_3 : decode cX8_compareLower 3 = .ok (.invokestatic 307, 3) := by decide +kernel
theorem dX8_compareLower_6 : decode cX8_compareLower 6 = .ok (.invokevirtual 132, 3) := by decide +kernel
theorem dX8_compareLower_9 : decode cX8_compareLower 9 = .ok (.aload_n 0, 1) := by decide +kernel
theorem dX8_compareLower_10 : decode cX8_compareLower 10 = .ok (.iload_n 1, 1) := by decide +kernel
theorem dX8_compareLower_11 : decode cX8_compareLower 11 = .ok (.iload_n 2, 1) := by decide +kernel
theorem dX8_compareLower_12 : decode cX8_compareLower 12 = .ok (.invokestatic 312, 3) := by decide +kernel
theorem dX8_compareLower_15 : decode cX8_compareLower 15 = .ok (.invokevirtual 132, 3) := by decide +kernel
theorem dX8_compareLower_18 : decode cX8_compareLower 18 = .ok (.isub, 1) := by decide +kernel
theorem dX8_compareLower_19 : decode cX8_compareLower 19 = .ok (.istore_n 3, 1) := by decide +kernel
theorem dX8_compareLower_20 : decode cX8_compareLower 20 = .ok (.iload_n 3, 1) := by decide +kernel
theorem dX8_compareLower_21 : decode cX8_compareLower 21 = .ok (.ifCond .ne 5, 3) := by decide +kernel
theorem dX8_compareLower_24 : decode cX8_compareLower 24 = .ok (.iconst 3, 1) := by decide +kernel
theorem dX8_compareLower_25 : decode cX8_compareLower 25 = .ok (.ireturn, 1) := by decide +kernel
theorem dX8_compareLower_26 : decode cX8_compareLower 26 = .ok (.iload_n 3, 1) := by decide +kernel
theorem dX8_compareLower_27 : decode cX8_compareLower 27 = .ok (.ifCond .le 7, 3) := by decide +kernel
theorem dX8_compareLower_30 : decode cX8_compareLower 30 = .ok (.iconst 1, 1) := by decide +kernel
theorem dX8_compareLower_31 : decode cX8_compareLower 31 = .ok (.goto 4, 3) := by decide +kernel
theorem dX8_compareLower_34 : decode cX8_compareLower 34 = .ok (.iconst 2, 1) := by decide +kernel
theorem dX8_compareLower_35 : decode cX8_compareLower 35 = .ok (.ireturn, 1) := by decide +kernel
theorem dX8_knownOf_0 : decode cX8_knownOf 0 = .ok (.aload_n 0, 1) := by decide +kernel
theorem dX8_knownOf_1 : decode cX8_knownOf 1 = .ok (.getfield 29, 3) := by decide +kernel
theorem dX8_knownOf_4 : decode cX8_knownOf 4 = .ok (.getfield 171, 3) := by decide +kernel
theorem dX8_knownOf_7 : decode cX8_knownOf 7 = .ok (.iload_n 1, 1) := by decide +kernel
theorem dX8_knownOf_8 : decode cX8_knownOf 8 = .ok (.iload_n 2, 1) := by decide +kernel
theorem dX8_knownOf_9 : decode cX8_knownOf 9 = .ok (.invokestatic 174, 3) := by decide +kernel
theorem dX8_knownOf_12 : decode cX8_knownOf 12 = .ok (.invokestatic 315, 3) := by decide +kernel
theorem dX8_knownOf_15 : decode cX8_knownOf 15 = .ok (.istore_n 3, 1) := by decide +kernel
theorem dX8_knownOf_16 : decode cX8_knownOf 16 = .ok (.iload_n 3, 1) := by decide +kernel
theorem dX8_knownOf_17 : decode cX8_knownOf 17 = .ok (.ifCond .ne 6, 3) := by decide +kernel
theorem dX8_knownOf_20 : decode cX8_knownOf 20 = .ok (.bipush (-9), 2) := by decide +kernel
theorem dX8_knownOf_22 : decode cX8_knownOf 22 = .ok (.ireturn, 1) := by decide +kernel
theorem dX8_knownOf_23 : decode cX8_knownOf 23 = .ok (.iload_n 3, 1) := by decide +kernel
theorem dX8_knownOf_24 : decode cX8_knownOf 24 = .ok (.iconst 3, 1) := by decide +kernel
theorem dX8_knownOf_25 : decode cX8_knownOf 25 = .ok (.if_icmp .ne 5, 3) := by decide +kernel
theorem dX8_knownOf_28 : decode cX8_knownOf 28 = .ok (.iconst 0, 1) := by decide +kernel
theorem dX8_knownOf_29 : decode cX8_knownOf 29 = .ok (.ireturn, 1) := by decide +kernel
theorem dX8_knownOf_30 : decode cX8_knownOf 30 = .ok (.iload_n 3, 1) := by decide +kernel
theorem dX8_knownOf_31 : decode cX8_knownOf 31 = .ok (.iconst 1, 1) := by decide +kernel
theorem dX8_knownOf_32 : decode cX8_knownOf 32 = .ok (.if_icmp .ne 7, 3) := by decide +kernel
theorem dX8_knownOf_35 : decode cX8_knownOf 35 = .ok (.iconst 1, 1) := by decide +kernel
theorem dX8_knownOf_36 : decode cX8_knownOf 36 = .ok (.goto 4, 3) := by decide +kernel
theorem dX8_knownOf_39 : decode cX8_knownOf 39 = .ok (.iconst 0, 1) := by decide +kernel
theorem dX8_knownOf_40 : decode cX8_knownOf 40 = .ok (.iload_n 1, 1) := by decide +kernel
theorem dX8_knownOf_41 : decode cX8_knownOf 41 = .ok (.iload_n 2, 1) := by decide +kernel
theorem dX8_knownOf_42 : decode cX8_knownOf 42 = .ok (.if_icmp .ge 7, 3) := by decide +kernel
theorem dX8_knownOf_45 : decode cX8_knownOf 45 = .ok (.iconst 1, 1) := by decide +kernel
theorem dX8_knownOf_46 : decode cX8_knownOf 46 = .ok (.goto 4, 3) := by decide +kernel
theorem dX8_knownOf_49 : decode cX8_knownOf 49 = .ok (.iconst 0, 1) := by decide +kernel
theorem dX8_knownOf_50 : decode cX8_knownOf 50 = .ok (.if_icmp .ne 7, 3) := by decide +kernel
theorem dX8_knownOf_53 : decode cX8_knownOf 53 = .ok (.iconst 1, 1) := by decide +kernel
theorem dX8_knownOf_54 : decode cX8_knownOf 54 = .ok (.goto 4, 3) := by decide +kernel
theorem dX8_knownOf_57 : decode cX8_knownOf 57 = .ok (.iconst 2, 1) := by decide +kernel
theorem dX8_knownOf_58 : decode cX8_knownOf 58 = .ok (.ireturn, 1) := by decide +kernel
theorem dX8_knownPairs_0 : decode cX8_knownPairs 0 = .ok (.iconst 0, 1) := by decide +kernel
theorem dX8_knownPairs_1 : decode cX8_knownPairs 1 = .ok (.istore_n 1, 1) := by decide +kernel
theorem dX8_knownPairs_2 : decode cX8_knownPairs 2 = .ok (.iconst 0, 1) := by decide +kernel
theorem dX8_knownPairs_3 : decode cX8_knownPairs 3 = .ok (.istore_n 2, 1) := by decide +kernel
theorem dX8_knownPairs_4 : decode cX8_knownPairs 4 = .ok (.iload_n 2, 1) := by decide +kernel
theorem dX8_knownPairs_5 : decode cX8_knownPairs 5 = .ok (.bipush 6, 2) := by decide +kernel
theorem dX8_knownPairs_7 : decode cX8_knownPairs 7 = .ok (.if_icmp .ge 26, 3) := by decide +kernel
theorem dX8_knownPairs_10 : decode cX8_knownPairs 10 = .ok (.aload_n 0, 1) := by decide +kernel
theorem dX8_knownPairs_11 : decode cX8_knownPairs 11 = .ok (.getfield 29, 3) := by decide +kernel
theorem dX8_knownPairs_14 : decode cX8_knownPairs 14 = .ok (.getfield 171, 3) := by decide +kernel
theorem dX8_knownPairs_17 : decode cX8_knownPairs 17 = .ok (.iload_n 2, 1) := by decide +kernel
theorem dX8_knownPairs_18 : decode cX8_knownPairs 18 = .ok (.invokestatic 315, 3) := by decide +kernel
theorem dX8_knownPairs_21 : decode cX8_knownPairs 21 = .ok (.ifCond .eq 6, 3) := by decide +kernel
theorem dX8_knownPairs_24 : decode cX8_knownPairs 24 = .ok (.iinc 1 1, 3) := by decide +kernel
theorem dX8_knownPairs_27 : decode cX8_knownPairs 27 = .ok (.iinc 2 1, 3) := by decide +kernel
theorem dX8_knownPairs_30 : decode cX8_knownPairs 30 = .ok (.goto (-26), 3) := by decide +kernel
theorem dX8_knownPairs_33 : decode cX8_knownPairs 33 = .ok (.iload_n 1, 1) := by decide +kernel
theorem dX8_knownPairs_34 : decode cX8_knownPairs 34 = .ok (.ireturn, 1) := by decide +kernel
theorem dX8_planned_0 : decode cX8_planned 0 = .ok (.aload_n 0, 1) := by decide +kernel
theorem dX8_planned_1 : decode cX8_planned 1 = .ok (.getfield 51, 3) := by decide +kernel
theorem dX8_planned_4 : decode cX8_planned 4 = .ok (.aload_n 0, 1) := by decide +kernel
theorem dX8_planned_5 : decode cX8_planned 5 = .ok (.getfield 19, 3) := by decide +kernel
theorem dX8_planned_8 : decode cX8_planned 8 = .ok (.getfield 168, 3) := by decide +kernel
theorem dX8_planned_11 : decode cX8_planned 11 = .ok (.invokevirtual 318, 3) := by decide +kernel
theorem dX8_planned_14 : decode cX8_planned 14 = .ok (.iload_n 1, 1) := by decide +kernel
theorem dX8_planned_15 : decode cX8_planned 15 = .ok (.iconst 2, 1) := by decide +kernel
theorem dX8_planned_16 : decode cX8_planned 16 = .ok (.if_icmp .ne 18, 3) := by decide +kernel
theorem dX8_planned_19 : decode cX8_planned 19 = .ok (.aload_n 0, 1) := by decide +kernel
theorem dX8_planned_20 : decode cX8_planned 20 = .ok (.getfield 51, 3) := by decide +kernel
theorem dX8_planned_23 : decode cX8_planned 23 = .ok (.aload_n 0, 1) := by decide +kernel
theorem dX8_planned_24 : decode cX8_planned 24 = .ok (.getfield 29, 3) := by decide +kernel
theorem dX8_planned_27 : decode cX8_planned 27 = .ok (.getfield 171, 3) := by decide +kernel
theorem dX8_planned_30 : decode cX8_planned 30 = .ok (.invokevirtual 322, 3) := by decide +kernel
theorem dX8_planned_33 : decode cX8_planned 33 = .ok (.ireturn, 1) := by decide +kernel
theorem dX8_planned_34 : decode cX8_planned 34 = .ok (.iload_n 1, 1) := by decide +kernel
theorem dX8_planned_35 : decode cX8_planned 35 = .ok (.iconst 3, 1) := by decide +kernel
theorem dX8_planned_36 : decode cX8_planned 36 = .ok (.if_icmp .ne 20, 3) := by decide +kernel
theorem dX8_planned_39 : decode cX8_planned 39 = .ok (.aload_n 0, 1) := by decide +kernel
theorem dX8_planned_40 : decode cX8_planned 40 = .ok (.getfield 51, 3) := by decide +kernel
theorem dX8_planned_43 : decode cX8_planned 43 = .ok (.aload_n 0, 1) := by decide +kernel
theorem dX8_planned_44 : decode cX8_planned 44 = .ok (.getfield 29, 3) := by decide +kernel
theorem dX8_planned_47 : decode cX8_planned 47 = .ok (.getfield 171, 3) := by decide +kernel
theorem dX8_planned_50 : decode cX8_planned 50 = .ok (.invokevirtual 325, 3) := by decide +kernel
theorem dX8_planned_53 : decode cX8_planned 53 = .ok (.goto 17, 3) := by decide +kernel
theorem dX8_planned_56 : decode cX8_planned 56 = .ok (.aload_n 0, 1) := by decide +kernel
theorem dX8_planned_57 : decode cX8_planned 57 = .ok (.getfield 51, 3) := by decide +kernel
theorem dX8_planned_60 : decode cX8_planned 60 = .ok (.aload_n 0, 1) := by decide +kernel
theorem dX8_planned_61 : decode cX8_planned 61 = .ok (.getfield 29, 3) := by decide +kernel
theorem dX8_planned_64 : decode cX8_planned 64 = .ok (.getfield 171, 3) := by decide +kernel
theorem dX8_planned_67 : decode cX8_planned 67 = .ok (.invokevirtual 328, 3) := by decide +kernel
theorem dX8_planned_70 : decode cX8_planned 70 = .ok (.ireturn, 1) := by decide +kernel
theorem dX8_lighterWays_0 : decode cX8_lighterWays 0 = .ok (.aload_n 0, 1) := by decide +kernel
theorem dX8_lighterWays_1 : decode cX8_lighterWays 1 = .ok (.getfield 29, 3) := by decide +kernel
theorem dX8_lighterWays_4 : decode cX8_lighterWays 4 = .ok (.getfield 116, 3) := by decide +kernel
theorem dX8_lighterWays_7 : decode cX8_lighterWays 7 = .ok (.iload_n 1, 1) := by decide +kernel
theorem dX8_lighterWays_8 : decode cX8_lighterWays 8 = .ok (.iconst 4, 1) := by decide +kernel
theorem dX8_lighterWays_9 : decode cX8_lighterWays 9 = .ok (.imul, 1) := by decide +kernel
theorem dX8_lighterWays_10 : decode cX8_lighterWays 10 = .ok (.iload_n 3, 1) := by decide +kernel
theorem dX8_lighterWays_11 : decode cX8_lighterWays 11 = .ok (.iadd, 1) := by decide +kernel
theorem dX8_lighterWays_12 : decode cX8_lighterWays 12 = .ok (.iaload, 1) := by decide +kernel
theorem dX8_lighterWays_13 : decode cX8_lighterWays 13 = .ok (.istore 5, 2) := by decide +kernel
theorem dX8_lighterWays_15 : decode cX8_lighterWays 15 = .ok (.aload_n 0, 1) := by decide +kernel
theorem dX8_lighterWays_16 : decode cX8_lighterWays 16 = .ok (.iload_n 1, 1) := by decide +kernel
theorem dX8_lighterWays_17 : decode cX8_lighterWays 17 = .ok (.invokevirtual 132, 3) := by decide +kernel
theorem dX8_lighterWays_20 : decode cX8_lighterWays 20 = .ok (.aload_n 0, 1) := by decide +kernel
theorem dX8_lighterWays_21 : decode cX8_lighterWays 21 = .ok (.iload_n 2, 1) := by decide +kernel
theorem dX8_lighterWays_22 : decode cX8_lighterWays 22 = .ok (.invokevirtual 132, 3) := by decide +kernel
theorem dX8_lighterWays_25 : decode cX8_lighterWays 25 = .ok (.isub, 1) := by decide +kernel
theorem dX8_lighterWays_26 : decode cX8_lighterWays 26 = .ok (.istore 6, 2) := by decide +kernel
theorem dX8_lighterWays_28 : decode cX8_lighterWays 28 = .ok (.lconst 1, 1) := by decide +kernel
theorem dX8_lighterWays_29 : decode cX8_lighterWays 29 = .ok (.lstore 7, 2) := by decide +kernel
theorem dX8_lighterWays_31 : decode cX8_lighterWays 31 = .ok (.lconst 0, 1) := by decide +kernel
theorem dX8_lighterWays_32 : decode cX8_lighterWays 32 = .ok (.lstore 9, 2) := by decide +kernel
theorem dX8_lighterWays_34 : decode cX8_lighterWays 34 = .ok (.iconst 0, 1) := by decide +kernel
theorem dX8_lighterWays_35 : decode cX8_lighterWays 35 = .ok (.istore 11, 2) := by decide +kernel
theorem dX8_lighterWays_37 : decode cX8_lighterWays 37 = .ok (.iload 11, 2) := by decide +kernel
theorem dX8_lighterWays_39 : decode cX8_lighterWays 39 = .ok (.iload 5, 2) := by decide +kernel
theorem dX8_lighterWays_41 : decode cX8_lighterWays 41 = .ok (.if_icmp .gt 73, 3) := by decide +kernel
theorem dX8_lighterWays_44 : decode cX8_lighterWays 44 = .ok (.iload 6, 2) := by decide +kernel
theorem dX8_lighterWays_46 : decode cX8_lighterWays 46 = .ok (.iload 11, 2) := by decide +kernel
theorem dX8_lighterWays_48 : decode cX8_lighterWays 48 = .ok (.aload_n 0, 1) := by decide +kernel
theorem dX8_lighterWays_49 : decode cX8_lighterWays 49 = .ok (.getfield 19, 3) := by decide +kernel
theorem dX8_lighterWays_52 : decode cX8_lighterWays 52 = .ok (.getfield 123, 3) := by decide +kernel
theorem dX8_lighterWays_55 : decode cX8_lighterWays 55 = .ok (.iload_n 3, 1) := by decide +kernel
theorem dX8_lighterWays_56 : decode cX8_lighterWays 56 = .ok (.iaload, 1) := by decide +kernel
theorem dX8_lighterWays_57 : decode cX8_lighterWays 57 = .ok (.imul, 1) := by decide +kernel
theorem dX8_lighterWays_58 : decode cX8_lighterWays 58 = .ok (.isub, 1) := by decide +kernel
theorem dX8_lighterWays_59 : decode cX8_lighterWays 59 = .ok (.ifCond .ge 32, 3) := by decide +kernel
theorem dX8_lighterWays_62 : decode cX8_lighterWays 62 = .ok (.lload 9, 2) := by decide +kernel
theorem dX8_lighterWays_64 : decode cX8_lighterWays 64 = .ok (.lload 7, 2) := by decide +kernel
theorem dX8_lighterWays_66 : decode cX8_lighterWays 66 = .ok (.iload 4, 2) := by decide +kernel
theorem dX8_lighterWays_68 : decode cX8_lighterWays 68 = .ok (.iload 11, 2) := by decide +kernel
theorem dX8_lighterWays_70 : decode cX8_lighterWays 70 = .ok (.invokestatic 214, 3) := by decide +kernel
theorem dX8_lighterWays_73 : decode cX8_lighterWays 73 = .ok (.lmul, 1) := by decide +kernel
theorem dX8_lighterWays_74 : decode cX8_lighterWays 74 = .ok (.bipush 10, 2) := by decide +kernel
theorem dX8_lighterWays_76 : decode cX8_lighterWays 76 = .ok (.iload 4, 2) := by decide +kernel
theorem dX8_lighterWays_78 : decode cX8_lighterWays 78 = .ok (.isub, 1) := by decide +kernel
theorem dX8_lighterWays_79 : decode cX8_lighterWays 79 = .ok (.iload 5, 2) := by decide +kernel
theorem dX8_lighterWays_81 : decode cX8_lighterWays 81 = .ok (.iload 11, 2) := by decide +kernel
theorem dX8_lighterWays_83 : decode cX8_lighterWays 83 = .ok (.isub, 1) := by decide +kernel
theorem dX8_lighterWays_84 : decode cX8_lighterWays 84 = .ok (.invokestatic 214, 3) := by decide +kernel
theorem dX8_lighterWays_87 : decode cX8_lighterWays 87 = .ok (.lmul, 1) := by decide +kernel
theorem dX8_lighterWays_88 : decode cX8_lighterWays 88 = .ok (.ladd, 1) := by decide +kernel
theorem dX8_lighterWays_89 : decode cX8_lighterWays 89 = .ok (.lstore 9, 2) := by decide +kernel
theorem dX8_lighterWays_91 : decode cX8_lighterWays 91 = .ok (.lload 7, 2) := by decide +kernel
theorem dX8_lighterWays_93 : decode cX8_lighterWays 93 = .ok (.iload 5, 2) := by decide +kernel
theorem dX8_lighterWays_95 : decode cX8_lighterWays 95 = .ok (.iload 11, 2) := by decide +kernel
theorem dX8_lighterWays_97 : decode cX8_lighterWays 97 = .ok (.isub, 1) := by decide +kernel
theorem dX8_lighterWays_98 : decode cX8_lighterWays 98 = .ok (.i2l, 1) := by decide +kernel
theorem dX8_lighterWays_99 : decode cX8_lighterWays 99 = .ok (.lmul, 1) := by decide +kernel
theorem dX8_lighterWays_100 : decode cX8_lighterWays 100 = .ok (.iload 11, 2) := by decide +kernel
theorem dX8_lighterWays_102 : decode cX8_lighterWays 102 = .ok (.iconst 1, 1) := by decide +kernel
theorem dX8_lighterWays_103 : decode cX8_lighterWays 103 = .ok (.iadd, 1) := by decide +kernel
theorem dX8_lighterWays_104 : decode cX8_lighterWays 104 = .ok (.i2l, 1) := by decide +kernel
theorem dX8_lighterWays_105 : decode cX8_lighterWays 105 = .ok (.ldiv, 1) := by decide +kernel
theorem dX8_lighterWays_106 : decode cX8_lighterWays 106 = .ok (.lstore 7, 2) := by decide +kernel
theorem dX8_lighterWays_108 : decode cX8_lighterWays 108 = .ok (.iinc 11 1, 3) := by decide +kernel
theorem dX8_lighterWays_111 : decode cX8_lighterWays 111 = .ok (.goto (-74), 3) := by decide +kernel
theorem dX8_lighterWays_114 : decode cX8_lighterWays 114 = .ok (.lload 9, 2) := by decide +kernel
theorem dX8_lighterWays_116 : decode cX8_lighterWays 116 = .ok (.lreturn, 1) := by decide +kernel
theorem dX8_power_0 : decode cX8_power 0 = .ok (.lconst 1, 1) := by decide +kernel
theorem dX8_power_1 : decode cX8_power 1 = .ok (.lstore_n 2, 1) := by decide +kernel
theorem dX8_power_2 : decode cX8_power 2 = .ok (.iconst 0, 1) := by decide +kernel
theorem dX8_power_3 : decode cX8_power 3 = .ok (.istore 4, 2) := by decide +kernel
theorem dX8_power_5 : decode cX8_power 5 = .ok (.iload 4, 2) := by decide +kernel
theorem dX8_power_7 : decode cX8_power 7 = .ok (.iload_n 1, 1) := by decide +kernel
theorem dX8_power_8 : decode cX8_power 8 = .ok (.if_icmp .ge 14, 3) := by decide +kernel
theorem dX8_power_11 : decode cX8_power 11 = .ok (.lload_n 2, 1) := by decide +kernel
theorem dX8_power_12 : decode cX8_power 12 = .ok (.iload_n 0, 1) := by decide +kernel
theorem dX8_power_13 : decode cX8_power 13 = .ok (.i2l, 1) := by decide +kernel
theorem dX8_power_14 : decode cX8_power 14 = .ok (.lmul, 1) := by decide +kernel
theorem dX8_power_15 : decode cX8_power 15 = .ok (.lstore_n 2, 1) := by decide +kernel
theorem dX8_power_16 : decode cX8_power 16 = .ok (.iinc 4 1, 3) := by decide +kernel
theorem dX8_power_19 : decode cX8_power 19 = .ok (.goto (-14), 3) := by decide +kernel
theorem dX8_power_22 : decode cX8_power 22 = .ok (.lload_n 2, 1) := by decide +kernel
theorem dX8_power_23 : decode cX8_power 23 = .ok (.lreturn, 1) := by decide +kernel
theorem dX8_commonDivisor_0 : decode cX8_commonDivisor 0 = .ok (.lload_n 0, 1) := by decide +kernel
theorem dX8_commonDivisor_1 : decode cX8_commonDivisor 1 = .ok (.lstore 4, 2) := by decide +kernel
theorem dX8_commonDivisor_3 : decode cX8_commonDivisor 3 = .ok (.lload_n 2, 1) := by decide +kernel
theorem dX8_commonDivisor_4 : decode cX8_commonDivisor 4 = .ok (.lstore 6, 2) := by decide +kernel
theorem dX8_commonDivisor_6 : decode cX8_commonDivisor 6 = .ok (.iconst 0, 1) := by decide +kernel
theorem dX8_commonDivisor_7 : decode cX8_commonDivisor 7 = .ok (.istore 8, 2) := by decide +kernel
theorem dX8_commonDivisor_9 : decode cX8_commonDivisor 9 = .ok (.iload 8, 2) := by decide +kernel
theorem dX8_commonDivisor_11 : decode cX8_commonDivisor 11 = .ok (.sipush 200, 3) := by decide +kernel
theorem dX8_commonDivisor_14 : decode cX8_commonDivisor 14 = .ok (.if_icmp .ge 31, 3) := by decide +kernel
theorem dX8_commonDivisor_17 : decode cX8_commonDivisor 17 = .ok (.lload 6, 2) := by decide +kernel
theorem dX8_commonDivisor_19 : decode cX8_commonDivisor 19 = .ok (.lconst 0, 1) := by decide +kernel
theorem dX8_commonDivisor_20 : decode cX8_commonDivisor 20 = .ok (.lcmp, 1) := by decide +kernel
theorem dX8_commonDivisor_21 : decode cX8_commonDivisor 21 = .ok (.ifCond .eq 24, 3) := by decide +kernel
theorem dX8_commonDivisor_24 : decode cX8_commonDivisor 24 = .ok (.lload 4, 2) := by decide +kernel
theorem dX8_commonDivisor_26 : decode cX8_commonDivisor 26 = .ok (.lload 6, 2) := by decide +kernel
theorem dX8_commonDivisor_28 : decode cX8_commonDivisor 28 = .ok (.lrem, 1) := by decide +kernel
theorem dX8_commonDivisor_29 : decode cX8_commonDivisor 29 = .ok (.lstore 9, 2) := by decide +kernel
theorem dX8_commonDivisor_31 : decode cX8_commonDivisor 31 = .ok (.lload 6, 2) := by decide +kernel
theorem dX8_commonDivisor_33 : decode cX8_commonDivisor 33 = .ok (.lstore 4, 2) := by decide +kernel
theorem dX8_commonDivisor_35 : decode cX8_commonDivisor 35 = .ok (.lload 9, 2) := by decide +kernel
theorem dX8_commonDivisor_37 : decode cX8_commonDivisor 37 = .ok (.lstore 6, 2) := by decide +kernel
theorem dX8_commonDivisor_39 : decode cX8_commonDivisor 39 = .ok (.iinc 8 1, 3) := by decide +kernel
theorem dX8_commonDivisor_42 : decode cX8_commonDivisor 42 = .ok (.goto (-33), 3) := by decide +kernel
theorem dX8_commonDivisor_45 : decode cX8_commonDivisor 45 = .ok (.lload 4, 2) := by decide +kernel
theorem dX8_commonDivisor_47 : decode cX8_commonDivisor 47 = .ok (.lreturn, 1) := by decide +kernel
theorem dX8_asPerson_0 : decode cX8_asPerson 0 = .ok (.aload_n 0, 1) := by decide +kernel
theorem dX8_asPerson_1 : decode cX8_asPerson 1 = .ok (.dup, 1) := by decide +kernel
theorem dX8_asPerson_2 : decode cX8_asPerson 2 = .ok (.getfield 295, 3) := by decide +kernel
theorem dX8_asPerson_5 : decode cX8_asPerson 5 = .ok (.lconst 1, 1) := by decide +kernel
theorem dX8_asPerson_6 : decode cX8_asPerson 6 = .ok (.ladd, 1) := by decide +kernel
theorem dX8_asPerson_7 : decode cX8_asPerson 7 = .ok (.putfield 295, 3) := by decide +kernel
theorem dX8_asPerson_10 : decode cX8_asPerson 10 = .ok (.aload_n 0, 1) := by decide +kernel
theorem dX8_asPerson_11 : decode cX8_asPerson 11 = .ok (.iload_n 1, 1) := by decide +kernel
theorem dX8_asPerson_12 : decode cX8_asPerson 12 = .ok (.invokevirtual 132, 3) := by decide +kernel
theorem dX8_asPerson_15 : decode cX8_asPerson 15 = .ok (.ireturn, 1) := by decide +kernel
theorem dX8_asBride_0 : decode cX8_asBride 0 = .ok (.aload_n 0, 1) := by decide +kernel
theorem dX8_asBride_1 : decode cX8_asBride 1 = .ok (.dup, 1) := by decide +kernel
theorem dX8_asBride_2 : decode cX8_asBride 2 = .ok (.getfield 295, 3) := by decide +kernel
theorem dX8_asBride_5 : decode cX8_asBride 5 = .ok (.ldc2_w 331, 3) := by decide +kernel
theorem dX8_asBride_8 : decode cX8_asBride 8 = .ok (.ladd, 1) := by decide +kernel
theorem dX8_asBride_9 : decode cX8_asBride 9 = .ok (.putfield 295, 3) := by decide +kernel
theorem dX8_asBride_12 : decode cX8_asBride 12 = .ok (.aload_n 0, 1) := by decide +kernel
theorem dX8_asBride_13 : decode cX8_asBride 13 = .ok (.iload_n 1, 1) := by decide +kernel
theorem dX8_asBride_14 : decode cX8_asBride 14 = .ok (.invokevirtual 275, 3) := by decide +kernel
theorem dX8_asBride_17 : decode cX8_asBride 17 = .ok (.aload_n 0, 1) := by decide +kernel
theorem dX8_asBride_18 : decode cX8_asBride 18 = .ok (.getfield 29, 3) := by decide +kernel
theorem dX8_asBride_21 : decode cX8_asBride 21 = .ok (.getfield 116, 3) := by decide +kernel
theorem dX8_asBride_24 : decode cX8_asBride 24 = .ok (.iload_n 1, 1) := by decide +kernel
theorem dX8_asBride_25 : decode cX8_asBride 25 = .ok (.invokestatic 333, 3) := by decide +kernel
theorem dX8_asBride_28 : decode cX8_asBride 28 = .ok (.iadd, 1) := by decide +kernel
theorem dX8_asBride_29 : decode cX8_asBride 29 = .ok (.ireturn, 1) := by decide +kernel
theorem dX8_asPartner_0 : decode cX8_asPartner 0 = .ok (.aload_n 0, 1) := by decide +kernel
theorem dX8_asPartner_1 : decode cX8_asPartner 1 = .ok (.dup, 1) := by decide +kernel
theorem dX8_asPartner_2 : decode cX8_asPartner 2 = .ok (.getfield 295, 3) := by decide +kernel
theorem dX8_asPartner_5 : decode cX8_asPartner 5 = .ok (.ldc2_w 337, 3) := by decide +kernel
theorem dX8_asPartner_8 : decode cX8_asPartner 8 = .ok (.ladd, 1) := by decide +kernel
theorem dX8_asPartner_9 : decode cX8_asPartner 9 = .ok (.putfield 295, 3) := by decide +kernel
theorem dX8_asPartner_12 : decode cX8_asPartner 12 = .ok (.aload_n 0, 1) := by decide +kernel
theorem dX8_asPartner_13 : decode cX8_asPartner 13 = .ok (.iload_n 1, 1) := by decide +kernel
theorem dX8_asPartner_14 : decode cX8_asPartner 14 = .ok (.invokevirtual 275, 3) := by decide +kernel
theorem dX8_asPartner_17 : decode cX8_asPartner 17 = .ok (.aload_n 0, 1) := by decide +kernel
theorem dX8_asPartner_18 : decode cX8_asPartner 18 = .ok (.getfield 19, 3) := by decide +kernel
theorem dX8_asPartner_21 : decode cX8_asPartner 21 = .ok (.getfield 120, 3) := by decide +kernel
theorem dX8_asPartner_24 : decode cX8_asPartner 24 = .ok (.iload_n 1, 1) := by decide +kernel
theorem dX8_asPartner_25 : decode cX8_asPartner 25 = .ok (.invokestatic 333, 3) := by decide +kernel
theorem dX8_asPartner_28 : decode cX8_asPartner 28 = .ok (.isub, 1) := by decide +kernel
theorem dX8_asPartner_29 : decode cX8_asPartner 29 = .ok (.ireturn, 1) := by decide +kernel
theorem dX8_asBrother_0 : decode cX8_asBrother 0 = .ok (.aload_n 0, 1) := by decide +kernel
theorem dX8_asBrother_1 : decode cX8_asBrother 1 = .ok (.dup, 1) := by decide +kernel
theorem dX8_asBrother_2 : decode cX8_asBrother 2 = .ok (.getfield 295, 3) := by decide +kernel
theorem dX8_asBrother_5 : decode cX8_asBrother 5 = .ok (.ldc2_w 339, 3) := by decide +kernel
theorem dX8_asBrother_8 : decode cX8_asBrother 8 = .ok (.ladd, 1) := by decide +kernel
theorem dX8_asBrother_9 : decode cX8_asBrother 9 = .ok (.putfield 295, 3) := by decide +kernel
theorem dX8_asBrother_12 : decode cX8_asBrother 12 = .ok (.iconst 2, 1) := by decide +kernel
theorem dX8_asBrother_13 : decode cX8_asBrother 13 = .ok (.aload_n 0, 1) := by decide +kernel
theorem dX8_asBrother_14 : decode cX8_asBrother 14 = .ok (.iload_n 1, 1) := by decide +kernel
theorem dX8_asBrother_15 : decode cX8_asBrother 15 = .ok (.invokevirtual 278, 3) := by decide +kernel
theorem dX8_asBrother_18 : decode cX8_asBrother 18 = .ok (.imul, 1) := by decide +kernel
theorem dX8_asBrother_19 : decode cX8_asBrother 19 = .ok (.ireturn, 1) := by decide +kernel
theorem dX8_asBankrupt_0 : decode cX8_asBankrupt 0 = .ok (.aload_n 0, 1) := by decide +kernel
theorem dX8_asBankrupt_1 : decode cX8_asBankrupt 1 = .ok (.dup, 1) := by decide +kernel
theorem dX8_asBankrupt_2 : decode cX8_asBankrupt 2 = .ok (.getfield 295, 3) := by decide +kernel
theorem dX8_asBankrupt_5 : decode cX8_asBankrupt 5 = .ok (.ldc2_w 341, 3) := by decide +kernel
theorem dX8_asBankrupt_8 : decode cX8_asBankrupt 8 = .ok (.ladd, 1) := by decide +kernel
theorem dX8_asBankrupt_9 : decode cX8_asBankrupt 9 = .ok (.putfield 295, 3) := by decide +kernel
theorem dX8_asBankrupt_12 : decode cX8_asBankrupt 12 = .ok (.aload_n 0, 1) := by decide +kernel
theorem dX8_asBankrupt_13 : decode cX8_asBankrupt 13 = .ok (.iload_n 1, 1) := by decide +kernel
theorem dX8_asBankrupt_14 : decode cX8_asBankrupt 14 = .ok (.invokevirtual 281, 3) := by decide +kernel
theorem dX8_asBankrupt_17 : decode cX8_asBankrupt 17 = .ok (.iload_n 1, 1) := by decide +kernel
theorem dX8_asBankrupt_18 : decode cX8_asBankrupt 18 = .ok (.iadd, 1) := by decide +kernel
theorem dX8_asBankrupt_19 : decode cX8_asBankrupt 19 = .ok (.ireturn, 1) := by decide +kernel
theorem dX8_asStranger_0 : decode cX8_asStranger 0 = .ok (.aload_n 0, 1) := by decide +kernel
theorem dX8_asStranger_1 : decode cX8_asStranger 1 = .ok (.dup, 1) := by decide +kernel
theorem dX8_asStranger_2 : decode cX8_asStranger 2 = .ok (.getfield 295, 3) := by decide +kernel
theorem dX8_asStranger_5 : decode cX8_asStranger 5 = .ok (.ldc2_w 343, 3) := by decide +kernel
theorem dX8_asStranger_8 : decode cX8_asStranger 8 = .ok (.ladd, 1) := by decide +kernel
theorem dX8_asStranger_9 : decode cX8_asStranger 9 = .ok (.putfield 295, 3) := by decide +kernel
theorem dX8_asStranger_12 : decode cX8_asStranger 12 = .ok (.aload_n 0, 1) := by decide +kernel
theorem dX8_asStranger_13 : decode cX8_asStranger 13 = .ok (.iload_n 1, 1) := by decide +kernel
theorem dX8_asStranger_14 : decode cX8_asStranger 14 = .ok (.invokevirtual 275, 3) := by decide +kernel
theorem dX8_asStranger_17 : decode cX8_asStranger 17 = .ok (.aload_n 0, 1) := by decide +kernel
theorem dX8_asStranger_18 : decode cX8_asStranger 18 = .ok (.getfield 29, 3) := by decide +kernel
theorem dX8_asStranger_21 : decode cX8_asStranger 21 = .ok (.getfield 144, 3) := by decide +kernel
theorem dX8_asStranger_24 : decode cX8_asStranger 24 = .ok (.iadd, 1) := by decide +kernel
theorem dX8_asStranger_25 : decode cX8_asStranger 25 = .ok (.ireturn, 1) := by decide +kernel
theorem dX8_sumOfSorts_0 : decode cX8_sumOfSorts 0 = .ok (.iconst 0, 1) := by decide +kernel
theorem dX8_sumOfSorts_1 : decode cX8_sumOfSorts 1 = .ok (.istore_n 2, 1) := by decide +kernel
theorem dX8_sumOfSorts_2 : decode cX8_sumOfSorts 2 = .ok (.iconst 0, 1) := by decide +kernel
theorem dX8_sumOfSorts_3 : decode cX8_sumOfSorts 3 = .ok (.istore_n 3, 1) := by decide +kernel
theorem dX8_sumOfSorts_4 : decode cX8_sumOfSorts 4 = .ok (.iload_n 3, 1) := by decide +kernel
theorem dX8_sumOfSorts_5 : decode cX8_sumOfSorts 5 = .ok (.iconst 4, 1) := by decide +kernel
theorem dX8_sumOfSorts_6 : decode cX8_sumOfSorts 6 = .ok (.if_icmp .ge 19, 3) := by decide +kernel
theorem dX8_sumOfSorts_9 : decode cX8_sumOfSorts 9 = .ok (.iload_n 2, 1) := by decide +kernel
theorem dX8_sumOfSorts_10 : decode cX8_sumOfSorts 10 = .ok (.aload_n 0, 1) := by decide +kernel
theorem dX8_sumOfSorts_11 : decode cX8_sumOfSorts 11 = .ok (.iload_n 1, 1) := by decide +kernel
theorem dX8_sumOfSorts_12 : decode cX8_sumOfSorts 12 = .ok (.iconst 4, 1) := by decide +kernel
theorem dX8_sumOfSorts_13 : decode cX8_sumOfSorts 13 = .ok (.imul, 1) := by decide +kernel
theorem dX8_sumOfSorts_14 : decode cX8_sumOfSorts 14 = .ok (.iload_n 3, 1) := by decide +kernel
theorem dX8_sumOfSorts_15 : decode cX8_sumOfSorts 15 = .ok (.iadd, 1) := by decide +kernel
theorem dX8_sumOfSorts_16 : decode cX8_sumOfSorts 16 = .ok (.iaload, 1) := by decide +kernel
theorem dX8_sumOfSorts_17 : decode cX8_sumOfSorts 17 = .ok (.iadd, 1) := by decide +kernel
theorem dX8_sumOfSorts_18 : decode cX8_sumOfSorts 18 = .ok (.istore_n 2, 1) := by decide +kernel
theorem dX8_sumOfSorts_19 : decode cX8_sumOfSorts 19 = .ok (.iinc 3 1, 3) := by decide +kernel
theorem dX8_sumOfSorts_22 : decode cX8_sumOfSorts 22 = .ok (.goto (-18), 3) := by decide +kernel
theorem dX8_sumOfSorts_25 : decode cX8_sumOfSorts 25 = .ok (.iload_n 2, 1) := by decide +kernel
theorem dX8_sumOfSorts_26 : decode cX8_sumOfSorts 26 = .ok (.ireturn, 1) := by decide +kernel
theorem dX9_init_0 : decode cX9_init 0 = .ok (.aload_n 0, 1) := by decide +kernel
theorem dX9_init_1 : decode cX9_init 1 = .ok (.invokespecial 1, 3) := by decide +kernel
theorem dX9_init_4 : decode cX9_init 4 = .ok (.aload_n 0, 1) := by decide +kernel
theorem dX9_init_5 : decode cX9_init 5 = .ok (.sipush 150, 3) := by decide +kernel
theorem dX9_init_8 : decode cX9_init 8 = .ok (.newarray .int, 2) := by decide +kernel
theorem dX9_init_10 : decode cX9_init 10 = .ok (.putfield 7, 3) := by decide +kernel
theorem dX9_init_13 : decode cX9_init 13 = .ok (.aload_n 0, 1) := by decide +kernel
theorem dX9_init_14 : decode cX9_init 14 = .ok (.iconst 4, 1) := by decide +kernel
theorem dX9_init_15 : decode cX9_init 15 = .ok (.newarray .int, 2) := by decide +kernel
theorem dX9_init_17 : decode cX9_init 17 = .ok (.putfield 13, 3) := by decide +kernel
theorem dX9_init_20 : decode cX9_init 20 = .ok (.aload_n 0, 1) := by decide +kernel
theorem dX9_init_21 : decode cX9_init 21 = .ok (.bipush 8, 2) := by decide +kernel
theorem dX9_init_23 : decode cX9_init 23 = .ok (.newarray .int, 2) := by decide +kernel
theorem dX9_init_25 : decode cX9_init 25 = .ok (.putfield 16, 3) := by decide +kernel
theorem dX9_init_28 : decode cX9_init 28 = .ok (.aload_n 0, 1) := by decide +kernel
theorem dX9_init_29 : decode cX9_init 29 = .ok (.bipush 16, 2) := by decide +kernel
theorem dX9_init_31 : decode cX9_init 31 = .ok (.newarray .int, 2) := by decide +kernel
theorem dX9_init_33 : decode cX9_init 33 = .ok (.putfield 19, 3) := by decide +kernel
theorem dX9_init_36 : decode cX9_init 36 = .ok (.aload_n 0, 1) := by decide +kernel
theorem dX9_init_37 : decode cX9_init 37 = .ok (.bipush 32, 2) := by decide +kernel
theorem dX9_init_39 : decode cX9_init 39 = .ok (.newarray .int, 2) := by decide +kernel
theorem dX9_init_41 : decode cX9_init 41 = .ok (.putfield 22, 3) := by decide +kernel
theorem dX9_init_44 : decode cX9_init 44 = .ok (.aload_n 0, 1) := by decide +kernel
theorem dX9_init_45 : decode cX9_init 45 = .ok (.bipush 10, 2) := by decide +kernel
theorem dX9_init_47 : decode cX9_init 47 = .ok (.newarray .int, 2) := by decide +kernel
theorem dX9_init_49 : decode cX9_init 49 = .ok (.putfield 25, 3) := by decide +kernel
theorem dX9_init_52 : decode cX9_init 52 = .ok (.aload_n 0, 1) := by decide +kernel
theorem dX9_init_53 : decode cX9_init 53 = .ok (.bipush 23, 2) := by decide +kernel
theorem dX9_init_55 : decode cX9_init 55 = .ok (.newarray .int, 2) := by decide +kernel
theorem dX9_init_57 : decode cX9_init 57 = .ok (.putfield 28, 3) := by decide +kernel
theorem dX9_init_60 : decode cX9_init 60 = .ok (.aload_n 0, 1) := by decide +kernel
theorem dX9_init_61 : decode cX9_init 61 = .ok (.bipush 46, 2) := by decide +kernel
theorem dX9_init_63 : decode cX9_init 63 = .ok (.newarray .int, 2) := by decide +kernel
theorem dX9_init_65 : decode cX9_init 65 = .ok (.putfield 31, 3) := by decide +kernel
theorem dX9_init_68 : decode cX9_init 68 = .ok (.aload_n 0, 1) := by decide +kernel
theorem dX9_init_69 : decode cX9_init 69 = .ok (.iconst 2, 1) := by decide +kernel
theorem dX9_init_70 : decode cX9_init 70 = .ok (.newarray .boolean, 2) := by decide +kernel
theorem dX9_init_72 : decode cX9_init 72 = .ok (.putfield 34, 3) := by decide +kernel
theorem dX9_init_75 : decode cX9_init 75 = .ok (.aload_n 0, 1) := by decide +kernel
theorem dX9_init_76 : decode cX9_init 76 = .ok (.sipush 230, 3) := by decide +kernel
theorem dX9_init_79 : decode cX9_init 79 = .ok (.newarray .int, 2) := by decide +kernel
theorem dX9_init_81 : decode cX9_init 81 = .ok (.putfield 38, 3) := by decide +kernel
theorem dX9_init_84 : decode cX9_init 84 = .ok (.aload_n 0, 1) := by decide +kernel
theorem dX9_init_85 : decode cX9_init 85 = .ok (.bipush 6, 2) := by decide +kernel
theorem dX9_init_87 : decode cX9_init 87 = .ok (.newarray .int, 2) := by decide +kernel
theorem dX9_init_89 : decode cX9_init 89 = .ok (.putfield 41, 3) := by decide +kernel
theorem dX9_init_92 : decode cX9_init 92 = .ok (.aload_n 0, 1) := by decide +kernel
theorem dX9_init_93 : decode cX9_init 93 = .ok (.bipush 6, 2) := by decide +kernel
theorem dX9_init_95 : decode cX9_init 95 = .ok (.newarray .int, 2) := by decide +kernel
theorem dX9_init_97 : decode cX9_init 97 = .ok (.putfield 44, 3) := by decide +kernel
theorem dX9_init_100 : decode cX9_init 100 = .ok (.aload_n 0, 1) := by decide +kernel
theorem dX9_init_101 : decode cX9_init 101 = .ok (.bipush 6, 2) := by decide +kernel
theorem dX9_init_103 : decode cX9_init 103 = .ok (.newarray .int, 2) := by decide +kernel
theorem dX9_init_105 : decode cX9_init 105 = .ok (.putfield 47, 3) := by decide +kernel
theorem dX9_init_108 : decode cX9_init 108 = .ok (.aload_n 0, 1) := by decide +kernel
theorem dX9_init_109 : decode cX9_init 109 = .ok (.bipush 6, 2) := by decide +kernel
theorem dX9_init_111 : decode cX9_init 111 = .ok (.newarray .int, 2) := by decide +kernel
theorem dX9_init_113 : decode cX9_init 113 = .ok (.putfield 50, 3) := by decide +kernel
theorem dX9_init_116 : decode cX9_init 116 = .ok (.aload_n 0, 1) := by decide +kernel
theorem dX9_init_117 : decode cX9_init 117 = .ok (.bipush 6, 2) := by decide +kernel
theorem dX9_init_119 : decode cX9_init 119 = .ok (.newarray .int, 2) := by decide +kernel
theorem dX9_init_121 : decode cX9_init 121 = .ok (.putfield 53, 3) := by decide +kernel
theorem dX9_init_124 : decode cX9_init 124 = .ok (.aload_n 0, 1) := by decide +kernel
theorem dX9_init_125 : decode cX9_init 125 = .ok (.bipush 75, 2) := by decide +kernel
theorem dX9_init_127 : decode cX9_init 127 = .ok (.newarray .int, 2) := by decide +kernel
theorem dX9_init_129 : decode cX9_init 129 = .ok (.putfield 56, 3) := by decide +kernel
theorem dX9_init_132 : decode cX9_init 132 = .ok (.aload_n 0, 1) := by decide +kernel
theorem dX9_init_133 : decode cX9_init 133 = .ok (.sipush 4096, 3) := by decide +kernel
theorem dX9_init_136 : decode cX9_init 136 = .ok (.newarray .int, 2) := by decide +kernel
theorem dX9_init_138 : decode cX9_init 138 = .ok (.putfield 59, 3) := by decide +kernel
theorem dX9_init_141 : decode cX9_init 141 = .ok (.aload_n 0, 1) := by decide +kernel
theorem dX9_init_142 : decode cX9_init 142 = .ok (.sipush 4096, 3) := by decide +kernel
theorem dX9_init_145 : decode cX9_init 145 = .ok (.newarray .int, 2) := by decide +kernel
theorem dX9_init_147 : decode cX9_init 147 = .ok (.putfield 62, 3) := by decide +kernel
theorem dX9_init_150 : decode cX9_init 150 = .ok (.aload_n 0, 1) := by decide +kernel
theorem dX9_init_151 : decode cX9_init 151 = .ok (.sipush 1442, 3) := by decide +kernel
theorem dX9_init_154 : decode cX9_init 154 = .ok (.newarray .int, 2) := by decide +kernel
theorem dX9_init_156 : decode cX9_init 156 = .ok (.putfield 65, 3) := by decide +kernel
theorem dX9_init_159 : decode cX9_init 159 = .ok (.aload_n 0, 1) := by decide +kernel
theorem dX9_init_160 : decode cX9_init 160 = .ok (.sipush 301, 3) := by decide +kernel
theorem dX9_init_163 : decode cX9_init 163 = .ok (.newarray .boolean, 2) := by decide +kernel
theorem dX9_init_165 : decode cX9_init 165 = .ok (.putfield 68, 3) := by decide +kernel
theorem dX9_init_168 : decode cX9_init 168 = .ok (.aload_n 0, 1) := by decide +kernel
theorem dX9_init_169 : decode cX9_init 169 = .ok (.invokevirtual 71, 3) := by decide +kernel
theorem dX9_init_172 : decode cX9_init 172 = .ok (.aload_n 0, 1) := by decide +kernel
theorem dX9_init_173 : decode cX9_init 173 = .ok (.invokevirtual 74, 3) := by decide +kernel
theorem dX9_init_176 : decode cX9_init 176 = .ok (.return_, 1) := by decide +kernel
theorem dX9_in_0 : decode cX9_in 0 = .ok (.iload_n 0, 1) := by decide +kernel
theorem dX9_in_1 : decode cX9_in 1 = .ok (.iload_n 1, 1) := by decide +kernel
theorem dX9_in_2 : decode cX9_in 2 = .ok (.if_icmp .lt 12, 3) := by decide +kernel
theorem dX9_in_5 : decode cX9_in 5 = .ok (.iload_n 0, 1) := by decide +kernel
theorem dX9_in_6 : decode cX9_in 6 = .ok (.iload_n 2, 1) := by decide +kernel
theorem dX9_in_7 : decode cX9_in 7 = .ok (.if_icmp .gt 7, 3) := by decide +kernel
theorem dX9_in_10 : decode cX9_in 10 = .ok (.iconst 1, 1) := by decide +kernel
theorem dX9_in_11 : decode cX9_in 11 = .ok (.goto 4, 3) := by decide +kernel
theorem dX9_in_14 : decode cX9_in 14 = .ok (.iconst 0, 1) := by decide +kernel
theorem dX9_in_15 : decode cX9_in 15 = .ok (.ireturn, 1) := by decide +kernel
theorem dX9_type_0 : decode cX9_type 0 = .ok (.aload_n 0, 1) := by decide +kernel
theorem dX9_type_1 : decode cX9_type 1 = .ok (.iconst 0, 1) := by decide +kernel
theorem dX9_type_2 : decode cX9_type 2 = .ok (.putfield 77, 3) := by decide +kernel
theorem dX9_type_5 : decode cX9_type 5 = .ok (.iload_n 1, 1) := by decide +kernel
theorem dX9_type_6 : decode cX9_type 6 = .ok (.iconst 0, 1) := by decide +kernel
theorem dX9_type_7 : decode cX9_type 7 = .ok (.sipush 255, 3) := by decide +kernel
theorem dX9_type_10 : decode cX9_type 10 = .ok (.invokestatic 81, 3) := by decide +kernel
theorem dX9_type_13 : decode cX9_type 13 = .ok (.ifCond .ne 5, 3) := by decide +kernel
theorem dX9_type_16 : decode cX9_type 16 = .ok (.iconst (-1), 1) := by decide +kernel
theorem dX9_type_17 : decode cX9_type 17 = .ok (.ireturn, 1) := by decide +kernel
theorem dX9_type_18 : decode cX9_type 18 = .ok (.aload_n 0, 1) := by decide +kernel
theorem dX9_type_19 : decode cX9_type 19 = .ok (.getfield 85, 3) := by decide +kernel
theorem dX9_type_22 : decode cX9_type 22 = .ok (.sipush 150, 3) := by decide +kernel
theorem dX9_type_25 : decode cX9_type 25 = .ok (.if_icmp .ne 6, 3) := by decide +kernel
theorem dX9_type_28 : decode cX9_type 28 = .ok (.bipush (-3), 2) := by decide +kernel
theorem dX9_type_30 : decode cX9_type 30 = .ok (.ireturn, 1) := by decide +kernel
theorem dX9_type_31 : decode cX9_type 31 = .ok (.aload_n 0, 1) := by decide +kernel
theorem dX9_type_32 : decode cX9_type 32 = .ok (.getfield 7, 3) := by decide +kernel
theorem dX9_type_35 : decode cX9_type 35 = .ok (.aload_n 0, 1) := by decide +kernel
theorem dX9_type_36 : decode cX9_type 36 = .ok (.getfield 85, 3) := by decide +kernel
theorem dX9_type_39 : decode cX9_type 39 = .ok (.iload_n 1, 1) := by decide +kernel
theorem dX9_type_40 : decode cX9_type 40 = .ok (.iastore, 1) := by decide +kernel
theorem dX9_type_41 : decode cX9_type 41 = .ok (.aload_n 0, 1) := by decide +kernel
theorem dX9_type_42 : decode cX9_type 42 = .ok (.dup, 1) := by decide +kernel
theorem dX9_type_43 : decode cX9_type 43 = .ok (.getfield 85, 3) := by decide +kernel
theorem dX9_type_46 : decode cX9_type 46 = .ok (.iconst 1, 1) := by decide +kernel
theorem dX9_type_47 : decode cX9_type 47 = .ok (.iadd, 1) := by decide +kernel
theorem dX9_type_48 : decode cX9_type 48 = .ok (.putfield 85, 3) := by decide +kernel
theorem dX9_type_51 : decode cX9_type 51 = .ok (.aload_n 0, 1) := by decide +kernel
theorem dX9_type_52 : decode cX9_type 52 = .ok (.getfield 85, 3) := by decide +kernel
theorem dX9_type_55 : decode cX9_type 55 = .ok (.ireturn, 1) := by decide +kernel
theorem dX9_clear_0 : decode cX9_clear 0 = .ok (.aload_n 0, 1) := by decide +kernel
theorem dX9_clear_1 : decode cX9_clear 1 = .ok (.iconst 0, 1) := by decide +kernel
theorem dX9_clear_2 : decode cX9_clear 2 = .ok (.putfield 77, 3) := by decide +kernel
theorem dX9_clear_5 : decode cX9_clear 5 = .ok (.aload_n 0, 1) := by decide +kernel
theorem dX9_clear_6 : decode cX9_clear 6 = .ok (.getfield 85, 3) := by decide +kernel
theorem dX9_clear_9 : decode cX9_clear 9 = .ok (.istore_n 1, 1) := by decide +kernel
theorem dX9_clear_10 : decode cX9_clear 10 = .ok (.aload_n 0, 1) := by decide +kernel
theorem dX9_clear_11 : decode cX9_clear 11 = .ok (.iconst 0, 1) := by decide +kernel
theorem dX9_clear_12 : decode cX9_clear 12 = .ok (.putfield 85, 3) := by decide +kernel
theorem dX9_clear_15 : decode cX9_clear 15 = .ok (.iload_n 1, 1) := by decide +kernel
theorem dX9_clear_16 : decode cX9_clear 16 = .ok (.ireturn, 1) := by decide +kernel
theorem dX9_letterAt_0 : decode cX9_letterAt 0 = .ok (.iload_n 1, 1) := by decide +kernel
theorem dX9_letterAt_1 : decode cX9_letterAt 1 = .ok (.aload_n 0, 1) := by decide +kernel
theorem dX9_letterAt_2 : decode cX9_letterAt 2 = .ok (.getfield 85, 3) := by decide +kernel
theorem dX9_letterAt_5 : decode cX9_letterAt 5 = .ok (.if_icmp .ge 12, 3) := by decide +kernel
theorem dX9_letterAt_8 : decode cX9_letterAt 8 = .ok (.aload_n 0, 1) := by decide +kernel
theorem dX9_letterAt_9 : decode cX9_letterAt 9 = .ok (.getfield 7, 3) := by decide +kernel
theorem dX9_letterAt_12 : decode cX9_letterAt 12 = .ok (.iload_n 1, 1) := by decide +kernel
theorem dX9_letterAt_13 : decode cX9_letterAt 13 = .ok (.iaload, 1) := by decide +kernel
theorem dX9_letterAt_14 : decode cX9_letterAt 14 = .ok (.goto 4, 3) := by decide +kernel
theorem dX9_letterAt_17 : decode cX9_letterAt 17 = .ok (.iconst (-1), 1) := by decide +kernel
theorem dX9_letterAt_18 : decode cX9_letterAt 18 = .ok (.ireturn, 1) := by decide +kernel
theorem dX9_advances_0 : decode cX9_advances 0 = .ok (.aload_n 0, 1) := by decide +kernel
theorem dX9_advances_1 : decode cX9_advances 1 = .ok (.aload_n 0, 1) := by decide +kernel
theorem dX9_advances_2 : decode cX9_advances 2 = .ok (.getfield 88, 3) := by decide +kernel
theorem dX9_advances_5 : decode cX9_advances 5 = .ok (.invokevirtual 91, 3) := by decide +kernel
theorem dX9_advances_8 : decode cX9_advances 8 = .ok (.bipush 32, 2) := by decide +kernel
theorem dX9_advances_10 : decode cX9_advances 10 = .ok (.if_icmp .ne 16, 3) := by decide +kernel
theorem dX9_advances_13 : decode cX9_advances 13 = .ok (.aload_n 0, 1) := by decide +kernel
theorem dX9_advances_14 : decode cX9_advances 14 = .ok (.dup, 1) := by decide +kernel
theorem dX9_advances_15 : decode cX9_advances 15 = .ok (.getfield 88, 3) := by decide +kernel
theorem dX9_advances_18 : decode cX9_advances 18 = .ok (.iconst 1, 1) := by decide +kernel
theorem dX9_advances_19 : decode cX9_advances 19 = .ok (.iadd, 1) := by decide +kernel
theorem dX9_advances_20 : decode cX9_advances 20 = .ok (.putfield 88, 3) := by decide +kernel
theorem dX9_advances_23 : decode cX9_advances 23 = .ok (.goto (-23), 3) := by decide +kernel
theorem dX9_advances_26 : decode cX9_advances 26 = .ok (.aload_n 0, 1) := by decide +kernel
theorem dX9_advances_27 : decode cX9_advances 27 = .ok (.aload_n 0, 1) := by decide +kernel
theorem dX9_advances_28 : decode cX9_advances 28 = .ok (.getfield 88, 3) := by decide +kernel
theorem dX9_advances_31 : decode cX9_advances 31 = .ok (.putfield 95, 3) := by decide +kernel
theorem dX9_advances_34 : decode cX9_advances 34 = .ok (.aload_n 0, 1) := by decide +kernel
theorem dX9_advances_35 : decode cX9_advances 35 = .ok (.aload_n 0, 1) := by decide +kernel
theorem dX9_advances_36 : decode cX9_advances 36 = .ok (.getfield 88, 3) := by decide +kernel
theorem dX9_advances_39 : decode cX9_advances 39 = .ok (.invokevirtual 91, 3) := by decide +kernel
theorem dX9_advances_42 : decode cX9_advances 42 = .ok (.istore_n 1, 1) := by decide +kernel
theorem dX9_advances_43 : decode cX9_advances 43 = .ok (.iload_n 1, 1) := by decide +kernel
theorem dX9_advances_44 : decode cX9_advances 44 = .ok (.ifCond .ge 11, 3) := by decide +kernel
theorem dX9_advances_47 : decode cX9_advances 47 = .ok (.aload_n 0, 1) := by decide +kernel
theorem dX9_advances_48 : decode cX9_advances 48 = .ok (.iconst 0, 1) := by decide +kernel
theorem dX9_advances_49 : decode cX9_advances 49 = .ok (.putfield 98, 3) := by decide +kernel
theorem dX9_advances_52 : decode cX9_advances 52 = .ok (.goto 187, 3) := by decide +kernel
theorem dX9_advances_55 : decode cX9_advances 55 = .ok (.iload_n 1, 1) := by decide +kernel
theorem dX9_advances_56 : decode cX9_advances 56 = .ok (.bipush 48, 2) := by decide +kernel
theorem dX9_advances_58 : decode cX9_advances 58 = .ok (.bipush 57, 2) := by decide +kernel
theorem dX9_advances_60 : decode cX9_advances 60 = .ok (.invokestatic 81, 3) := by decide +kernel
theorem dX9_advances_63 : decode cX9_advances 63 = .ok (.ifCond .eq 118, 3) := by decide +kernel
theorem dX9_advances_66 : decode cX9_advances 66 = .ok (.aload_n 0, 1) := by decide +kernel
theorem dX9_advances_67 : decode cX9_advances 67 = .ok (.iconst 0, 1) := by decide +kernel
theorem dX9_advances_68 : decode cX9_advances 68 = .ok (.putfield 101, 3) := by decide +kernel
theorem dX9_advances_71 : decode cX9_advances 71 = .ok (.aload_n 0, 1) := by decide +kernel
theorem dX9_advances_72 : decode cX9_advances 72 = .ok (.aload_n 0, 1) := by decide +kernel
theorem dX9_advances_73 : decode cX9_advances 73 = .ok (.getfield 88, 3) := by decide +kernel
theorem dX9_advances_76 : decode cX9_advances 76 = .ok (.invokevirtual 91, 3) := by decide +kernel
theorem dX9_advances_79 : decode cX9_advances 79 = .ok (.bipush 48, 2) := by decide +kernel
theorem dX9_advances_81 : decode cX9_advances 81 = .ok (.bipush 57, 2) := by decide +kernel
theorem dX9_advances_83 : decode cX9_advances 83 = .ok (.invokestatic 81, 3) := by decide +kernel
theorem dX9_advances_86 : decode cX9_advances 86 = .ok (.ifCond .eq 55, 3) := by decide +kernel
theorem dX9_advances_89 : decode cX9_advances 89 = .ok (.aload_n 0, 1) := by decide +kernel
theorem dX9_advances_90 : decode cX9_advances 90 = .ok (.aload_n 0, 1) := by decide +kernel
theorem dX9_advances_91 : decode cX9_advances 91 = .ok (.getfield 101, 3) := by decide +kernel
theorem dX9_advances_94 : decode cX9_advances 94 = .ok (.bipush 99, 2) := by decide +kernel
theorem dX9_advances_96 : decode cX9_advances 96 = .ok (.if_icmp .le 10, 3) := by decide +kernel
theorem dX9_advances_99 : decode cX9_advances 99 = .ok (.aload_n 0, 1) := by decide +kernel
theorem dX9_advances_100 : decode cX9_advances 100 = .ok (.getfield 101, 3) := by decide +kernel
theorem dX9_advances_103 : decode cX9_advances 103 = .ok (.goto 22, 3) := by decide +kernel
theorem dX9_advances_106 : decode cX9_advances 106 = .ok (.bipush 10, 2) := by decide +kernel
theorem dX9_advances_108 : decode cX9_advances 108 = .ok (.aload_n 0, 1) := by decide +kernel
theorem dX9_advances_109 : decode cX9_advances 109 = .ok (.getfield 101, 3) := by decide +kernel
theorem dX9_advances_112 : decode cX9_advances 112 = .ok (.imul, 1) := by decide +kernel
theorem dX9_advances_113 : decode cX9_advances 113 = .ok (.aload_n 0, 1) := by decide +kernel
theorem dX9_advances_114 : decode cX9_advances 114 = .ok (.aload_n 0, 1) := by decide +kernel
theorem dX9_advances_115 : decode cX9_advances 115 = .ok (.getfield 88, 3) := by decide +kernel
theorem dX9_advances_118 : decode cX9_advances 118 = .ok (.invokevirtual 91, 3) := by decide +kernel
theorem dX9_advances_121 : decode cX9_advances 121 = .ok (.iadd, 1) := by decide +kernel
theorem dX9_advances_122 : decode cX9_advances 122 = .ok (.bipush 48, 2) := by decide +kernel
theorem dX9_advances_124 : decode cX9_advances 124 = .ok (.isub, 1) := by decide +kernel
theorem dX9_advances_125 : decode cX9_advances 125 = .ok (.putfield 101, 3) := by decide +kernel
theorem dX9_advances_128 : decode cX9_advances 128 = .ok (.aload_n 0, 1) := by decide +kernel
theorem dX9_advances_129 : decode cX9_advances 129 = .ok (.dup, 1) := by decide +kernel
theorem dX9_advances_130 : decode cX9_advances 130 = .ok (.getfield 88, 3) := by decide +kernel
theorem dX9_advances_133 : decode cX9_advances 133 = .ok (.iconst 1, 1) := by decide +kernel
theorem dX9_advances_134 : decode cX9_advances 134 = .ok (.iadd, 1) := by decide +kernel
theorem dX9_advances_135 : decode cX9_advances 135 = .ok (.putfield 88, 3) := by decide +kernel
theorem dX9_advances_138 : decode cX9_advances 138 = .ok (.goto (-67), 3) := by decide +kernel
theorem dX9_advances_141 : decode cX9_advances 141 = .ok (.aload_n 0, 1) := by decide +kernel
theorem dX9_advances_142 : decode cX9_advances 142 = .ok (.aload_n 0, 1) := by decide +kernel
theorem dX9_advances_143 : decode cX9_advances 143 = .ok (.getfield 101, 3) := by decide +kernel
theorem dX9_advances_146 : decode cX9_advances 146 = .ok (.bipush 99, 2) := by decide +kernel
theorem dX9_advances_148 : decode cX9_advances 148 = .ok (.if_icmp .gt 22, 3) := by decide +kernel
theorem dX9_advances_151 : decode cX9_advances 151 = .ok (.iload_n 1, 1) := by decide +kernel
theorem dX9_advances_152 : decode cX9_advances 152 = .ok (.bipush 48, 2) := by decide +kernel
theorem dX9_advances_154 : decode cX9_advances 154 = .ok (.if_icmp .ne 20, 3) := by decide +kernel
theorem dX9_advances_157 : decode cX9_advances 157 = .ok (.aload_n 0, 1) := by decide +kernel
theorem dX9_advances_158 : decode cX9_advances 158 = .ok (.getfield 88, 3) := by decide +kernel
theorem dX9_advances_161 : decode cX9_advances 161 = .ok (.aload_n 0, 1) := by decide +kernel
theorem dX9_advances_162 : decode cX9_advances 162 = .ok (.getfield 95, 3) := by decide +kernel
theorem dX9_advances_165 : decode cX9_advances 165 = .ok (.isub, 1) := by decide +kernel
theorem dX9_advances_166 : decode cX9_advances 166 = .ok (.iconst 1, 1) := by decide +kernel
theorem dX9_advances_167 : decode cX9_advances 167 = .ok (.if_icmp .le 7, 3) := by decide +kernel
theorem dX9_advances_170 : decode cX9_advances 170 = .ok (.iconst 4, 1) := by decide +kernel
theorem dX9_advances_171 : decode cX9_advances 171 = .ok (.goto 4, 3) := by decide +kernel
theorem dX9_advances_174 : decode cX9_advances 174 = .ok (.iconst 2, 1) := by decide +kernel
theorem dX9_advances_175 : decode cX9_advances 175 = .ok (.putfield 98, 3) := by decide +kernel
theorem dX9_advances_178 : decode cX9_advances 178 = .ok (.goto 61, 3) := by decide +kernel
theorem dX9_advances_181 : decode cX9_advances 181 = .ok (.aload_n 0, 1) := by decide +kernel
theorem dX9_advances_182 : decode cX9_advances 182 = .ok (.dup, 1) := by decide +kernel
theorem dX9_advances_183 : decode cX9_advances 183 = .ok (.getfield 88, 3) := by decide +kernel
theorem dX9_advances_186 : decode cX9_advances 186 = .ok (.iconst 1, 1) := by decide +kernel
theorem dX9_advances_187 : decode cX9_advances 187 = .ok (.iadd, 1) := by decide +kernel
theorem dX9_advances_188 : decode cX9_advances 188 = .ok (.putfield 88, 3) := by decide +kernel
theorem dX9_advances_191 : decode cX9_advances 191 = .ok (.aload_n 0, 1) := by decide +kernel
theorem dX9_advances_192 : decode cX9_advances 192 = .ok (.iload_n 1, 1) := by decide +kernel
theorem dX9_advances_193 : decode cX9_advances 193 = .ok (.putfield 101, 3) := by decide +kernel
theorem dX9_advances_196 : decode cX9_advances 196 = .ok (.aload_n 0, 1) := by decide +kernel
theorem dX9_advances_197 : decode cX9_advances 197 = .ok (.iload_n 1, 1) := by decide +kernel
theorem dX9_advances_198 : decode cX9_advances 198 = .ok (.bipush 59, 2) := by decide +kernel
theorem dX9_advances_200 : decode cX9_advances 200 = .ok (.if_icmp .ne 7, 3) := by decide +kernel
theorem dX9_advances_203 : decode cX9_advances 203 = .ok (.iconst 3, 1) := by decide +kernel
theorem dX9_advances_204 : decode cX9_advances 204 = .ok (.goto 32, 3) := by decide +kernel
theorem dX9_advances_207 : decode cX9_advances 207 = .ok (.iload_n 1, 1) := by decide +kernel
theorem dX9_advances_208 : decode cX9_advances 208 = .ok (.bipush 115, 2) := by decide +kernel
theorem dX9_advances_210 : decode cX9_advances 210 = .ok (.if_icmp .eq 21, 3) := by decide +kernel
theorem dX9_advances_213 : decode cX9_advances 213 = .ok (.iload_n 1, 1) := by decide +kernel
theorem dX9_advances_214 : decode cX9_advances 214 = .ok (.bipush 112, 2) := by decide +kernel
theorem dX9_advances_216 : decode cX9_advances 216 = .ok (.if_icmp .eq 15, 3) := by decide +kernel
theorem dX9_advances_219 : decode cX9_advances 219 = .ok (.iload_n 1, 1) := by decide +kernel
theorem dX9_advances_220 : decode cX9_advances 220 = .ok (.bipush 103, 2) := by decide +kernel
theorem dX9_advances_222 : decode cX9_advances 222 = .ok (.if_icmp .eq 9, 3) := by decide +kernel
theorem dX9_advances_225 : decode cX9_advances 225 = .ok (.iload_n 1, 1) := by decide +kernel
theorem dX9_advances_226 : decode cX9_advances 226 = .ok (.bipush 98, 2) := by decide +kernel
theorem dX9_advances_228 : decode cX9_advances 228 = .ok (.if_icmp .ne 7, 3) := by decide +kernel
theorem dX9_advances_231 : decode cX9_advances 231 = .ok (.iconst 1, 1) := by decide +kernel
theorem dX9_advances_232 : decode cX9_advances 232 = .ok (.goto 4, 3) := by decide +kernel
theorem dX9_advances_235 : decode cX9_advances 235 = .ok (.iconst 4, 1) := by decide +kernel
theorem dX9_advances_236 : decode cX9_advances 236 = .ok (.putfield 98, 3) := by decide +kernel
theorem dX9_advances_239 : decode cX9_advances 239 = .ok (.return_, 1) := by decide +kernel
theorem dX9_isWell_0 : decode cX9_isWell 0 = .ok (.aload_n 0, 1) := by decide +kernel
theorem dX9_isWell_1 : decode cX9_isWell 1 = .ok (.getfield 104, 3) := by decide +kernel
theorem dX9_isWell_4 : decode cX9_isWell 4 = .ok (.ifCond .ge 7, 3) := by decide +kernel
theorem dX9_isWell_7 : decode cX9_isWell 7 = .ok (.iconst 1, 1) := by decide +kernel
theorem dX9_isWell_8 : decode cX9_isWell 8 = .ok (.goto 4, 3) := by decide +kernel
theorem dX9_isWell_11 : decode cX9_isWell 11 = .ok (.iconst 0, 1) := by decide +kernel
theorem dX9_isWell_12 : decode cX9_isWell 12 = .ok (.ireturn, 1) := by decide +kernel
theorem dX9_takes_0 : decode cX9_takes 0 = .ok (.aload_n 0, 1) := by decide +kernel
theorem dX9_takes_1 : decode cX9_takes 1 = .ok (.invokevirtual 107, 3) := by decide +kernel
theorem dX9_takes_4 : decode cX9_takes 4 = .ok (.ifCond .ne 5, 3) := by decide +kernel
theorem dX9_takes_7 : decode cX9_takes 7 = .ok (.iconst 0, 1) := by decide +kernel
theorem dX9_takes_8 : decode cX9_takes 8 = .ok (.ireturn, 1) := by decide +kernel
theorem dX9_takes_9 : decode cX9_takes 9 = .ok (.iload_n 1, 1) := by decide +kernel
theorem dX9_takes_10 : decode cX9_takes 10 = .ok (.ifCond .ne 13, 3) := by decide +kernel
theorem dX9_takes_13 : decode cX9_takes 13 = .ok (.aload_n 0, 1) := by decide +kernel
theorem dX9_takes_14 : decode cX9_takes 14 = .ok (.aload_n 0, 1) := by decide +kernel
theorem dX9_takes_15 : decode cX9_takes 15 = .ok (.getfield 95, 3) := by decide +kernel
theorem dX9_takes_18 : decode cX9_takes 18 = .ok (.putfield 104, 3) := by decide +kernel
theorem dX9_takes_21 : decode cX9_takes 21 = .ok (.iconst 0, 1) := by decide +kernel
theorem dX9_takes_22 : decode cX9_takes 22 = .ok (.ireturn, 1) := by decide +kernel
theorem dX9_takes_23 : decode cX9_takes 23 = .ok (.aload_n 0, 1) := by decide +kernel
theorem dX9_takes_24 : decode cX9_takes 24 = .ok (.getfield 101, 3) := by decide +kernel
theorem dX9_takes_27 : decode cX9_takes 27 = .ok (.istore_n 2, 1) := by decide +kernel
theorem dX9_takes_28 : decode cX9_takes 28 = .ok (.aload_n 0, 1) := by decide +kernel
theorem dX9_takes_29 : decode cX9_takes 29 = .ok (.invokevirtual 111, 3) := by decide +kernel
theorem dX9_takes_32 : decode cX9_takes 32 = .ok (.iload_n 2, 1) := by decide +kernel
theorem dX9_takes_33 : decode cX9_takes 33 = .ok (.ireturn, 1) := by decide +kernel
theorem dX9_number_0 : decode cX9_number 0 = .ok (.aload_n 0, 1) := by decide +kernel
theorem dX9_number_1 : decode cX9_number 1 = .ok (.aload_n 0, 1) := by decide +kernel
theorem dX9_number_2 : decode cX9_number 2 = .ok (.getfield 98, 3) := by decide +kernel
theorem dX9_number_5 : decode cX9_number 5 = .ok (.iconst 2, 1) := by decide +kernel
theorem dX9_number_6 : decode cX9_number 6 = .ok (.if_icmp .ne 19, 3) := by decide +kernel
theorem dX9_number_9 : decode cX9_number 9 = .ok (.aload_n 0, 1) := by decide +kernel
theorem dX9_number_10 : decode cX9_number 10 = .ok (.getfield 101, 3) := by decide +kernel
theorem dX9_number_13 : decode cX9_number 13 = .ok (.iload_n 1, 1) := by decide +kernel
theorem dX9_number_14 : decode cX9_number 14 = .ok (.iload_n 2, 1) := by decide +kernel
theorem dX9_number_15 : decode cX9_number 15 = .ok (.invokestatic 81, 3) := by decide +kernel
theorem dX9_number_18 : decode cX9_number 18 = .ok (.ifCond .eq 7, 3) := by decide +kernel
theorem dX9_number_21 : decode cX9_number 21 = .ok (.iconst 1, 1) := by decide +kernel
theorem dX9_number_22 : decode cX9_number 22 = .ok (.goto 4, 3) := by decide +kernel
theorem dX9_number_25 : decode cX9_number 25 = .ok (.iconst 0, 1) := by decide +kernel
theorem dX9_number_26 : decode cX9_number 26 = .ok (.invokevirtual 114, 3) := by decide +kernel
theorem dX9_number_29 : decode cX9_number 29 = .ok (.ireturn, 1) := by decide +kernel
theorem dX9_begins_0 : decode cX9_begins 0 = .ok (.aload_n 0, 1) := by decide +kernel
theorem dX9_begins_1 : decode cX9_begins 1 = .ok (.getfield 13, 3) := by decide +kernel
theorem dX9_begins_4 : decode cX9_begins 4 = .ok (.iconst 2, 1) := by decide +kernel
theorem dX9_begins_5 : decode cX9_begins 5 = .ok (.iconst 0, 1) := by decide +kernel
theorem dX9_begins_6 : decode cX9_begins 6 = .ok (.iastore, 1) := by decide +kernel
theorem dX9_begins_7 : decode cX9_begins 7 = .ok (.aload_n 0, 1) := by decide +kernel
theorem dX9_begins_8 : decode cX9_begins 8 = .ok (.getfield 13, 3) := by decide +kernel
theorem dX9_begins_11 : decode cX9_begins 11 = .ok (.iconst 3, 1) := by decide +kernel
theorem dX9_begins_12 : decode cX9_begins 12 = .ok (.iconst 0, 1) := by decide +kernel
theorem dX9_begins_13 : decode cX9_begins 13 = .ok (.iastore, 1) := by decide +kernel
theorem dX9_begins_14 : decode cX9_begins 14 = .ok (.iconst 0, 1) := by decide +kernel
theorem dX9_begins_15 : decode cX9_begins 15 = .ok (.istore_n 1, 1) := by decide +kernel
theorem dX9_begins_16 : decode cX9_begins 16 = .ok (.iload_n 1, 1) := by decide +kernel
theorem dX9_begins_17 : decode cX9_begins 17 = .ok (.iconst 4, 1) := by decide +kernel
theorem dX9_begins_18 : decode cX9_begins 18 = .ok (.if_icmp .ge 24, 3) := by decide +kernel
theorem dX9_begins_21 : decode cX9_begins 21 = .ok (.aload_n 0, 1) := by decide +kernel
theorem dX9_begins_22 : decode cX9_begins 22 = .ok (.getfield 16, 3) := by decide +kernel
theorem dX9_begins_25 : decode cX9_begins 25 = .ok (.iconst 4, 1) := by decide +kernel
theorem dX9_begins_26 : decode cX9_begins 26 = .ok (.iload_n 1, 1) := by decide +kernel
theorem dX9_begins_27 : decode cX9_begins 27 = .ok (.iadd, 1) := by decide +kernel
theorem dX9_begins_28 : decode cX9_begins 28 = .ok (.iload_n 1, 1) := by decide +kernel
theorem dX9_begins_29 : decode cX9_begins 29 = .ok (.iconst 1, 1) := by decide +kernel
theorem dX9_begins_30 : decode cX9_begins 30 = .ok (.iadd, 1) := by decide +kernel
theorem dX9_begins_31 : decode cX9_begins 31 = .ok (.iload_n 1, 1) := by decide +kernel
theorem dX9_begins_32 : decode cX9_begins 32 = .ok (.iconst 1, 1) := by decide +kernel
theorem dX9_begins_33 : decode cX9_begins 33 = .ok (.iadd, 1) := by decide +kernel
theorem dX9_begins_34 : decode cX9_begins 34 = .ok (.imul, 1) := by decide +kernel
theorem dX9_begins_35 : decode cX9_begins 35 = .ok (.iastore, 1) := by decide +kernel
theorem dX9_begins_36 : decode cX9_begins 36 = .ok (.iinc 1 1, 3) := by decide +kernel
theorem dX9_begins_39 : decode cX9_begins 39 = .ok (.goto (-23), 3) := by decide +kernel
theorem dX9_begins_42 : decode cX9_begins 42 = .ok (.bipush 16, 2) := by decide +kernel
theorem dX9_begins_44 : decode cX9_begins 44 = .ok (.istore_n 1, 1) := by decide +kernel
theorem dX9_begins_45 : decode cX9_begins 45 = .ok (.iload_n 1, 1) := by decide +kernel
theorem dX9_begins_46 : decode cX9_begins 46 = .ok (.bipush 32, 2) := by decide +kernel
theorem dX9_begins_48 : decode cX9_begins 48 = .ok (.if_icmp .ge 16, 3) := by decide +kernel
theorem dX9_begins_51 : decode cX9_begins 51 = .ok (.aload_n 0, 1) := by decide +kernel
theorem dX9_begins_52 : decode cX9_begins 52 = .ok (.getfield 22, 3) := by decide +kernel
theorem dX9_begins_55 : decode cX9_begins 55 = .ok (.iload_n 1, 1) := by decide +kernel
theorem dX9_begins_56 : decode cX9_begins 56 = .ok (.iconst 0, 1) := by decide +kernel
theorem dX9_begins_57 : decode cX9_begins 57 = .ok (.iastore, 1) := by decide +kernel
theorem dX9_begins_58 : decode cX9_begins 58 = .ok (.iinc 1 1, 3) := by decide +kernel
theorem dX9_begins_61 : decode cX9_begins 61 = .ok (.goto (-16), 3) := by decide +kernel
theorem dX9_begins_64 : decode cX9_begins 64 = .ok (.return_, 1) := by decide +kernel
theorem dX9_readsItem_0 : decode cX9_readsItem 0 = .ok (.iload_n 1, 1) := by decide +kernel
theorem dX9_readsItem_1 : decode cX9_readsItem 1 = .ok (.bipush 115, 2) := by decide +kernel
theorem dX9_readsItem_3 : decode cX9_readsItem 3 = .ok (.if_icmp .ne 30, 3) := by decide +kernel
theorem dX9_readsItem_6 : decode cX9_readsItem 6 = .ok (.aload_n 0, 1) := by decide +kernel
theorem dX9_readsItem_7 : decode cX9_readsItem 7 = .ok (.iconst 0, 1) := by decide +kernel
theorem dX9_readsItem_8 : decode cX9_readsItem 8 = .ok (.iconst 3, 1) := by decide +kernel
theorem dX9_readsItem_9 : decode cX9_readsItem 9 = .ok (.invokevirtual 118, 3) := by decide +kernel
theorem dX9_readsItem_12 : decode cX9_readsItem 12 = .ok (.istore_n 2, 1) := by decide +kernel
theorem dX9_readsItem_13 : decode cX9_readsItem 13 = .ok (.aload_n 0, 1) := by decide +kernel
theorem dX9_readsItem_14 : decode cX9_readsItem 14 = .ok (.iconst 1, 1) := by decide +kernel
theorem dX9_readsItem_15 : decode cX9_readsItem 15 = .ok (.bipush 20, 2) := by decide +kernel
theorem dX9_readsItem_17 : decode cX9_readsItem 17 = .ok (.invokevirtual 118, 3) := by decide +kernel
theorem dX9_readsItem_20 : decode cX9_readsItem 20 = .ok (.istore_n 3, 1) := by decide +kernel
theorem dX9_readsItem_21 : decode cX9_readsItem 21 = .ok (.aload_n 0, 1) := by decide +kernel
theorem dX9_readsItem_22 : decode cX9_readsItem 22 = .ok (.getfield 16, 3) := by decide +kernel
theorem dX9_readsItem_25 : decode cX9_readsItem 25 = .ok (.iconst 4, 1) := by decide +kernel
theorem dX9_readsItem_26 : decode cX9_readsItem 26 = .ok (.iload_n 2, 1) := by decide +kernel
theorem dX9_readsItem_27 : decode cX9_readsItem 27 = .ok (.iadd, 1) := by decide +kernel
theorem dX9_readsItem_28 : decode cX9_readsItem 28 = .ok (.iload_n 3, 1) := by decide +kernel
theorem dX9_readsItem_29 : decode cX9_readsItem 29 = .ok (.iastore, 1) := by decide +kernel
theorem dX9_readsItem_30 : decode cX9_readsItem 30 = .ok (.goto 142, 3) := by decide +kernel
theorem dX9_readsItem_33 : decode cX9_readsItem 33 = .ok (.iload_n 1, 1) := by decide +kernel
theorem dX9_readsItem_34 : decode cX9_readsItem 34 = .ok (.bipush 112, 2) := by decide +kernel
theorem dX9_readsItem_36 : decode cX9_readsItem 36 = .ok (.if_icmp .ne 53, 3) := by decide +kernel
theorem dX9_readsItem_39 : decode cX9_readsItem 39 = .ok (.aload_n 0, 1) := by decide +kernel
theorem dX9_readsItem_40 : decode cX9_readsItem 40 = .ok (.getfield 13, 3) := by decide +kernel
theorem dX9_readsItem_43 : decode cX9_readsItem 43 = .ok (.iconst 2, 1) := by decide +kernel
theorem dX9_readsItem_44 : decode cX9_readsItem 44 = .ok (.iaload, 1) := by decide +kernel
theorem dX9_readsItem_45 : decode cX9_readsItem 45 = .ok (.istore_n 2, 1) := by decide +kernel
theorem dX9_readsItem_46 : decode cX9_readsItem 46 = .ok (.iconst 0, 1) := by decide +kernel
theorem dX9_readsItem_47 : decode cX9_readsItem 47 = .ok (.istore_n 3, 1) := by decide +kernel
theorem dX9_readsItem_48 : decode cX9_readsItem 48 = .ok (.iload_n 3, 1) := by decide +kernel
theorem dX9_readsItem_49 : decode cX9_readsItem 49 = .ok (.iconst 4, 1) := by decide +kernel
theorem dX9_readsItem_50 : decode cX9_readsItem 50 = .ok (.if_icmp .ge 26, 3) := by decide +kernel
theorem dX9_readsItem_53 : decode cX9_readsItem 53 = .ok (.aload_n 0, 1) := by decide +kernel
theorem dX9_readsItem_54 : decode cX9_readsItem 54 = .ok (.getfield 19, 3) := by decide +kernel
theorem dX9_readsItem_57 : decode cX9_readsItem 57 = .ok (.iconst 4, 1) := by decide +kernel
theorem dX9_readsItem_58 : decode cX9_readsItem 58 = .ok (.iload_n 2, 1) := by decide +kernel
theorem dX9_readsItem_59 : decode cX9_readsItem 59 = .ok (.imul, 1) := by decide +kernel
theorem dX9_readsItem_60 : decode cX9_readsItem 60 = .ok (.iload_n 3, 1) := by decide +kernel
theorem dX9_readsItem_61 : decode cX9_readsItem 61 = .ok (.iadd, 1) := by decide +kernel
theorem dX9_readsItem_62 : decode cX9_readsItem 62 = .ok (.aload_n 0, 1) := by decide +kernel
theorem dX9_readsItem_63 : decode cX9_readsItem 63 = .ok (.iconst 0, 1) := by decide +kernel
theorem dX9_readsItem_64 : decode cX9_readsItem 64 = .ok (.bipush 9, 2) := by decide +kernel
theorem dX9_readsItem_66 : decode cX9_readsItem 66 = .ok (.invokevirtual 118, 3) := by decide +kernel
theorem dX9_readsItem_69 : decode cX9_readsItem 69 = .ok (.iastore, 1) := by decide +kernel
theorem dX9_readsItem_70 : decode cX9_readsItem 70 = .ok (.iinc 3 1, 3) := by decide +kernel
theorem dX9_readsItem_73 : decode cX9_readsItem 73 = .ok (.goto (-25), 3) := by decide +kernel
theorem dX9_readsItem_76 : decode cX9_readsItem 76 = .ok (.aload_n 0, 1) := by decide +kernel
theorem dX9_readsItem_77 : decode cX9_readsItem 77 = .ok (.getfield 13, 3) := by decide +kernel
theorem dX9_readsItem_80 : decode cX9_readsItem 80 = .ok (.iconst 2, 1) := by decide +kernel
theorem dX9_readsItem_81 : decode cX9_readsItem 81 = .ok (.dup2, 1) := by decide +kernel
theorem dX9_readsItem_82 : decode cX9_readsItem 82 = .ok (.iaload, 1) := by decide +kernel
theorem dX9_readsItem_83 : decode cX9_readsItem 83 = .ok (.iconst 1, 1) := by decide +kernel
theorem dX9_readsItem_84 : decode cX9_readsItem 84 = .ok (.iadd, 1) := by decide +kernel
theorem dX9_readsItem_85 : decode cX9_readsItem 85 = .ok (.iastore, 1) := by decide +kernel
theorem dX9_readsItem_86 : decode cX9_readsItem 86 = .ok (.goto 86, 3) := by decide +kernel
theorem dX9_readsItem_89 : decode cX9_readsItem 89 = .ok (.iload_n 1, 1) := by decide +kernel
theorem dX9_readsItem_90 : decode cX9_readsItem 90 = .ok (.bipush 103, 2) := by decide +kernel
theorem dX9_readsItem_92 : decode cX9_readsItem 92 = .ok (.if_icmp .ne 50, 3) := by decide +kernel
theorem dX9_readsItem_95 : decode cX9_readsItem 95 = .ok (.aload_n 0, 1) := by decide +kernel
theorem dX9_readsItem_96 : decode cX9_readsItem 96 = .ok (.iconst 0, 1) := by decide +kernel
theorem dX9_readsItem_97 : decode cX9_readsItem 97 = .ok (.aload_n 0, 1) := by decide +kernel
theorem dX9_readsItem_98 : decode cX9_readsItem 98 = .ok (.getfield 13, 3) := by decide +kernel
theorem dX9_readsItem_101 : decode cX9_readsItem 101 = .ok (.iconst 2, 1) := by decide +kernel
theorem dX9_readsItem_102 : decode cX9_readsItem 102 = .ok (.iaload, 1) := by decide +kernel
theorem dX9_readsItem_103 : decode cX9_readsItem 103 = .ok (.iconst 1, 1) := by decide +kernel
theorem dX9_readsItem_104 : decode cX9_readsItem 104 = .ok (.isub, 1) := by decide +kernel
theorem dX9_readsItem_105 : decode cX9_readsItem 105 = .ok (.invokevirtual 118, 3) := by decide +kernel
theorem dX9_readsItem_108 : decode cX9_readsItem 108 = .ok (.istore_n 2, 1) := by decide +kernel
theorem dX9_readsItem_109 : decode cX9_readsItem 109 = .ok (.aload_n 0, 1) := by decide +kernel
theorem dX9_readsItem_110 : decode cX9_readsItem 110 = .ok (.iconst 0, 1) := by decide +kernel
theorem dX9_readsItem_111 : decode cX9_readsItem 111 = .ok (.iconst 3, 1) := by decide +kernel
theorem dX9_readsItem_112 : decode cX9_readsItem 112 = .ok (.invokevirtual 118, 3) := by decide +kernel
theorem dX9_readsItem_115 : decode cX9_readsItem 115 = .ok (.istore_n 3, 1) := by decide +kernel
theorem dX9_readsItem_116 : decode cX9_readsItem 116 = .ok (.aload_n 0, 1) := by decide +kernel
theorem dX9_readsItem_117 : decode cX9_readsItem 117 = .ok (.iconst 0, 1) := by decide +kernel
theorem dX9_readsItem_118 : decode cX9_readsItem 118 = .ok (.iconst 3, 1) := by decide +kernel
theorem dX9_readsItem_119 : decode cX9_readsItem 119 = .ok (.invokevirtual 118, 3) := by decide +kernel
theorem dX9_readsItem_122 : decode cX9_readsItem 122 = .ok (.istore 4, 2) := by decide +kernel
theorem dX9_readsItem_124 : decode cX9_readsItem 124 = .ok (.aload_n 0, 1) := by decide +kernel
theorem dX9_readsItem_125 : decode cX9_readsItem 125 = .ok (.getfield 22, 3) := by decide +kernel
theorem dX9_readsItem_128 : decode cX9_readsItem 128 = .ok (.bipush 16, 2) := by decide +kernel
theorem dX9_readsItem_130 : decode cX9_readsItem 130 = .ok (.iconst 4, 1) := by decide +kernel
theorem dX9_readsItem_131 : decode cX9_readsItem 131 = .ok (.iload_n 2, 1) := by decide +kernel
theorem dX9_readsItem_132 : decode cX9_readsItem 132 = .ok (.imul, 1) := by decide +kernel
theorem dX9_readsItem_133 : decode cX9_readsItem 133 = .ok (.iadd, 1) := by decide +kernel
theorem dX9_readsItem_134 : decode cX9_readsItem 134 = .ok (.iload_n 3, 1) := by decide +kernel
theorem dX9_readsItem_135 : decode cX9_readsItem 135 = .ok (.iadd, 1) := by decide +kernel
theorem dX9_readsItem_136 : decode cX9_readsItem 136 = .ok (.iload 4, 2) := by decide +kernel
theorem dX9_readsItem_138 : decode cX9_readsItem 138 = .ok (.iastore, 1) := by decide +kernel
theorem dX9_readsItem_139 : decode cX9_readsItem 139 = .ok (.goto 33, 3) := by decide +kernel
theorem dX9_readsItem_142 : decode cX9_readsItem 142 = .ok (.aload_n 0, 1) := by decide +kernel
theorem dX9_readsItem_143 : decode cX9_readsItem 143 = .ok (.getfield 25, 3) := by decide +kernel
theorem dX9_readsItem_146 : decode cX9_readsItem 146 = .ok (.iconst 5, 1) := by decide +kernel
theorem dX9_readsItem_147 : decode cX9_readsItem 147 = .ok (.aload_n 0, 1) := by decide +kernel
theorem dX9_readsItem_148 : decode cX9_readsItem 148 = .ok (.getfield 13, 3) := by decide +kernel
theorem dX9_readsItem_151 : decode cX9_readsItem 151 = .ok (.iconst 3, 1) := by decide +kernel
theorem dX9_readsItem_152 : decode cX9_readsItem 152 = .ok (.iaload, 1) := by decide +kernel
theorem dX9_readsItem_153 : decode cX9_readsItem 153 = .ok (.iadd, 1) := by decide +kernel
theorem dX9_readsItem_154 : decode cX9_readsItem 154 = .ok (.aload_n 0, 1) := by decide +kernel
theorem dX9_readsItem_155 : decode cX9_readsItem 155 = .ok (.iconst 1, 1) := by decide +kernel
theorem dX9_readsItem_156 : decode cX9_readsItem 156 = .ok (.bipush 60, 2) := by decide +kernel
theorem dX9_readsItem_158 : decode cX9_readsItem 158 = .ok (.invokevirtual 118, 3) := by decide +kernel
theorem dX9_readsItem_161 : decode cX9_readsItem 161 = .ok (.iastore, 1) := by decide +kernel
theorem dX9_readsItem_162 : decode cX9_readsItem 162 = .ok (.aload_n 0, 1) := by decide +kernel
theorem dX9_readsItem_163 : decode cX9_readsItem 163 = .ok (.getfield 13, 3) := by decide +kernel
theorem dX9_readsItem_166 : decode cX9_readsItem 166 = .ok (.iconst 3, 1) := by decide +kernel
theorem dX9_readsItem_167 : decode cX9_readsItem 167 = .ok (.dup2, 1) := by decide +kernel
theorem dX9_readsItem_168 : decode cX9_readsItem 168 = .ok (.iaload, 1) := by decide +kernel
theorem dX9_readsItem_169 : decode cX9_readsItem 169 = .ok (.iconst 1, 1) := by decide +kernel
theorem dX9_readsItem_170 : decode cX9_readsItem 170 = .ok (.iadd, 1) := by decide +kernel
theorem dX9_readsItem_171 : decode cX9_readsItem 171 = .ok (.iastore, 1) := by decide +kernel
theorem dX9_readsItem_172 : decode cX9_readsItem 172 = .ok (.return_, 1) := by decide +kernel
theorem dX9_mayBegin_0 : decode cX9_mayBegin 0 = .ok (.aload_n 0, 1) := by decide +kernel
theorem dX9_mayBegin_1 : decode cX9_mayBegin 1 = .ok (.getfield 101, 3) := by decide +kernel
theorem dX9_mayBegin_4 : decode cX9_mayBegin 4 = .ok (.bipush 112, 2) := by decide +kernel
theorem dX9_mayBegin_6 : decode cX9_mayBegin 6 = .ok (.if_icmp .ne 21, 3) := by decide +kernel
theorem dX9_mayBegin_9 : decode cX9_mayBegin 9 = .ok (.aload_n 0, 1) := by decide +kernel
theorem dX9_mayBegin_10 : decode cX9_mayBegin 10 = .ok (.getfield 13, 3) := by decide +kernel
theorem dX9_mayBegin_13 : decode cX9_mayBegin 13 = .ok (.iconst 2, 1) := by decide +kernel
theorem dX9_mayBegin_14 : decode cX9_mayBegin 14 = .ok (.iaload, 1) := by decide +kernel
theorem dX9_mayBegin_15 : decode cX9_mayBegin 15 = .ok (.iconst 4, 1) := by decide +kernel
theorem dX9_mayBegin_16 : decode cX9_mayBegin 16 = .ok (.if_icmp .ge 7, 3) := by decide +kernel
theorem dX9_mayBegin_19 : decode cX9_mayBegin 19 = .ok (.iconst 1, 1) := by decide +kernel
theorem dX9_mayBegin_20 : decode cX9_mayBegin 20 = .ok (.goto 31, 3) := by decide +kernel
theorem dX9_mayBegin_23 : decode cX9_mayBegin 23 = .ok (.iconst 0, 1) := by decide +kernel
theorem dX9_mayBegin_24 : decode cX9_mayBegin 24 = .ok (.goto 27, 3) := by decide +kernel
theorem dX9_mayBegin_27 : decode cX9_mayBegin 27 = .ok (.aload_n 0, 1) := by decide +kernel
theorem dX9_mayBegin_28 : decode cX9_mayBegin 28 = .ok (.getfield 101, 3) := by decide +kernel
theorem dX9_mayBegin_31 : decode cX9_mayBegin 31 = .ok (.bipush 98, 2) := by decide +kernel
theorem dX9_mayBegin_33 : decode cX9_mayBegin 33 = .ok (.if_icmp .ne 13, 3) := by decide +kernel
theorem dX9_mayBegin_36 : decode cX9_mayBegin 36 = .ok (.aload_n 0, 1) := by decide +kernel
theorem dX9_mayBegin_37 : decode cX9_mayBegin 37 = .ok (.getfield 13, 3) := by decide +kernel
theorem dX9_mayBegin_40 : decode cX9_mayBegin 40 = .ok (.iconst 3, 1) := by decide +kernel
theorem dX9_mayBegin_41 : decode cX9_mayBegin 41 = .ok (.iaload, 1) := by decide +kernel
theorem dX9_mayBegin_42 : decode cX9_mayBegin 42 = .ok (.iconst 5, 1) := by decide +kernel
theorem dX9_mayBegin_43 : decode cX9_mayBegin 43 = .ok (.if_icmp .ge 7, 3) := by decide +kernel
theorem dX9_mayBegin_46 : decode cX9_mayBegin 46 = .ok (.iconst 1, 1) := by decide +kernel
theorem dX9_mayBegin_47 : decode cX9_mayBegin 47 = .ok (.goto 4, 3) := by decide +kernel
theorem dX9_mayBegin_50 : decode cX9_mayBegin 50 = .ok (.iconst 0, 1) := by decide +kernel
theorem dX9_mayBegin_51 : decode cX9_mayBegin 51 = .ok (.ireturn, 1) := by decide +kernel
theorem dX9_shop_0 : decode cX9_shop 0 = .ok (.aload_n 0, 1) := by decide +kernel
theorem dX9_shop_1 : decode cX9_shop 1 = .ok (.iconst 0, 1) := by decide +kernel
theorem dX9_shop_2 : decode cX9_shop 2 = .ok (.putfield 77, 3) := by decide +kernel
theorem dX9_shop_5 : decode cX9_shop 5 = .ok (.aload_n 0, 1) := by decide +kernel
theorem dX9_shop_6 : decode cX9_shop 6 = .ok (.iconst (-1), 1) := by decide +kernel
theorem dX9_shop_7 : decode cX9_shop 7 = .ok (.putfield 104, 3) := by decide +kernel
theorem dX9_shop_10 : decode cX9_shop 10 = .ok (.aload_n 0, 1) := by decide +kernel
theorem dX9_shop_11 : decode cX9_shop 11 = .ok (.iconst 0, 1) := by decide +kernel
theorem dX9_shop_12 : decode cX9_shop 12 = .ok (.putfield 88, 3) := by decide +kernel
theorem dX9_shop_15 : decode cX9_shop 15 = .ok (.aload_n 0, 1) := by decide +kernel
theorem dX9_shop_16 : decode cX9_shop 16 = .ok (.invokevirtual 71, 3) := by decide +kernel
theorem dX9_shop_19 : decode cX9_shop 19 = .ok (.iconst 0, 1) := by decide +kernel
theorem dX9_shop_20 : decode cX9_shop 20 = .ok (.istore_n 1, 1) := by decide +kernel
theorem dX9_shop_21 : decode cX9_shop 21 = .ok (.aload_n 0, 1) := by decide +kernel
theorem dX9_shop_22 : decode cX9_shop 22 = .ok (.invokevirtual 111, 3) := by decide +kernel
theorem dX9_shop_25 : decode cX9_shop 25 = .ok (.aload_n 0, 1) := by decide +kernel
theorem dX9_shop_26 : decode cX9_shop 26 = .ok (.invokevirtual 107, 3) := by decide +kernel
theorem dX9_shop_29 : decode cX9_shop 29 = .ok (.ifCond .eq 71, 3) := by decide +kernel
theorem dX9_shop_32 : decode cX9_shop 32 = .ok (.aload_n 0, 1) := by decide +kernel
theorem dX9_shop_33 : decode cX9_shop 33 = .ok (.getfield 98, 3) := by decide +kernel
theorem dX9_shop_36 : decode cX9_shop 36 = .ok (.ifCond .eq 64, 3) := by decide +kernel
theorem dX9_shop_39 : decode cX9_shop 39 = .ok (.aload_n 0, 1) := by decide +kernel
theorem dX9_shop_40 : decode cX9_shop 40 = .ok (.aload_n 0, 1) := by decide +kernel
theorem dX9_shop_41 : decode cX9_shop 41 = .ok (.getfield 98, 3) := by decide +kernel
theorem dX9_shop_44 : decode cX9_shop 44 = .ok (.iconst 1, 1) := by decide +kernel
theorem dX9_shop_45 : decode cX9_shop 45 = .ok (.if_icmp .ne 14, 3) := by decide +kernel
theorem dX9_shop_48 : decode cX9_shop 48 = .ok (.aload_n 0, 1) := by decide +kernel
theorem dX9_shop_49 : decode cX9_shop 49 = .ok (.invokevirtual 122, 3) := by decide +kernel
theorem dX9_shop_52 : decode cX9_shop 52 = .ok (.ifCond .eq 7, 3) := by decide +kernel
theorem dX9_shop_55 : decode cX9_shop 55 = .ok (.iconst 1, 1) := by decide +kernel
theorem dX9_shop_56 : decode cX9_shop 56 = .ok (.goto 4, 3) := by decide +kernel
theorem dX9_shop_59 : decode cX9_shop 59 = .ok (.iconst 0, 1) := by decide +kernel
theorem dX9_shop_60 : decode cX9_shop 60 = .ok (.invokevirtual 114, 3) := by decide +kernel
theorem dX9_shop_63 : decode cX9_shop 63 = .ok (.istore_n 2, 1) := by decide +kernel
theorem dX9_shop_64 : decode cX9_shop 64 = .ok (.aload_n 0, 1) := by decide +kernel
theorem dX9_shop_65 : decode cX9_shop 65 = .ok (.invokevirtual 107, 3) := by decide +kernel
theorem dX9_shop_68 : decode cX9_shop 68 = .ok (.ifCond .eq 8, 3) := by decide +kernel
theorem dX9_shop_71 : decode cX9_shop 71 = .ok (.aload_n 0, 1) := by decide +kernel
theorem dX9_shop_72 : decode cX9_shop 72 = .ok (.iload_n 2, 1) := by decide +kernel
theorem dX9_shop_73 : decode cX9_shop 73 = .ok (.invokevirtual 125, 3) := by decide +kernel
theorem dX9_shop_76 : decode cX9_shop 76 = .ok (.aload_n 0, 1) := by decide +kernel
theorem dX9_shop_77 : decode cX9_shop 77 = .ok (.aload_n 0, 1) := by decide +kernel
theorem dX9_shop_78 : decode cX9_shop 78 = .ok (.getfield 98, 3) := by decide +kernel
theorem dX9_shop_81 : decode cX9_shop 81 = .ok (.iconst 3, 1) := by decide +kernel
theorem dX9_shop_82 : decode cX9_shop 82 = .ok (.if_icmp .ne 7, 3) := by decide +kernel
theorem dX9_shop_85 : decode cX9_shop 85 = .ok (.iconst 1, 1) := by decide +kernel
theorem dX9_shop_86 : decode cX9_shop 86 = .ok (.goto 4, 3) := by decide +kernel
theorem dX9_shop_89 : decode cX9_shop 89 = .ok (.iconst 0, 1) := by decide +kernel
theorem dX9_shop_90 : decode cX9_shop 90 = .ok (.invokevirtual 114, 3) := by decide +kernel
theorem dX9_shop_93 : decode cX9_shop 93 = .ok (.pop, 1) := by decide +kernel
theorem dX9_shop_94 : decode cX9_shop 94 = .ok (.iinc 1 1, 3) := by decide +kernel
theorem dX9_shop_97 : decode cX9_shop 97 = .ok (.goto (-72), 3) := by decide +kernel
theorem dX9_shop_100 : decode cX9_shop 100 = .ok (.aload_n 0, 1) := by decide +kernel
theorem dX9_shop_101 : decode cX9_shop 101 = .ok (.invokevirtual 107, 3) := by decide +kernel
theorem dX9_shop_104 : decode cX9_shop 104 = .ok (.ifCond .ne 11, 3) := by decide +kernel
theorem dX9_shop_107 : decode cX9_shop 107 = .ok (.bipush (-10), 2) := by decide +kernel
theorem dX9_shop_109 : decode cX9_shop 109 = .ok (.aload_n 0, 1) := by decide +kernel
theorem dX9_shop_110 : decode cX9_shop 110 = .ok (.getfield 104, 3) := by decide +kernel
theorem dX9_shop_113 : decode cX9_shop 113 = .ok (.isub, 1) := by decide +kernel
theorem dX9_shop_114 : decode cX9_shop 114 = .ok (.ireturn, 1) := by decide +kernel
theorem dX9_shop_115 : decode cX9_shop 115 = .ok (.aload_n 0, 1) := by decide +kernel
theorem dX9_shop_116 : decode cX9_shop 116 = .ok (.invokevirtual 74, 3) := by decide +kernel
theorem dX9_shop_119 : decode cX9_shop 119 = .ok (.iload_n 1, 1) := by decide +kernel
theorem dX9_shop_120 : decode cX9_shop 120 = .ok (.ireturn, 1) := by decide +kernel
theorem dX9_settles_0 : decode cX9_settles 0 = .ok (.aload_n 0, 1) := by decide +kernel
theorem dX9_settles_1 : decode cX9_settles 1 = .ok (.getfield 13, 3) := by decide +kernel
theorem dX9_settles_4 : decode cX9_settles 4 = .ok (.iconst 0, 1) := by decide +kernel
theorem dX9_settles_5 : decode cX9_settles 5 = .ok (.aload_n 0, 1) := by decide +kernel
theorem dX9_settles_6 : decode cX9_settles 6 = .ok (.getfield 13, 3) := by decide +kernel
theorem dX9_settles_9 : decode cX9_settles 9 = .ok (.iconst 2, 1) := by decide +kernel
theorem dX9_settles_10 : decode cX9_settles 10 = .ok (.iaload, 1) := by decide +kernel
theorem dX9_settles_11 : decode cX9_settles 11 = .ok (.iastore, 1) := by decide +kernel
theorem dX9_settles_12 : decode cX9_settles 12 = .ok (.aload_n 0, 1) := by decide +kernel
theorem dX9_settles_13 : decode cX9_settles 13 = .ok (.getfield 13, 3) := by decide +kernel
theorem dX9_settles_16 : decode cX9_settles 16 = .ok (.iconst 1, 1) := by decide +kernel
theorem dX9_settles_17 : decode cX9_settles 17 = .ok (.aload_n 0, 1) := by decide +kernel
theorem dX9_settles_18 : decode cX9_settles 18 = .ok (.getfield 13, 3) := by decide +kernel
theorem dX9_settles_21 : decode cX9_settles 21 = .ok (.iconst 3, 1) := by decide +kernel
theorem dX9_settles_22 : decode cX9_settles 22 = .ok (.iaload, 1) := by decide +kernel
theorem dX9_settles_23 : decode cX9_settles 23 = .ok (.iastore, 1) := by decide +kernel
theorem dX9_settles_24 : decode cX9_settles 24 = .ok (.iconst 0, 1) := by decide +kernel
theorem dX9_settles_25 : decode cX9_settles 25 = .ok (.istore_n 1, 1) := by decide +kernel
theorem dX9_settles_26 : decode cX9_settles 26 = .ok (.iload_n 1, 1) := by decide +kernel
theorem dX9_settles_27 : decode cX9_settles 27 = .ok (.iconst 4, 1) := by decide +kernel
theorem dX9_settles_28 : decode cX9_settles 28 = .ok (.if_icmp .ge 23, 3) := by decide +kernel
theorem dX9_settles_31 : decode cX9_settles 31 = .ok (.aload_n 0, 1) := by decide +kernel
theorem dX9_settles_32 : decode cX9_settles 32 = .ok (.getfield 16, 3) := by decide +kernel
theorem dX9_settles_35 : decode cX9_settles 35 = .ok (.iload_n 1, 1) := by decide +kernel
theorem dX9_settles_36 : decode cX9_settles 36 = .ok (.aload_n 0, 1) := by decide +kernel
theorem dX9_settles_37 : decode cX9_settles 37 = .ok (.getfield 16, 3) := by decide +kernel
theorem dX9_settles_40 : decode cX9_settles 40 = .ok (.iconst 4, 1) := by decide +kernel
theorem dX9_settles_41 : decode cX9_settles 41 = .ok (.iload_n 1, 1) := by decide +kernel
theorem dX9_settles_42 : decode cX9_settles 42 = .ok (.iadd, 1) := by decide +kernel
theorem dX9_settles_43 : decode cX9_settles 43 = .ok (.iaload, 1) := by decide +kernel
theorem dX9_settles_44 : decode cX9_settles 44 = .ok (.iastore, 1) := by decide +kernel
theorem dX9_settles_45 : decode cX9_settles 45 = .ok (.iinc 1 1, 3) := by decide +kernel
theorem dX9_settles_48 : decode cX9_settles 48 = .ok (.goto (-22), 3) := by decide +kernel
theorem dX9_settles_51 : decode cX9_settles 51 = .ok (.iconst 0, 1) := by decide +kernel
theorem dX9_settles_52 : decode cX9_settles 52 = .ok (.istore_n 1, 1) := by decide +kernel
theorem dX9_settles_53 : decode cX9_settles 53 = .ok (.iload_n 1, 1) := by decide +kernel
theorem dX9_settles_54 : decode cX9_settles 54 = .ok (.iconst 5, 1) := by decide +kernel
theorem dX9_settles_55 : decode cX9_settles 55 = .ok (.if_icmp .ge 23, 3) := by decide +kernel
theorem dX9_settles_58 : decode cX9_settles 58 = .ok (.aload_n 0, 1) := by decide +kernel
theorem dX9_settles_59 : decode cX9_settles 59 = .ok (.getfield 25, 3) := by decide +kernel
theorem dX9_settles_62 : decode cX9_settles 62 = .ok (.iload_n 1, 1) := by decide +kernel
theorem dX9_settles_63 : decode cX9_settles 63 = .ok (.aload_n 0, 1) := by decide +kernel
theorem dX9_settles_64 : decode cX9_settles 64 = .ok (.getfield 25, 3) := by decide +kernel
theorem dX9_settles_67 : decode cX9_settles 67 = .ok (.iconst 5, 1) := by decide +kernel
theorem dX9_settles_68 : decode cX9_settles 68 = .ok (.iload_n 1, 1) := by decide +kernel
theorem dX9_settles_69 : decode cX9_settles 69 = .ok (.iadd, 1) := by decide +kernel
theorem dX9_settles_70 : decode cX9_settles 70 = .ok (.iaload, 1) := by decide +kernel
theorem dX9_settles_71 : decode cX9_settles 71 = .ok (.iastore, 1) := by decide +kernel
theorem dX9_settles_72 : decode cX9_settles 72 = .ok (.iinc 1 1, 3) := by decide +kernel
theorem dX9_settles_75 : decode cX9_settles 75 = .ok (.goto (-22), 3) := by decide +kernel
theorem dX9_settles_78 : decode cX9_settles 78 = .ok (.iconst 0, 1) := by decide +kernel
theorem dX9_settles_79 : decode cX9_settles 79 = .ok (.istore_n 1, 1) := by decide +kernel
theorem dX9_settles_80 : decode cX9_settles 80 = .ok (.iload_n 1, 1) := by decide +kernel
theorem dX9_settles_81 : decode cX9_settles 81 = .ok (.bipush 23, 2) := by decide +kernel
theorem dX9_settles_83 : decode cX9_settles 83 = .ok (.if_icmp .ge 16, 3) := by decide +kernel
theorem dX9_settles_86 : decode cX9_settles 86 = .ok (.aload_n 0, 1) := by decide +kernel
theorem dX9_settles_87 : decode cX9_settles 87 = .ok (.getfield 28, 3) := by decide +kernel
theorem dX9_settles_90 : decode cX9_settles 90 = .ok (.iload_n 1, 1) := by decide +kernel
theorem dX9_settles_91 : decode cX9_settles 91 = .ok (.iconst 0, 1) := by decide +kernel
theorem dX9_settles_92 : decode cX9_settles 92 = .ok (.iastore, 1) := by decide +kernel
theorem dX9_settles_93 : decode cX9_settles 93 = .ok (.iinc 1 1, 3) := by decide +kernel
theorem dX9_settles_96 : decode cX9_settles 96 = .ok (.goto (-16), 3) := by decide +kernel
theorem dX9_settles_99 : decode cX9_settles 99 = .ok (.iconst 0, 1) := by decide +kernel
theorem dX9_settles_100 : decode cX9_settles 100 = .ok (.istore_n 1, 1) := by decide +kernel
theorem dX9_settles_101 : decode cX9_settles 101 = .ok (.iload_n 1, 1) := by decide +kernel
theorem dX9_settles_102 : decode cX9_settles 102 = .ok (.bipush 16, 2) := by decide +kernel
theorem dX9_settles_104 : decode cX9_settles 104 = .ok (.if_icmp .ge 54, 3) := by decide +kernel
theorem dX9_settles_107 : decode cX9_settles 107 = .ok (.aload_n 0, 1) := by decide +kernel
theorem dX9_settles_108 : decode cX9_settles 108 = .ok (.getfield 22, 3) := by decide +kernel
theorem dX9_settles_111 : decode cX9_settles 111 = .ok (.iload_n 1, 1) := by decide +kernel
theorem dX9_settles_112 : decode cX9_settles 112 = .ok (.aload_n 0, 1) := by decide +kernel
theorem dX9_settles_113 : decode cX9_settles 113 = .ok (.getfield 22, 3) := by decide +kernel
theorem dX9_settles_116 : decode cX9_settles 116 = .ok (.bipush 16, 2) := by decide +kernel
theorem dX9_settles_118 : decode cX9_settles 118 = .ok (.iload_n 1, 1) := by decide +kernel
theorem dX9_settles_119 : decode cX9_settles 119 = .ok (.iadd, 1) := by decide +kernel
theorem dX9_settles_120 : decode cX9_settles 120 = .ok (.iaload, 1) := by decide +kernel
theorem dX9_settles_121 : decode cX9_settles 121 = .ok (.iastore, 1) := by decide +kernel
theorem dX9_settles_122 : decode cX9_settles 122 = .ok (.aload_n 0, 1) := by decide +kernel
theorem dX9_settles_123 : decode cX9_settles 123 = .ok (.getfield 28, 3) := by decide +kernel
theorem dX9_settles_126 : decode cX9_settles 126 = .ok (.iconst 1, 1) := by decide +kernel
theorem dX9_settles_127 : decode cX9_settles 127 = .ok (.iload_n 1, 1) := by decide +kernel
theorem dX9_settles_128 : decode cX9_settles 128 = .ok (.iadd, 1) := by decide +kernel
theorem dX9_settles_129 : decode cX9_settles 129 = .ok (.iload_n 1, 1) := by decide +kernel
theorem dX9_settles_130 : decode cX9_settles 130 = .ok (.iconst 4, 1) := by decide +kernel
theorem dX9_settles_131 : decode cX9_settles 131 = .ok (.aload_n 0, 1) := by decide +kernel
theorem dX9_settles_132 : decode cX9_settles 132 = .ok (.getfield 13, 3) := by decide +kernel
theorem dX9_settles_135 : decode cX9_settles 135 = .ok (.iconst 0, 1) := by decide +kernel
theorem dX9_settles_136 : decode cX9_settles 136 = .ok (.iaload, 1) := by decide +kernel
theorem dX9_settles_137 : decode cX9_settles 137 = .ok (.imul, 1) := by decide +kernel
theorem dX9_settles_138 : decode cX9_settles 138 = .ok (.if_icmp .ge 12, 3) := by decide +kernel
theorem dX9_settles_141 : decode cX9_settles 141 = .ok (.aload_n 0, 1) := by decide +kernel
theorem dX9_settles_142 : decode cX9_settles 142 = .ok (.getfield 19, 3) := by decide +kernel
theorem dX9_settles_145 : decode cX9_settles 145 = .ok (.iload_n 1, 1) := by decide +kernel
theorem dX9_settles_146 : decode cX9_settles 146 = .ok (.iaload, 1) := by decide +kernel
theorem dX9_settles_147 : decode cX9_settles 147 = .ok (.goto 4, 3) := by decide +kernel
theorem dX9_settles_150 : decode cX9_settles 150 = .ok (.iconst 0, 1) := by decide +kernel
theorem dX9_settles_151 : decode cX9_settles 151 = .ok (.iastore, 1) := by decide +kernel
theorem dX9_settles_152 : decode cX9_settles 152 = .ok (.iinc 1 1, 3) := by decide +kernel
theorem dX9_settles_155 : decode cX9_settles 155 = .ok (.goto (-54), 3) := by decide +kernel
theorem dX9_settles_158 : decode cX9_settles 158 = .ok (.aload_n 0, 1) := by decide +kernel
theorem dX9_settles_159 : decode cX9_settles 159 = .ok (.iconst 0, 1) := by decide +kernel
theorem dX9_settles_160 : decode cX9_settles 160 = .ok (.putfield 85, 3) := by decide +kernel
theorem dX9_settles_163 : decode cX9_settles 163 = .ok (.aload_n 0, 1) := by decide +kernel
theorem dX9_settles_164 : decode cX9_settles 164 = .ok (.iconst 0, 1) := by decide +kernel
theorem dX9_settles_165 : decode cX9_settles 165 = .ok (.putfield 129, 3) := by decide +kernel
theorem dX9_settles_168 : decode cX9_settles 168 = .ok (.aload_n 0, 1) := by decide +kernel
theorem dX9_settles_169 : decode cX9_settles 169 = .ok (.iconst 0, 1) := by decide +kernel
theorem dX9_settles_170 : decode cX9_settles 170 = .ok (.putfield 132, 3) := by decide +kernel
theorem dX9_settles_173 : decode cX9_settles 173 = .ok (.aload_n 0, 1) := by decide +kernel
theorem dX9_settles_174 : decode cX9_settles 174 = .ok (.iconst 0, 1) := by decide +kernel
theorem dX9_settles_175 : decode cX9_settles 175 = .ok (.putfield 135, 3) := by decide +kernel
theorem dX9_settles_178 : decode cX9_settles 178 = .ok (.aload_n 0, 1) := by decide +kernel
theorem dX9_settles_179 : decode cX9_settles 179 = .ok (.getfield 34, 3) := by decide +kernel
theorem dX9_settles_182 : decode cX9_settles 182 = .ok (.iconst 0, 1) := by decide +kernel
theorem dX9_settles_183 : decode cX9_settles 183 = .ok (.iconst 0, 1) := by decide +kernel
theorem dX9_settles_184 : decode cX9_settles 184 = .ok (.bastore, 1) := by decide +kernel
theorem dX9_settles_185 : decode cX9_settles 185 = .ok (.aload_n 0, 1) := by decide +kernel
theorem dX9_settles_186 : decode cX9_settles 186 = .ok (.getfield 34, 3) := by decide +kernel
theorem dX9_settles_189 : decode cX9_settles 189 = .ok (.iconst 1, 1) := by decide +kernel
theorem dX9_settles_190 : decode cX9_settles 190 = .ok (.iconst 0, 1) := by decide +kernel
theorem dX9_settles_191 : decode cX9_settles 191 = .ok (.bastore, 1) := by decide +kernel
theorem dX9_settles_192 : decode cX9_settles 192 = .ok (.aload_n 0, 1) := by decide +kernel
theorem dX9_settles_193 : decode cX9_settles 193 = .ok (.invokevirtual 138, 3) := by decide +kernel
theorem dX9_settles_196 : decode cX9_settles 196 = .ok (.aload_n 0, 1) := by decide +kernel
theorem dX9_settles_197 : decode cX9_settles 197 = .ok (.invokevirtual 140, 3) := by decide +kernel
theorem dX9_settles_200 : decode cX9_settles 200 = .ok (.return_, 1) := by decide +kernel
theorem dX9_isPerson_0 : decode cX9_isPerson 0 = .ok (.iload_n 1, 1) := by decide +kernel
theorem dX9_isPerson_1 : decode cX9_isPerson 1 = .ok (.iconst 0, 1) := by decide +kernel
theorem dX9_isPerson_2 : decode cX9_isPerson 2 = .ok (.aload_n 0, 1) := by decide +kernel
theorem dX9_isPerson_3 : decode cX9_isPerson 3 = .ok (.getfield 13, 3) := by decide +kernel
theorem dX9_isPerson_6 : decode cX9_isPerson 6 = .ok (.iconst 0, 1) := by decide +kernel
theorem dX9_isPerson_7 : decode cX9_isPerson 7 = .ok (.iaload, 1) := by decide +kernel
theorem dX9_isPerson_8 : decode cX9_isPerson 8 = .ok (.iconst 1, 1) := by decide +kernel
theorem dX9_isPerson_9 : decode cX9_isPerson 9 = .ok (.isub, 1) := by decide +kernel
theorem dX9_isPerson_10 : decode cX9_isPerson 10 = .ok (.invokestatic 81, 3) := by decide +kernel
theorem dX9_isPerson_13 : decode cX9_isPerson 13 = .ok (.ireturn, 1) := by decide +kernel
theorem dX9_isSort_0 : decode cX9_isSort 0 = .ok (.iload_n 0, 1) := by decide +kernel
theorem dX9_isSort_1 : decode cX9_isSort 1 = .ok (.iconst 0, 1) := by decide +kernel
theorem dX9_isSort_2 : decode cX9_isSort 2 = .ok (.iconst 3, 1) := by decide +kernel
theorem dX9_isSort_3 : decode cX9_isSort 3 = .ok (.invokestatic 81, 3) := by decide +kernel
theorem dX9_isSort_6 : decode cX9_isSort 6 = .ok (.ireturn, 1) := by decide +kernel
theorem dX9_isPair_0 : decode cX9_isPair 0 = .ok (.aload_n 0, 1) := by decide +kernel
theorem dX9_isPair_1 : decode cX9_isPair 1 = .ok (.iload_n 1, 1) := by decide +kernel
theorem dX9_isPair_2 : decode cX9_isPair 2 = .ok (.invokevirtual 143, 3) := by decide +kernel
theorem dX9_isPair_5 : decode cX9_isPair 5 = .ok (.ifCond .eq 20, 3) := by decide +kernel
theorem dX9_isPair_8 : decode cX9_isPair 8 = .ok (.aload_n 0, 1) := by decide +kernel
theorem dX9_isPair_9 : decode cX9_isPair 9 = .ok (.iload_n 2, 1) := by decide +kernel
theorem dX9_isPair_10 : decode cX9_isPair 10 = .ok (.invokevirtual 143, 3) := by decide +kernel
theorem dX9_isPair_13 : decode cX9_isPair 13 = .ok (.ifCond .eq 12, 3) := by decide +kernel
theorem dX9_isPair_16 : decode cX9_isPair 16 = .ok (.iload_n 1, 1) := by decide +kernel
theorem dX9_isPair_17 : decode cX9_isPair 17 = .ok (.iload_n 2, 1) := by decide +kernel
theorem dX9_isPair_18 : decode cX9_isPair 18 = .ok (.if_icmp .eq 7, 3) := by decide +kernel
theorem dX9_isPair_21 : decode cX9_isPair 21 = .ok (.iconst 1, 1) := by decide +kernel
theorem dX9_isPair_22 : decode cX9_isPair 22 = .ok (.goto 4, 3) := by decide +kernel
theorem dX9_isPair_25 : decode cX9_isPair 25 = .ok (.iconst 0, 1) := by decide +kernel
theorem dX9_isPair_26 : decode cX9_isPair 26 = .ok (.ireturn, 1) := by decide +kernel
theorem dX9_heaviness_0 : decode cX9_heaviness 0 = .ok (.iconst 0, 1) := by decide +kernel
theorem dX9_heaviness_1 : decode cX9_heaviness 1 = .ok (.istore_n 2, 1) := by decide +kernel
theorem dX9_heaviness_2 : decode cX9_heaviness 2 = .ok (.iconst 0, 1) := by decide +kernel
theorem dX9_heaviness_3 : decode cX9_heaviness 3 = .ok (.istore_n 3, 1) := by decide +kernel
theorem dX9_heaviness_4 : decode cX9_heaviness 4 = .ok (.iload_n 3, 1) := by decide +kernel
theorem dX9_heaviness_5 : decode cX9_heaviness 5 = .ok (.iconst 4, 1) := by decide +kernel
theorem dX9_heaviness_6 : decode cX9_heaviness 6 = .ok (.if_icmp .ge 31, 3) := by decide +kernel
theorem dX9_heaviness_9 : decode cX9_heaviness 9 = .ok (.iload_n 2, 1) := by decide +kernel
theorem dX9_heaviness_10 : decode cX9_heaviness 10 = .ok (.aload_n 0, 1) := by decide +kernel
theorem dX9_heaviness_11 : decode cX9_heaviness 11 = .ok (.getfield 16, 3) := by decide +kernel
theorem dX9_heaviness_14 : decode cX9_heaviness 14 = .ok (.iload_n 3, 1) := by decide +kernel
theorem dX9_heaviness_15 : decode cX9_heaviness 15 = .ok (.iaload, 1) := by decide +kernel
theorem dX9_heaviness_16 : decode cX9_heaviness 16 = .ok (.aload_n 0, 1) := by decide +kernel
theorem dX9_heaviness_17 : decode cX9_heaviness 17 = .ok (.getfield 28, 3) := by decide +kernel
theorem dX9_heaviness_20 : decode cX9_heaviness 20 = .ok (.iconst 1, 1) := by decide +kernel
theorem dX9_heaviness_21 : decode cX9_heaviness 21 = .ok (.iconst 4, 1) := by decide +kernel
theorem dX9_heaviness_22 : decode cX9_heaviness 22 = .ok (.iload_n 1, 1) := by decide +kernel
theorem dX9_heaviness_23 : decode cX9_heaviness 23 = .ok (.imul, 1) := by decide +kernel
theorem dX9_heaviness_24 : decode cX9_heaviness 24 = .ok (.iadd, 1) := by decide +kernel
theorem dX9_heaviness_25 : decode cX9_heaviness 25 = .ok (.iload_n 3, 1) := by decide +kernel
theorem dX9_heaviness_26 : decode cX9_heaviness 26 = .ok (.iadd, 1) := by decide +kernel
theorem dX9_heaviness_27 : decode cX9_heaviness 27 = .ok (.iaload, 1) := by decide +kernel
theorem dX9_heaviness_28 : decode cX9_heaviness 28 = .ok (.imul, 1) := by decide +kernel
theorem dX9_heaviness_29 : decode cX9_heaviness 29 = .ok (.iadd, 1) := by decide +kernel
theorem dX9_heaviness_30 : decode cX9_heaviness 30 = .ok (.istore_n 2, 1) := by decide +kernel
theorem dX9_heaviness_31 : decode cX9_heaviness 31 = .ok (.iinc 3 1, 3) := by decide +kernel
theorem dX9_heaviness_34 : decode cX9_heaviness 34 = .ok (.goto (-30), 3) := by decide +kernel
theorem dX9_heaviness_37 : decode cX9_heaviness 37 = .ok (.iload_n 2, 1) := by decide +kernel
theorem dX9_heaviness_38 : decode cX9_heaviness 38 = .ok (.ireturn, 1) := by decide +kernel
theorem dX9_holds_0 : decode cX9_holds 0 = .ok (.aload_n 0, 1) := by decide +kernel
theorem dX9_holds_1 : decode cX9_holds 1 = .ok (.iconst 0, 1) := by decide +kernel
theorem dX9_holds_2 : decode cX9_holds 2 = .ok (.putfield 77, 3) := by decide +kernel
theorem dX9_holds_5 : decode cX9_holds 5 = .ok (.aload_n 0, 1) := by decide +kernel
theorem dX9_holds_6 : decode cX9_holds 6 = .ok (.iload_n 1, 1) := by decide +kernel
theorem dX9_holds_7 : decode cX9_holds 7 = .ok (.invokevirtual 143, 3) := by decide +kernel
theorem dX9_holds_10 : decode cX9_holds 10 = .ok (.ifCond .eq 25, 3) := by decide +kernel
theorem dX9_holds_13 : decode cX9_holds 13 = .ok (.iload_n 2, 1) := by decide +kernel
theorem dX9_holds_14 : decode cX9_holds 14 = .ok (.invokestatic 147, 3) := by decide +kernel
theorem dX9_holds_17 : decode cX9_holds 17 = .ok (.ifCond .eq 18, 3) := by decide +kernel
theorem dX9_holds_20 : decode cX9_holds 20 = .ok (.aload_n 0, 1) := by decide +kernel
theorem dX9_holds_21 : decode cX9_holds 21 = .ok (.getfield 28, 3) := by decide +kernel
theorem dX9_holds_24 : decode cX9_holds 24 = .ok (.iconst 1, 1) := by decide +kernel
theorem dX9_holds_25 : decode cX9_holds 25 = .ok (.iconst 4, 1) := by decide +kernel
theorem dX9_holds_26 : decode cX9_holds 26 = .ok (.iload_n 1, 1) := by decide +kernel
theorem dX9_holds_27 : decode cX9_holds 27 = .ok (.imul, 1) := by decide +kernel
theorem dX9_holds_28 : decode cX9_holds 28 = .ok (.iadd, 1) := by decide +kernel
theorem dX9_holds_29 : decode cX9_holds 29 = .ok (.iload_n 2, 1) := by decide +kernel
theorem dX9_holds_30 : decode cX9_holds 30 = .ok (.iadd, 1) := by decide +kernel
theorem dX9_holds_31 : decode cX9_holds 31 = .ok (.iaload, 1) := by decide +kernel
theorem dX9_holds_32 : decode cX9_holds 32 = .ok (.goto 4, 3) := by decide +kernel
theorem dX9_holds_35 : decode cX9_holds 35 = .ok (.iconst (-1), 1) := by decide +kernel
theorem dX9_holds_36 : decode cX9_holds 36 = .ok (.ireturn, 1) := by decide +kernel
theorem dX9_grows_0 : decode cX9_grows 0 = .ok (.aload_n 0, 1) := by decide +kernel
theorem dX9_grows_1 : decode cX9_grows 1 = .ok (.iconst 0, 1) := by decide +kernel
theorem dX9_grows_2 : decode cX9_grows 2 = .ok (.putfield 77, 3) := by decide +kernel
theorem dX9_grows_5 : decode cX9_grows 5 = .ok (.aload_n 0, 1) := by decide +kernel
theorem dX9_grows_6 : decode cX9_grows 6 = .ok (.iload_n 1, 1) := by decide +kernel
theorem dX9_grows_7 : decode cX9_grows 7 = .ok (.invokevirtual 143, 3) := by decide +kernel
theorem dX9_grows_10 : decode cX9_grows 10 = .ok (.ifCond .eq 23, 3) := by decide +kernel
theorem dX9_grows_13 : decode cX9_grows 13 = .ok (.iload_n 2, 1) := by decide +kernel
theorem dX9_grows_14 : decode cX9_grows 14 = .ok (.invokestatic 147, 3) := by decide +kernel
theorem dX9_grows_17 : decode cX9_grows 17 = .ok (.ifCond .eq 16, 3) := by decide +kernel
theorem dX9_grows_20 : decode cX9_grows 20 = .ok (.aload_n 0, 1) := by decide +kernel
theorem dX9_grows_21 : decode cX9_grows 21 = .ok (.getfield 22, 3) := by decide +kernel
theorem dX9_grows_24 : decode cX9_grows 24 = .ok (.iconst 4, 1) := by decide +kernel
theorem dX9_grows_25 : decode cX9_grows 25 = .ok (.iload_n 1, 1) := by decide +kernel
theorem dX9_grows_26 : decode cX9_grows 26 = .ok (.imul, 1) := by decide +kernel
theorem dX9_grows_27 : decode cX9_grows 27 = .ok (.iload_n 2, 1) := by decide +kernel
theorem dX9_grows_28 : decode cX9_grows 28 = .ok (.iadd, 1) := by decide +kernel
theorem dX9_grows_29 : decode cX9_grows 29 = .ok (.iaload, 1) := by decide +kernel
theorem dX9_grows_30 : decode cX9_grows 30 = .ok (.goto 4, 3) := by decide +kernel
theorem dX9_grows_33 : decode cX9_grows 33 = .ok (.iconst (-1), 1) := by decide +kernel
theorem dX9_grows_34 : decode cX9_grows 34 = .ok (.ireturn, 1) := by decide +kernel
theorem dX9_weight_0 : decode cX9_weight 0 = .ok (.aload_n 0, 1) := by decide +kernel
theorem dX9_weight_1 : decode cX9_weight 1 = .ok (.iconst 0, 1) := by decide +kernel
theorem dX9_weight_2 : decode cX9_weight 2 = .ok (.putfield 77, 3) := by decide +kernel
theorem dX9_weight_5 : decode cX9_weight 5 = .ok (.iload_n 1, 1) := by decide +kernel
theorem dX9_weight_6 : decode cX9_weight 6 = .ok (.iconst 0, 1) := by decide +kernel
theorem dX9_weight_7 : decode cX9_weight 7 = .ok (.bipush 8, 2) := by decide +kernel
theorem dX9_weight_9 : decode cX9_weight 9 = .ok (.invokestatic 81, 3) := by decide +kernel
theorem dX9_weight_12 : decode cX9_weight 12 = .ok (.ifCond .ne 5, 3) := by decide +kernel
theorem dX9_weight_15 : decode cX9_weight 15 = .ok (.iconst (-1), 1) := by decide +kernel
theorem dX9_weight_16 : decode cX9_weight 16 = .ok (.ireturn, 1) := by decide +kernel
theorem dX9_weight_17 : decode cX9_weight 17 = .ok (.iload_n 1, 1) := by decide +kernel
theorem dX9_weight_18 : decode cX9_weight 18 = .ok (.iconst 4, 1) := by decide +kernel
theorem dX9_weight_19 : decode cX9_weight 19 = .ok (.if_icmp .ge 12, 3) := by decide +kernel
theorem dX9_weight_22 : decode cX9_weight 22 = .ok (.aload_n 0, 1) := by decide +kernel
theorem dX9_weight_23 : decode cX9_weight 23 = .ok (.getfield 16, 3) := by decide +kernel
theorem dX9_weight_26 : decode cX9_weight 26 = .ok (.iload_n 1, 1) := by decide +kernel
theorem dX9_weight_27 : decode cX9_weight 27 = .ok (.iaload, 1) := by decide +kernel
theorem dX9_weight_28 : decode cX9_weight 28 = .ok (.goto 28, 3) := by decide +kernel
theorem dX9_weight_31 : decode cX9_weight 31 = .ok (.iload_n 1, 1) := by decide +kernel
theorem dX9_weight_32 : decode cX9_weight 32 = .ok (.iconst 4, 1) := by decide +kernel
theorem dX9_weight_33 : decode cX9_weight 33 = .ok (.isub, 1) := by decide +kernel
theorem dX9_weight_34 : decode cX9_weight 34 = .ok (.aload_n 0, 1) := by decide +kernel
theorem dX9_weight_35 : decode cX9_weight 35 = .ok (.getfield 13, 3) := by decide +kernel
theorem dX9_weight_38 : decode cX9_weight 38 = .ok (.iconst 1, 1) := by decide +kernel
theorem dX9_weight_39 : decode cX9_weight 39 = .ok (.iaload, 1) := by decide +kernel
theorem dX9_weight_40 : decode cX9_weight 40 = .ok (.if_icmp .ge 14, 3) := by decide +kernel
theorem dX9_weight_43 : decode cX9_weight 43 = .ok (.aload_n 0, 1) := by decide +kernel
theorem dX9_weight_44 : decode cX9_weight 44 = .ok (.getfield 25, 3) := by decide +kernel
theorem dX9_weight_47 : decode cX9_weight 47 = .ok (.iload_n 1, 1) := by decide +kernel
theorem dX9_weight_48 : decode cX9_weight 48 = .ok (.iconst 4, 1) := by decide +kernel
theorem dX9_weight_49 : decode cX9_weight 49 = .ok (.isub, 1) := by decide +kernel
theorem dX9_weight_50 : decode cX9_weight 50 = .ok (.iaload, 1) := by decide +kernel
theorem dX9_weight_51 : decode cX9_weight 51 = .ok (.goto 5, 3) := by decide +kernel
theorem dX9_weight_54 : decode cX9_weight 54 = .ok (.bipush (-9), 2) := by decide +kernel
theorem dX9_weight_56 : decode cX9_weight 56 = .ok (.ireturn, 1) := by decide +kernel
theorem dX9_heavy_0 : decode cX9_heavy 0 = .ok (.aload_n 0, 1) := by decide +kernel
theorem dX9_heavy_1 : decode cX9_heavy 1 = .ok (.iconst 0, 1) := by decide +kernel
theorem dX9_heavy_2 : decode cX9_heavy 2 = .ok (.putfield 77, 3) := by decide +kernel
theorem dX9_heavy_5 : decode cX9_heavy 5 = .ok (.aload_n 0, 1) := by decide +kernel
theorem dX9_heavy_6 : decode cX9_heavy 6 = .ok (.iload_n 1, 1) := by decide +kernel
theorem dX9_heavy_7 : decode cX9_heavy 7 = .ok (.invokevirtual 143, 3) := by decide +kernel
theorem dX9_heavy_10 : decode cX9_heavy 10 = .ok (.ifCond .eq 11, 3) := by decide +kernel
theorem dX9_heavy_13 : decode cX9_heavy 13 = .ok (.aload_n 0, 1) := by decide +kernel
theorem dX9_heavy_14 : decode cX9_heavy 14 = .ok (.iload_n 1, 1) := by decide +kernel
theorem dX9_heavy_15 : decode cX9_heavy 15 = .ok (.invokevirtual 150, 3) := by decide +kernel
theorem dX9_heavy_18 : decode cX9_heavy 18 = .ok (.goto 4, 3) := by decide +kernel
theorem dX9_heavy_21 : decode cX9_heavy 21 = .ok (.iconst (-1), 1) := by decide +kernel
theorem dX9_heavy_22 : decode cX9_heavy 22 = .ok (.ireturn, 1) := by decide +kernel
theorem dX9_pairOf_0 : decode cX9_pairOf 0 = .ok (.iload_n 0, 1) := by decide +kernel
theorem dX9_pairOf_1 : decode cX9_pairOf 1 = .ok (.iload_n 1, 1) := by decide +kernel
theorem dX9_pairOf_2 : decode cX9_pairOf 2 = .ok (.if_icmp .ge 7, 3) := by decide +kernel
theorem dX9_pairOf_5 : decode cX9_pairOf 5 = .ok (.iload_n 0, 1) := by decide +kernel
theorem dX9_pairOf_6 : decode cX9_pairOf 6 = .ok (.goto 4, 3) := by decide +kernel
theorem dX9_pairOf_9 : decode cX9_pairOf 9 = .ok (.iload_n 1, 1) := by decide +kernel
theorem dX9_pairOf_10 : decode cX9_pairOf 10 = .ok (.istore_n 2, 1) := by decide +kernel
theorem dX9_pairOf_11 : decode cX9_pairOf 11 = .ok (.iload_n 0, 1) := by decide +kernel
theorem dX9_pairOf_12 : decode cX9_pairOf 12 = .ok (.iload_n 1, 1) := by decide +kernel
theorem dX9_pairOf_13 : decode cX9_pairOf 13 = .ok (.if_icmp .ge 7, 3) := by decide +kernel
theorem dX9_pairOf_16 : decode cX9_pairOf 16 = .ok (.iload_n 1, 1) := by decide +kernel
theorem dX9_pairOf_17 : decode cX9_pairOf 17 = .ok (.goto 4, 3) := by decide +kernel
theorem dX9_pairOf_20 : decode cX9_pairOf 20 = .ok (.iload_n 0, 1) := by decide +kernel
theorem dX9_pairOf_21 : decode cX9_pairOf 21 = .ok (.istore_n 3, 1) := by decide +kernel
theorem dX9_pairOf_22 : decode cX9_pairOf 22 = .ok (.iload_n 2, 1) := by decide +kernel
theorem dX9_pairOf_23 : decode cX9_pairOf 23 = .ok (.ifCond .ne 9, 3) := by decide +kernel
theorem dX9_pairOf_26 : decode cX9_pairOf 26 = .ok (.iload_n 3, 1) := by decide +kernel
theorem dX9_pairOf_27 : decode cX9_pairOf 27 = .ok (.iconst 1, 1) := by decide +kernel
theorem dX9_pairOf_28 : decode cX9_pairOf 28 = .ok (.isub, 1) := by decide +kernel
theorem dX9_pairOf_29 : decode cX9_pairOf 29 = .ok (.goto 6, 3) := by decide +kernel
theorem dX9_pairOf_32 : decode cX9_pairOf 32 = .ok (.iload_n 2, 1) := by decide +kernel
theorem dX9_pairOf_33 : decode cX9_pairOf 33 = .ok (.iload_n 3, 1) := by decide +kernel
theorem dX9_pairOf_34 : decode cX9_pairOf 34 = .ok (.iadd, 1) := by decide +kernel
theorem dX9_pairOf_35 : decode cX9_pairOf 35 = .ok (.ireturn, 1) := by decide +kernel
theorem dX9_lowerOf_0 : decode cX9_lowerOf 0 = .ok (.iload_n 0, 1) := by decide +kernel
theorem dX9_lowerOf_1 : decode cX9_lowerOf 1 = .ok (.iconst 3, 1) := by decide +kernel
theorem dX9_lowerOf_2 : decode cX9_lowerOf 2 = .ok (.if_icmp .ge 7, 3) := by decide +kernel
theorem dX9_lowerOf_5 : decode cX9_lowerOf 5 = .ok (.iconst 0, 1) := by decide +kernel
theorem dX9_lowerOf_6 : decode cX9_lowerOf 6 = .ok (.goto 13, 3) := by decide +kernel
theorem dX9_lowerOf_9 : decode cX9_lowerOf 9 = .ok (.iload_n 0, 1) := by decide +kernel
theorem dX9_lowerOf_10 : decode cX9_lowerOf 10 = .ok (.iconst 5, 1) := by decide +kernel
theorem dX9_lowerOf_11 : decode cX9_lowerOf 11 = .ok (.if_icmp .ge 7, 3) := by decide +kernel
theorem dX9_lowerOf_14 : decode cX9_lowerOf 14 = .ok (.iconst 1, 1) := by decide +kernel
theorem dX9_lowerOf_15 : decode cX9_lowerOf 15 = .ok (.goto 4, 3) := by decide +kernel
theorem dX9_lowerOf_18 : decode cX9_lowerOf 18 = .ok (.iconst 2, 1) := by decide +kernel
theorem dX9_lowerOf_19 : decode cX9_lowerOf 19 = .ok (.ireturn, 1) := by decide +kernel
theorem dX9_upperOf_0 : decode cX9_upperOf 0 = .ok (.iload_n 0, 1) := by decide +kernel
theorem dX9_upperOf_1 : decode cX9_upperOf 1 = .ok (.iconst 3, 1) := by decide +kernel
theorem dX9_upperOf_2 : decode cX9_upperOf 2 = .ok (.if_icmp .ge 9, 3) := by decide +kernel
theorem dX9_upperOf_5 : decode cX9_upperOf 5 = .ok (.iload_n 0, 1) := by decide +kernel
theorem dX9_upperOf_6 : decode cX9_upperOf 6 = .ok (.iconst 1, 1) := by decide +kernel
theorem dX9_upperOf_7 : decode cX9_upperOf 7 = .ok (.iadd, 1) := by decide +kernel
theorem dX9_upperOf_8 : decode cX9_upperOf 8 = .ok (.goto 15, 3) := by decide +kernel
theorem dX9_upperOf_11 : decode cX9_upperOf 11 = .ok (.iload_n 0, 1) := by decide +kernel
theorem dX9_upperOf_12 : decode cX9_upperOf 12 = .ok (.iconst 5, 1) := by decide +kernel
theorem dX9_upperOf_13 : decode cX9_upperOf 13 = .ok (.if_icmp .ge 9, 3) := by decide +kernel
theorem dX9_upperOf_16 : decode cX9_upperOf 16 = .ok (.iload_n 0, 1) := by decide +kernel
theorem dX9_upperOf_17 : decode cX9_upperOf 17 = .ok (.iconst 1, 1) := by decide +kernel
theorem dX9_upperOf_18 : decode cX9_upperOf 18 = .ok (.isub, 1) := by decide +kernel
theorem dX9_upperOf_19 : decode cX9_upperOf 19 = .ok (.goto 4, 3) := by decide +kernel
theorem dX9_upperOf_22 : decode cX9_upperOf 22 = .ok (.iconst 3, 1) := by decide +kernel
theorem dX9_upperOf_23 : decode cX9_upperOf 23 = .ok (.ireturn, 1) := by decide +kernel
theorem dX9_isPairNumber_0 : decode cX9_isPairNumber 0 = .ok (.iload_n 1, 1) := by decide +kernel
theorem dX9_isPairNumber_1 : decode cX9_isPairNumber 1 = .ok (.invokestatic 153, 3) := by decide +kernel
theorem dX9_isPairNumber_4 : decode cX9_isPairNumber 4 = .ok (.aload_n 0, 1) := by decide +kernel
theorem dX9_isPairNumber_5 : decode cX9_isPairNumber 5 = .ok (.getfield 13, 3) := by decide +kernel
theorem dX9_isPairNumber_8 : decode cX9_isPairNumber 8 = .ok (.iconst 0, 1) := by decide +kernel
theorem dX9_isPairNumber_9 : decode cX9_isPairNumber 9 = .ok (.iaload, 1) := by decide +kernel
theorem dX9_isPairNumber_10 : decode cX9_isPairNumber 10 = .ok (.if_icmp .ge 7, 3) := by decide +kernel
theorem dX9_isPairNumber_13 : decode cX9_isPairNumber 13 = .ok (.iconst 1, 1) := by decide +kernel
theorem dX9_isPairNumber_14 : decode cX9_isPairNumber 14 = .ok (.goto 4, 3) := by decide +kernel
theorem dX9_isPairNumber_17 : decode cX9_isPairNumber 17 = .ok (.iconst 0, 1) := by decide +kernel
theorem dX9_isPairNumber_18 : decode cX9_isPairNumber 18 = .ok (.ireturn, 1) := by decide +kernel
theorem dX9_turned_0 : decode cX9_turned 0 = .ok (.iload_n 0, 1) := by decide +kernel
theorem dX9_turned_1 : decode cX9_turned 1 = .ok (.ifCond .ne 7, 3) := by decide +kernel
theorem dX9_turned_4 : decode cX9_turned 4 = .ok (.iconst 0, 1) := by decide +kernel
theorem dX9_turned_5 : decode cX9_turned 5 = .ok (.goto 6, 3) := by decide +kernel
theorem dX9_turned_8 : decode cX9_turned 8 = .ok (.iconst 3, 1) := by decide +kernel
theorem dX9_turned_9 : decode cX9_turned 9 = .ok (.iload_n 0, 1) := by decide +kernel
theorem dX9_turned_10 : decode cX9_turned 10 = .ok (.isub, 1) := by decide +kernel
theorem dX9_turned_11 : decode cX9_turned 11 = .ok (.ireturn, 1) := by decide +kernel
theorem dX9_known_0 : decode cX9_known 0 = .ok (.aload_n 0, 1) := by decide +kernel
theorem dX9_known_1 : decode cX9_known 1 = .ok (.iconst 0, 1) := by decide +kernel
theorem dX9_known_2 : decode cX9_known 2 = .ok (.putfield 77, 3) := by decide +kernel
theorem dX9_known_5 : decode cX9_known 5 = .ok (.aload_n 0, 1) := by decide +kernel
theorem dX9_known_6 : decode cX9_known 6 = .ok (.iload_n 1, 1) := by decide +kernel
theorem dX9_known_7 : decode cX9_known 7 = .ok (.iload_n 2, 1) := by decide +kernel
theorem dX9_known_8 : decode cX9_known 8 = .ok (.invokevirtual 156, 3) := by decide +kernel
theorem dX9_known_11 : decode cX9_known 11 = .ok (.ifCond .ne 5, 3) := by decide +kernel
theorem dX9_known_14 : decode cX9_known 14 = .ok (.iconst (-1), 1) := by decide +kernel
theorem dX9_known_15 : decode cX9_known 15 = .ok (.ireturn, 1) := by decide +kernel
theorem dX9_known_16 : decode cX9_known 16 = .ok (.aload_n 0, 1) := by decide +kernel
theorem dX9_known_17 : decode cX9_known 17 = .ok (.getfield 28, 3) := by decide +kernel
theorem dX9_known_20 : decode cX9_known 20 = .ok (.bipush 17, 2) := by decide +kernel
theorem dX9_known_22 : decode cX9_known 22 = .ok (.iload_n 1, 1) := by decide +kernel
theorem dX9_known_23 : decode cX9_known 23 = .ok (.iload_n 2, 1) := by decide +kernel
theorem dX9_known_24 : decode cX9_known 24 = .ok (.invokestatic 160, 3) := by decide +kernel
theorem dX9_known_27 : decode cX9_known 27 = .ok (.iadd, 1) := by decide +kernel
theorem dX9_known_28 : decode cX9_known 28 = .ok (.iaload, 1) := by decide +kernel
theorem dX9_known_29 : decode cX9_known 29 = .ok (.iconst 1, 1) := by decide +kernel
theorem dX9_known_30 : decode cX9_known 30 = .ok (.isub, 1) := by decide +kernel
theorem dX9_known_31 : decode cX9_known 31 = .ok (.istore_n 3, 1) := by decide +kernel
theorem dX9_known_32 : decode cX9_known 32 = .ok (.iload_n 3, 1) := by decide +kernel
theorem dX9_known_33 : decode cX9_known 33 = .ok (.ifCond .ge 8, 3) := by decide +kernel
theorem dX9_known_36 : decode cX9_known 36 = .ok (.bipush (-9), 2) := by decide +kernel
theorem dX9_known_38 : decode cX9_known 38 = .ok (.goto 16, 3) := by decide +kernel
theorem dX9_known_41 : decode cX9_known 41 = .ok (.iload_n 1, 1) := by decide +kernel
theorem dX9_known_42 : decode cX9_known 42 = .ok (.iload_n 2, 1) := by decide +kernel
theorem dX9_known_43 : decode cX9_known 43 = .ok (.if_icmp .ge 7, 3) := by decide +kernel
theorem dX9_known_46 : decode cX9_known 46 = .ok (.iload_n 3, 1) := by decide +kernel
theorem dX9_known_47 : decode cX9_known 47 = .ok (.goto 7, 3) := by decide +kernel
theorem dX9_known_50 : decode cX9_known 50 = .ok (.iload_n 3, 1) := by decide +kernel
theorem dX9_known_51 : decode cX9_known 51 = .ok (.invokestatic 163, 3) := by decide +kernel
theorem dX9_known_54 : decode cX9_known 54 = .ok (.ireturn, 1) := by decide +kernel
theorem dX9_orders_0 : decode cX9_orders 0 = .ok (.aload_n 0, 1) := by decide +kernel
theorem dX9_orders_1 : decode cX9_orders 1 = .ok (.iconst 0, 1) := by decide +kernel
theorem dX9_orders_2 : decode cX9_orders 2 = .ok (.putfield 166, 3) := by decide +kernel
theorem dX9_orders_5 : decode cX9_orders 5 = .ok (.aload_n 0, 1) := by decide +kernel
theorem dX9_orders_6 : decode cX9_orders 6 = .ok (.getfield 13, 3) := by decide +kernel
theorem dX9_orders_9 : decode cX9_orders 9 = .ok (.iconst 0, 1) := by decide +kernel
theorem dX9_orders_10 : decode cX9_orders 10 = .ok (.iaload, 1) := by decide +kernel
theorem dX9_orders_11 : decode cX9_orders 11 = .ok (.istore_n 1, 1) := by decide +kernel
theorem dX9_orders_12 : decode cX9_orders 12 = .ok (.iconst 0, 1) := by decide +kernel
theorem dX9_orders_13 : decode cX9_orders 13 = .ok (.istore_n 2, 1) := by decide +kernel
theorem dX9_orders_14 : decode cX9_orders 14 = .ok (.iload_n 2, 1) := by decide +kernel
theorem dX9_orders_15 : decode cX9_orders 15 = .ok (.sipush 256, 3) := by decide +kernel
theorem dX9_orders_18 : decode cX9_orders 18 = .ok (.if_icmp .ge 204, 3) := by decide +kernel
theorem dX9_orders_21 : decode cX9_orders 21 = .ok (.iconst 0, 1) := by decide +kernel
theorem dX9_orders_22 : decode cX9_orders 22 = .ok (.istore_n 3, 1) := by decide +kernel
theorem dX9_orders_23 : decode cX9_orders 23 = .ok (.iconst 0, 1) := by decide +kernel
theorem dX9_orders_24 : decode cX9_orders 24 = .ok (.istore 4, 2) := by decide +kernel
theorem dX9_orders_26 : decode cX9_orders 26 = .ok (.iconst 0, 1) := by decide +kernel
theorem dX9_orders_27 : decode cX9_orders 27 = .ok (.istore 5, 2) := by decide +kernel
theorem dX9_orders_29 : decode cX9_orders 29 = .ok (.iload 5, 2) := by decide +kernel
theorem dX9_orders_31 : decode cX9_orders 31 = .ok (.iconst 4, 1) := by decide +kernel
theorem dX9_orders_32 : decode cX9_orders 32 = .ok (.if_icmp .ge 55, 3) := by decide +kernel
theorem dX9_orders_35 : decode cX9_orders 35 = .ok (.iload_n 3, 1) := by decide +kernel
theorem dX9_orders_36 : decode cX9_orders 36 = .ok (.iload 5, 2) := by decide +kernel
theorem dX9_orders_38 : decode cX9_orders 38 = .ok (.iload_n 1, 1) := by decide +kernel
theorem dX9_orders_39 : decode cX9_orders 39 = .ok (.if_icmp .ge 16, 3) := by decide +kernel
theorem dX9_orders_42 : decode cX9_orders 42 = .ok (.iconst 1, 1) := by decide +kernel
theorem dX9_orders_43 : decode cX9_orders 43 = .ok (.iload_n 2, 1) := by decide +kernel
theorem dX9_orders_44 : decode cX9_orders 44 = .ok (.iconst 2, 1) := by decide +kernel
theorem dX9_orders_45 : decode cX9_orders 45 = .ok (.iload 5, 2) := by decide +kernel
theorem dX9_orders_47 : decode cX9_orders 47 = .ok (.imul, 1) := by decide +kernel
theorem dX9_orders_48 : decode cX9_orders 48 = .ok (.ishr, 1) := by decide +kernel
theorem dX9_orders_49 : decode cX9_orders 49 = .ok (.iconst 3, 1) := by decide +kernel
theorem dX9_orders_50 : decode cX9_orders 50 = .ok (.iand, 1) := by decide +kernel
theorem dX9_orders_51 : decode cX9_orders 51 = .ok (.ishl, 1) := by decide +kernel
theorem dX9_orders_52 : decode cX9_orders 52 = .ok (.goto 4, 3) := by decide +kernel
theorem dX9_orders_55 : decode cX9_orders 55 = .ok (.iconst 0, 1) := by decide +kernel
theorem dX9_orders_56 : decode cX9_orders 56 = .ok (.ior, 1) := by decide +kernel
theorem dX9_orders_57 : decode cX9_orders 57 = .ok (.istore_n 3, 1) := by decide +kernel
theorem dX9_orders_58 : decode cX9_orders 58 = .ok (.iload 4, 2) := by decide +kernel
theorem dX9_orders_60 : decode cX9_orders 60 = .ok (.iload 5, 2) := by decide +kernel
theorem dX9_orders_62 : decode cX9_orders 62 = .ok (.iload_n 1, 1) := by decide +kernel
theorem dX9_orders_63 : decode cX9_orders 63 = .ok (.if_icmp .ge 7, 3) := by decide +kernel
theorem dX9_orders_66 : decode cX9_orders 66 = .ok (.iconst 0, 1) := by decide +kernel
theorem dX9_orders_67 : decode cX9_orders 67 = .ok (.goto 11, 3) := by decide +kernel
theorem dX9_orders_70 : decode cX9_orders 70 = .ok (.iload_n 2, 1) := by decide +kernel
theorem dX9_orders_71 : decode cX9_orders 71 = .ok (.iconst 2, 1) := by decide +kernel
theorem dX9_orders_72 : decode cX9_orders 72 = .ok (.iload 5, 2) := by decide +kernel
theorem dX9_orders_74 : decode cX9_orders 74 = .ok (.imul, 1) := by decide +kernel
theorem dX9_orders_75 : decode cX9_orders 75 = .ok (.ishr, 1) := by decide +kernel
theorem dX9_orders_76 : decode cX9_orders 76 = .ok (.iconst 3, 1) := by decide +kernel
theorem dX9_orders_77 : decode cX9_orders 77 = .ok (.iand, 1) := by decide +kernel
theorem dX9_orders_78 : decode cX9_orders 78 = .ok (.ior, 1) := by decide +kernel
theorem dX9_orders_79 : decode cX9_orders 79 = .ok (.istore 4, 2) := by decide +kernel
theorem dX9_orders_81 : decode cX9_orders 81 = .ok (.iinc 5 1, 3) := by decide +kernel
theorem dX9_orders_84 : decode cX9_orders 84 = .ok (.goto (-55), 3) := by decide +kernel
theorem dX9_orders_87 : decode cX9_orders 87 = .ok (.iload 4, 2) := by decide +kernel
theorem dX9_orders_89 : decode cX9_orders 89 = .ok (.ifCond .ne 127, 3) := by decide +kernel
theorem dX9_orders_92 : decode cX9_orders 92 = .ok (.iload_n 3, 1) := by decide +kernel
theorem dX9_orders_93 : decode cX9_orders 93 = .ok (.iload_n 3, 1) := by decide +kernel
theorem dX9_orders_94 : decode cX9_orders 94 = .ok (.iconst 1, 1) := by decide +kernel
theorem dX9_orders_95 : decode cX9_orders 95 = .ok (.iadd, 1) := by decide +kernel
theorem dX9_orders_96 : decode cX9_orders 96 = .ok (.iand, 1) := by decide +kernel
theorem dX9_orders_97 : decode cX9_orders 97 = .ok (.ifCond .ne 119, 3) := by decide +kernel
theorem dX9_orders_100 : decode cX9_orders 100 = .ok (.iconst 0, 1) := by decide +kernel
theorem dX9_orders_101 : decode cX9_orders 101 = .ok (.istore 5, 2) := by decide +kernel
theorem dX9_orders_103 : decode cX9_orders 103 = .ok (.iconst 0, 1) := by decide +kernel
theorem dX9_orders_104 : decode cX9_orders 104 = .ok (.istore 6, 2) := by decide +kernel
theorem dX9_orders_106 : decode cX9_orders 106 = .ok (.iload 6, 2) := by decide +kernel
theorem dX9_orders_108 : decode cX9_orders 108 = .ok (.bipush 6, 2) := by decide +kernel
theorem dX9_orders_110 : decode cX9_orders 110 = .ok (.if_icmp .ge 85, 3) := by decide +kernel
theorem dX9_orders_113 : decode cX9_orders 113 = .ok (.iload_n 2, 1) := by decide +kernel
theorem dX9_orders_114 : decode cX9_orders 114 = .ok (.iconst 2, 1) := by decide +kernel
theorem dX9_orders_115 : decode cX9_orders 115 = .ok (.iload 6, 2) := by decide +kernel
theorem dX9_orders_117 : decode cX9_orders 117 = .ok (.invokestatic 169, 3) := by decide +kernel
theorem dX9_orders_120 : decode cX9_orders 120 = .ok (.imul, 1) := by decide +kernel
theorem dX9_orders_121 : decode cX9_orders 121 = .ok (.ishr, 1) := by decide +kernel
theorem dX9_orders_122 : decode cX9_orders 122 = .ok (.iconst 3, 1) := by decide +kernel
theorem dX9_orders_123 : decode cX9_orders 123 = .ok (.iand, 1) := by decide +kernel
theorem dX9_orders_124 : decode cX9_orders 124 = .ok (.istore 7, 2) := by decide +kernel
theorem dX9_orders_126 : decode cX9_orders 126 = .ok (.iload_n 2, 1) := by decide +kernel
theorem dX9_orders_127 : decode cX9_orders 127 = .ok (.iconst 2, 1) := by decide +kernel
theorem dX9_orders_128 : decode cX9_orders 128 = .ok (.iload 6, 2) := by decide +kernel
theorem dX9_orders_130 : decode cX9_orders 130 = .ok (.invokestatic 153, 3) := by decide +kernel
theorem dX9_orders_133 : decode cX9_orders 133 = .ok (.imul, 1) := by decide +kernel
theorem dX9_orders_134 : decode cX9_orders 134 = .ok (.ishr, 1) := by decide +kernel
theorem dX9_orders_135 : decode cX9_orders 135 = .ok (.iconst 3, 1) := by decide +kernel
theorem dX9_orders_136 : decode cX9_orders 136 = .ok (.iand, 1) := by decide +kernel
theorem dX9_orders_137 : decode cX9_orders 137 = .ok (.istore 8, 2) := by decide +kernel
theorem dX9_orders_139 : decode cX9_orders 139 = .ok (.iload 7, 2) := by decide +kernel
theorem dX9_orders_141 : decode cX9_orders 141 = .ok (.iload 8, 2) := by decide +kernel
theorem dX9_orders_143 : decode cX9_orders 143 = .ok (.if_icmp .le 7, 3) := by decide +kernel
theorem dX9_orders_146 : decode cX9_orders 146 = .ok (.iconst 2, 1) := by decide +kernel
theorem dX9_orders_147 : decode cX9_orders 147 = .ok (.goto 15, 3) := by decide +kernel
theorem dX9_orders_150 : decode cX9_orders 150 = .ok (.iload 7, 2) := by decide +kernel
theorem dX9_orders_152 : decode cX9_orders 152 = .ok (.iload 8, 2) := by decide +kernel
theorem dX9_orders_154 : decode cX9_orders 154 = .ok (.if_icmp .ge 7, 3) := by decide +kernel
theorem dX9_orders_157 : decode cX9_orders 157 = .ok (.iconst 3, 1) := by decide +kernel
theorem dX9_orders_158 : decode cX9_orders 158 = .ok (.goto 4, 3) := by decide +kernel
theorem dX9_orders_161 : decode cX9_orders 161 = .ok (.iconst 1, 1) := by decide +kernel
theorem dX9_orders_162 : decode cX9_orders 162 = .ok (.istore 9, 2) := by decide +kernel
theorem dX9_orders_164 : decode cX9_orders 164 = .ok (.iload 5, 2) := by decide +kernel
theorem dX9_orders_166 : decode cX9_orders 166 = .ok (.aload_n 0, 1) := by decide +kernel
theorem dX9_orders_167 : decode cX9_orders 167 = .ok (.iload 6, 2) := by decide +kernel
theorem dX9_orders_169 : decode cX9_orders 169 = .ok (.invokevirtual 172, 3) := by decide +kernel
theorem dX9_orders_172 : decode cX9_orders 172 = .ok (.ifCond .eq 13, 3) := by decide +kernel
theorem dX9_orders_175 : decode cX9_orders 175 = .ok (.iload 9, 2) := by decide +kernel
theorem dX9_orders_177 : decode cX9_orders 177 = .ok (.iconst 2, 1) := by decide +kernel
theorem dX9_orders_178 : decode cX9_orders 178 = .ok (.iload 6, 2) := by decide +kernel
theorem dX9_orders_180 : decode cX9_orders 180 = .ok (.imul, 1) := by decide +kernel
theorem dX9_orders_181 : decode cX9_orders 181 = .ok (.ishl, 1) := by decide +kernel
theorem dX9_orders_182 : decode cX9_orders 182 = .ok (.goto 4, 3) := by decide +kernel
theorem dX9_orders_185 : decode cX9_orders 185 = .ok (.iconst 0, 1) := by decide +kernel
theorem dX9_orders_186 : decode cX9_orders 186 = .ok (.ior, 1) := by decide +kernel
theorem dX9_orders_187 : decode cX9_orders 187 = .ok (.istore 5, 2) := by decide +kernel
theorem dX9_orders_189 : decode cX9_orders 189 = .ok (.iinc 6 1, 3) := by decide +kernel
theorem dX9_orders_192 : decode cX9_orders 192 = .ok (.goto (-86), 3) := by decide +kernel
theorem dX9_orders_195 : decode cX9_orders 195 = .ok (.aload_n 0, 1) := by decide +kernel
theorem dX9_orders_196 : decode cX9_orders 196 = .ok (.getfield 56, 3) := by decide +kernel
theorem dX9_orders_199 : decode cX9_orders 199 = .ok (.aload_n 0, 1) := by decide +kernel
theorem dX9_orders_200 : decode cX9_orders 200 = .ok (.getfield 166, 3) := by decide +kernel
theorem dX9_orders_203 : decode cX9_orders 203 = .ok (.iload 5, 2) := by decide +kernel
theorem dX9_orders_205 : decode cX9_orders 205 = .ok (.iastore, 1) := by decide +kernel
theorem dX9_orders_206 : decode cX9_orders 206 = .ok (.aload_n 0, 1) := by decide +kernel
theorem dX9_orders_207 : decode cX9_orders 207 = .ok (.dup, 1) := by decide +kernel
theorem dX9_orders_208 : decode cX9_orders 208 = .ok (.getfield 166, 3) := by decide +kernel
theorem dX9_orders_211 : decode cX9_orders 211 = .ok (.iconst 1, 1) := by decide +kernel
theorem dX9_orders_212 : decode cX9_orders 212 = .ok (.iadd, 1) := by decide +kernel
theorem dX9_orders_213 : decode cX9_orders 213 = .ok (.putfield 166, 3) := by decide +kernel
theorem dX9_orders_216 : decode cX9_orders 216 = .ok (.iinc 2 1, 3) := by decide +kernel
theorem dX9_orders_219 : decode cX9_orders 219 = .ok (.goto (-205), 3) := by decide +kernel
theorem dX9_orders_222 : decode cX9_orders 222 = .ok (.return_, 1) := by decide +kernel
theorem dX9_worsts_0 : decode cX9_worsts 0 = .ok (.sipush 4095, 3) := by decide +kernel
theorem dX9_worsts_3 : decode cX9_worsts 3 = .ok (.istore_n 1, 1) := by decide +kernel
theorem dX9_worsts_4 : decode cX9_worsts 4 = .ok (.iload_n 1, 1) := by decide +kernel
theorem dX9_worsts_5 : decode cX9_worsts 5 = .ok (.ifCond .lt 163, 3) := by decide +kernel
theorem dX9_worsts_8 : decode cX9_worsts 8 = .ok (.iconst 0, 1) := by decide +kernel
theorem dX9_worsts_9 : decode cX9_worsts 9 = .ok (.istore_n 2, 1) := by decide +kernel
theorem dX9_worsts_10 : decode cX9_worsts 10 = .ok (.iconst 0, 1) := by decide +kernel
theorem dX9_worsts_11 : decode cX9_worsts 11 = .ok (.istore_n 3, 1) := by decide +kernel
theorem dX9_worsts_12 : decode cX9_worsts 12 = .ok (.iload_n 3, 1) := by decide +kernel
theorem dX9_worsts_13 : decode cX9_worsts 13 = .ok (.bipush 6, 2) := by decide +kernel
theorem dX9_worsts_15 : decode cX9_worsts 15 = .ok (.if_icmp .ge 31, 3) := by decide +kernel
theorem dX9_worsts_18 : decode cX9_worsts 18 = .ok (.iload_n 2, 1) := by decide +kernel
theorem dX9_worsts_19 : decode cX9_worsts 19 = .ok (.iload_n 1, 1) := by decide +kernel
theorem dX9_worsts_20 : decode cX9_worsts 20 = .ok (.iconst 2, 1) := by decide +kernel
theorem dX9_worsts_21 : decode cX9_worsts 21 = .ok (.iload_n 3, 1) := by decide +kernel
theorem dX9_worsts_22 : decode cX9_worsts 22 = .ok (.imul, 1) := by decide +kernel
theorem dX9_worsts_23 : decode cX9_worsts 23 = .ok (.ishr, 1) := by decide +kernel
theorem dX9_worsts_24 : decode cX9_worsts 24 = .ok (.iconst 3, 1) := by decide +kernel
theorem dX9_worsts_25 : decode cX9_worsts 25 = .ok (.iand, 1) := by decide +kernel
theorem dX9_worsts_26 : decode cX9_worsts 26 = .ok (.ifCond .ne 7, 3) := by decide +kernel
theorem dX9_worsts_29 : decode cX9_worsts 29 = .ok (.iconst 0, 1) := by decide +kernel
theorem dX9_worsts_30 : decode cX9_worsts 30 = .ok (.goto 8, 3) := by decide +kernel
theorem dX9_worsts_33 : decode cX9_worsts 33 = .ok (.iconst 3, 1) := by decide +kernel
theorem dX9_worsts_34 : decode cX9_worsts 34 = .ok (.iconst 2, 1) := by decide +kernel
theorem dX9_worsts_35 : decode cX9_worsts 35 = .ok (.iload_n 3, 1) := by decide +kernel
theorem dX9_worsts_36 : decode cX9_worsts 36 = .ok (.imul, 1) := by decide +kernel
theorem dX9_worsts_37 : decode cX9_worsts 37 = .ok (.ishl, 1) := by decide +kernel
theorem dX9_worsts_38 : decode cX9_worsts 38 = .ok (.ior, 1) := by decide +kernel
theorem dX9_worsts_39 : decode cX9_worsts 39 = .ok (.istore_n 2, 1) := by decide +kernel
theorem dX9_worsts_40 : decode cX9_worsts 40 = .ok (.iinc 3 1, 3) := by decide +kernel
theorem dX9_worsts_43 : decode cX9_worsts 43 = .ok (.goto (-31), 3) := by decide +kernel
theorem dX9_worsts_46 : decode cX9_worsts 46 = .ok (.iconst 0, 1) := by decide +kernel
theorem dX9_worsts_47 : decode cX9_worsts 47 = .ok (.istore_n 3, 1) := by decide +kernel
theorem dX9_worsts_48 : decode cX9_worsts 48 = .ok (.iconst 0, 1) := by decide +kernel
theorem dX9_worsts_49 : decode cX9_worsts 49 = .ok (.istore 4, 2) := by decide +kernel
theorem dX9_worsts_51 : decode cX9_worsts 51 = .ok (.iload 4, 2) := by decide +kernel
theorem dX9_worsts_53 : decode cX9_worsts 53 = .ok (.aload_n 0, 1) := by decide +kernel
theorem dX9_worsts_54 : decode cX9_worsts 54 = .ok (.getfield 166, 3) := by decide +kernel
theorem dX9_worsts_57 : decode cX9_worsts 57 = .ok (.if_icmp .ge 31, 3) := by decide +kernel
theorem dX9_worsts_60 : decode cX9_worsts 60 = .ok (.iload_n 3, 1) := by decide +kernel
theorem dX9_worsts_61 : decode cX9_worsts 61 = .ok (.aload_n 0, 1) := by decide +kernel
theorem dX9_worsts_62 : decode cX9_worsts 62 = .ok (.getfield 56, 3) := by decide +kernel
theorem dX9_worsts_65 : decode cX9_worsts 65 = .ok (.iload 4, 2) := by decide +kernel
theorem dX9_worsts_67 : decode cX9_worsts 67 = .ok (.iaload, 1) := by decide +kernel
theorem dX9_worsts_68 : decode cX9_worsts 68 = .ok (.iload_n 1, 1) := by decide +kernel
theorem dX9_worsts_69 : decode cX9_worsts 69 = .ok (.ixor, 1) := by decide +kernel
theorem dX9_worsts_70 : decode cX9_worsts 70 = .ok (.iload_n 2, 1) := by decide +kernel
theorem dX9_worsts_71 : decode cX9_worsts 71 = .ok (.iand, 1) := by decide +kernel
theorem dX9_worsts_72 : decode cX9_worsts 72 = .ok (.ifCond .ne 7, 3) := by decide +kernel
theorem dX9_worsts_75 : decode cX9_worsts 75 = .ok (.iconst 1, 1) := by decide +kernel
theorem dX9_worsts_76 : decode cX9_worsts 76 = .ok (.goto 4, 3) := by decide +kernel
theorem dX9_worsts_79 : decode cX9_worsts 79 = .ok (.iconst 0, 1) := by decide +kernel
theorem dX9_worsts_80 : decode cX9_worsts 80 = .ok (.iadd, 1) := by decide +kernel
theorem dX9_worsts_81 : decode cX9_worsts 81 = .ok (.istore_n 3, 1) := by decide +kernel
theorem dX9_worsts_82 : decode cX9_worsts 82 = .ok (.iinc 4 1, 3) := by decide +kernel
theorem dX9_worsts_85 : decode cX9_worsts 85 = .ok (.goto (-34), 3) := by decide +kernel
theorem dX9_worsts_88 : decode cX9_worsts 88 = .ok (.aload_n 0, 1) := by decide +kernel
theorem dX9_worsts_89 : decode cX9_worsts 89 = .ok (.getfield 59, 3) := by decide +kernel
theorem dX9_worsts_92 : decode cX9_worsts 92 = .ok (.iload_n 1, 1) := by decide +kernel
theorem dX9_worsts_93 : decode cX9_worsts 93 = .ok (.iload_n 3, 1) := by decide +kernel
theorem dX9_worsts_94 : decode cX9_worsts 94 = .ok (.iastore, 1) := by decide +kernel
theorem dX9_worsts_95 : decode cX9_worsts 95 = .ok (.ldc 175, 2) := by decide +kernel
theorem dX9_worsts_97 : decode cX9_worsts 97 = .ok (.istore 4, 2) := by decide +kernel
theorem dX9_worsts_99 : decode cX9_worsts 99 = .ok (.iconst 0, 1) := by decide +kernel
theorem dX9_worsts_100 : decode cX9_worsts 100 = .ok (.istore 5, 2) := by decide +kernel
theorem dX9_worsts_102 : decode cX9_worsts 102 = .ok (.iload 5, 2) := by decide +kernel
theorem dX9_worsts_104 : decode cX9_worsts 104 = .ok (.bipush 6, 2) := by decide +kernel
theorem dX9_worsts_106 : decode cX9_worsts 106 = .ok (.if_icmp .ge 39, 3) := by decide +kernel
theorem dX9_worsts_109 : decode cX9_worsts 109 = .ok (.iload_n 3, 1) := by decide +kernel
theorem dX9_worsts_110 : decode cX9_worsts 110 = .ok (.iconst 1, 1) := by decide +kernel
theorem dX9_worsts_111 : decode cX9_worsts 111 = .ok (.if_icmp .le 34, 3) := by decide +kernel
theorem dX9_worsts_114 : decode cX9_worsts 114 = .ok (.aload_n 0, 1) := by decide +kernel
theorem dX9_worsts_115 : decode cX9_worsts 115 = .ok (.iload_n 1, 1) := by decide +kernel
theorem dX9_worsts_116 : decode cX9_worsts 116 = .ok (.iload 5, 2) := by decide +kernel
theorem dX9_worsts_118 : decode cX9_worsts 118 = .ok (.invokevirtual 176, 3) := by decide +kernel
theorem dX9_worsts_121 : decode cX9_worsts 121 = .ok (.istore 6, 2) := by decide +kernel
theorem dX9_worsts_123 : decode cX9_worsts 123 = .ok (.iload 6, 2) := by decide +kernel
theorem dX9_worsts_125 : decode cX9_worsts 125 = .ok (.iload 4, 2) := by decide +kernel
theorem dX9_worsts_127 : decode cX9_worsts 127 = .ok (.if_icmp .ge 8, 3) := by decide +kernel
theorem dX9_worsts_130 : decode cX9_worsts 130 = .ok (.iload 6, 2) := by decide +kernel
theorem dX9_worsts_132 : decode cX9_worsts 132 = .ok (.goto 5, 3) := by decide +kernel
theorem dX9_worsts_135 : decode cX9_worsts 135 = .ok (.iload 4, 2) := by decide +kernel
theorem dX9_worsts_137 : decode cX9_worsts 137 = .ok (.istore 4, 2) := by decide +kernel
theorem dX9_worsts_139 : decode cX9_worsts 139 = .ok (.iinc 5 1, 3) := by decide +kernel
theorem dX9_worsts_142 : decode cX9_worsts 142 = .ok (.goto (-40), 3) := by decide +kernel
theorem dX9_worsts_145 : decode cX9_worsts 145 = .ok (.aload_n 0, 1) := by decide +kernel
theorem dX9_worsts_146 : decode cX9_worsts 146 = .ok (.getfield 62, 3) := by decide +kernel
theorem dX9_worsts_149 : decode cX9_worsts 149 = .ok (.iload_n 1, 1) := by decide +kernel
theorem dX9_worsts_150 : decode cX9_worsts 150 = .ok (.iload_n 3, 1) := by decide +kernel
theorem dX9_worsts_151 : decode cX9_worsts 151 = .ok (.iconst 1, 1) := by decide +kernel
theorem dX9_worsts_152 : decode cX9_worsts 152 = .ok (.if_icmp .le 8, 3) := by decide +kernel
theorem dX9_worsts_155 : decode cX9_worsts 155 = .ok (.iload 4, 2) := by decide +kernel
theorem dX9_worsts_157 : decode cX9_worsts 157 = .ok (.goto 4, 3) := by decide +kernel
theorem dX9_worsts_160 : decode cX9_worsts 160 = .ok (.iconst 0, 1) := by decide +kernel
theorem dX9_worsts_161 : decode cX9_worsts 161 = .ok (.iastore, 1) := by decide +kernel
theorem dX9_worsts_162 : decode cX9_worsts 162 = .ok (.iinc 1 (-1), 3) := by decide +kernel
theorem dX9_worsts_165 : decode cX9_worsts 165 = .ok (.goto (-161), 3) := by decide +kernel
theorem dX9_worsts_168 : decode cX9_worsts 168 = .ok (.return_, 1) := by decide +kernel
theorem dX9_worstBehind_0 : decode cX9_worstBehind 0 = .ok (.aload_n 0, 1) := by decide +kernel
theorem dX9_worstBehind_1 : decode cX9_worstBehind 1 = .ok (.iload_n 2, 1) := by decide +kernel
theorem dX9_worstBehind_2 : decode cX9_worstBehind 2 = .ok (.invokevirtual 172, 3) := by decide +kernel
theorem dX9_worstBehind_5 : decode cX9_worstBehind 5 = .ok (.ifCond .eq 13, 3) := by decide +kernel
theorem dX9_worstBehind_8 : decode cX9_worstBehind 8 = .ok (.iload_n 1, 1) := by decide +kernel
theorem dX9_worstBehind_9 : decode cX9_worstBehind 9 = .ok (.iconst 2, 1) := by decide +kernel
theorem dX9_worstBehind_10 : decode cX9_worstBehind 10 = .ok (.iload_n 2, 1) := by decide +kernel
theorem dX9_worstBehind_11 : decode cX9_worstBehind 11 = .ok (.imul, 1) := by decide +kernel
theorem dX9_worstBehind_12 : decode cX9_worstBehind 12 = .ok (.ishr, 1) := by decide +kernel
theorem dX9_worstBehind_13 : decode cX9_worstBehind 13 = .ok (.iconst 3, 1) := by decide +kernel
theorem dX9_worstBehind_14 : decode cX9_worstBehind 14 = .ok (.iand, 1) := by decide +kernel
theorem dX9_worstBehind_15 : decode cX9_worstBehind 15 = .ok (.ifCond .eq 6, 3) := by decide +kernel
theorem dX9_worstBehind_18 : decode cX9_worstBehind 18 = .ok (.ldc 175, 2) := by decide +kernel
theorem dX9_worstBehind_20 : decode cX9_worstBehind 20 = .ok (.ireturn, 1) := by decide +kernel
theorem dX9_worstBehind_21 : decode cX9_worstBehind 21 = .ok (.iconst 0, 1) := by decide +kernel
theorem dX9_worstBehind_22 : decode cX9_worstBehind 22 = .ok (.istore_n 3, 1) := by decide +kernel
theorem dX9_worstBehind_23 : decode cX9_worstBehind 23 = .ok (.iconst 1, 1) := by decide +kernel
theorem dX9_worstBehind_24 : decode cX9_worstBehind 24 = .ok (.istore 4, 2) := by decide +kernel
theorem dX9_worstBehind_26 : decode cX9_worstBehind 26 = .ok (.iload 4, 2) := by decide +kernel
theorem dX9_worstBehind_28 : decode cX9_worstBehind 28 = .ok (.iconst 4, 1) := by decide +kernel
theorem dX9_worstBehind_29 : decode cX9_worstBehind 29 = .ok (.if_icmp .ge 37, 3) := by decide +kernel
theorem dX9_worstBehind_32 : decode cX9_worstBehind 32 = .ok (.aload_n 0, 1) := by decide +kernel
theorem dX9_worstBehind_33 : decode cX9_worstBehind 33 = .ok (.getfield 62, 3) := by decide +kernel
theorem dX9_worstBehind_36 : decode cX9_worstBehind 36 = .ok (.iload_n 1, 1) := by decide +kernel
theorem dX9_worstBehind_37 : decode cX9_worstBehind 37 = .ok (.iload 4, 2) := by decide +kernel
theorem dX9_worstBehind_39 : decode cX9_worstBehind 39 = .ok (.iconst 2, 1) := by decide +kernel
theorem dX9_worstBehind_40 : decode cX9_worstBehind 40 = .ok (.iload_n 2, 1) := by decide +kernel
theorem dX9_worstBehind_41 : decode cX9_worstBehind 41 = .ok (.imul, 1) := by decide +kernel
theorem dX9_worstBehind_42 : decode cX9_worstBehind 42 = .ok (.ishl, 1) := by decide +kernel
theorem dX9_worstBehind_43 : decode cX9_worstBehind 43 = .ok (.ior, 1) := by decide +kernel
theorem dX9_worstBehind_44 : decode cX9_worstBehind 44 = .ok (.iaload, 1) := by decide +kernel
theorem dX9_worstBehind_45 : decode cX9_worstBehind 45 = .ok (.istore 5, 2) := by decide +kernel
theorem dX9_worstBehind_47 : decode cX9_worstBehind 47 = .ok (.iload 5, 2) := by decide +kernel
theorem dX9_worstBehind_49 : decode cX9_worstBehind 49 = .ok (.iload_n 3, 1) := by decide +kernel
theorem dX9_worstBehind_50 : decode cX9_worstBehind 50 = .ok (.if_icmp .le 8, 3) := by decide +kernel
theorem dX9_worstBehind_53 : decode cX9_worstBehind 53 = .ok (.iload 5, 2) := by decide +kernel
theorem dX9_worstBehind_55 : decode cX9_worstBehind 55 = .ok (.goto 4, 3) := by decide +kernel
theorem dX9_worstBehind_58 : decode cX9_worstBehind 58 = .ok (.iload_n 3, 1) := by decide +kernel
theorem dX9_worstBehind_59 : decode cX9_worstBehind 59 = .ok (.istore_n 3, 1) := by decide +kernel
theorem dX9_worstBehind_60 : decode cX9_worstBehind 60 = .ok (.iinc 4 1, 3) := by decide +kernel
theorem dX9_worstBehind_63 : decode cX9_worstBehind 63 = .ok (.goto (-37), 3) := by decide +kernel
theorem dX9_worstBehind_66 : decode cX9_worstBehind 66 = .ok (.iload_n 3, 1) := by decide +kernel
theorem dX9_worstBehind_67 : decode cX9_worstBehind 67 = .ok (.iconst 1, 1) := by decide +kernel
theorem dX9_worstBehind_68 : decode cX9_worstBehind 68 = .ok (.iadd, 1) := by decide +kernel
theorem dX9_worstBehind_69 : decode cX9_worstBehind 69 = .ok (.ireturn, 1) := by decide +kernel
theorem dX9_codeNow_0 : decode cX9_codeNow 0 = .ok (.iconst 0, 1) := by decide +kernel
theorem dX9_codeNow_1 : decode cX9_codeNow 1 = .ok (.istore_n 1, 1) := by decide +kernel
theorem dX9_codeNow_2 : decode cX9_codeNow 2 = .ok (.iconst 0, 1) := by decide +kernel
theorem dX9_codeNow_3 : decode cX9_codeNow 3 = .ok (.istore_n 2, 1) := by decide +kernel
theorem dX9_codeNow_4 : decode cX9_codeNow 4 = .ok (.iload_n 2, 1) := by decide +kernel
theorem dX9_codeNow_5 : decode cX9_codeNow 5 = .ok (.bipush 6, 2) := by decide +kernel
theorem dX9_codeNow_7 : decode cX9_codeNow 7 = .ok (.if_icmp .ge 25, 3) := by decide +kernel
theorem dX9_codeNow_10 : decode cX9_codeNow 10 = .ok (.iload_n 1, 1) := by decide +kernel
theorem dX9_codeNow_11 : decode cX9_codeNow 11 = .ok (.aload_n 0, 1) := by decide +kernel
theorem dX9_codeNow_12 : decode cX9_codeNow 12 = .ok (.getfield 28, 3) := by decide +kernel
theorem dX9_codeNow_15 : decode cX9_codeNow 15 = .ok (.bipush 17, 2) := by decide +kernel
theorem dX9_codeNow_17 : decode cX9_codeNow 17 = .ok (.iload_n 2, 1) := by decide +kernel
theorem dX9_codeNow_18 : decode cX9_codeNow 18 = .ok (.iadd, 1) := by decide +kernel
theorem dX9_codeNow_19 : decode cX9_codeNow 19 = .ok (.iaload, 1) := by decide +kernel
theorem dX9_codeNow_20 : decode cX9_codeNow 20 = .ok (.iconst 2, 1) := by decide +kernel
theorem dX9_codeNow_21 : decode cX9_codeNow 21 = .ok (.iload_n 2, 1) := by decide +kernel
theorem dX9_codeNow_22 : decode cX9_codeNow 22 = .ok (.imul, 1) := by decide +kernel
theorem dX9_codeNow_23 : decode cX9_codeNow 23 = .ok (.ishl, 1) := by decide +kernel
theorem dX9_codeNow_24 : decode cX9_codeNow 24 = .ok (.ior, 1) := by decide +kernel
theorem dX9_codeNow_25 : decode cX9_codeNow 25 = .ok (.istore_n 1, 1) := by decide +kernel
theorem dX9_codeNow_26 : decode cX9_codeNow 26 = .ok (.iinc 2 1, 3) := by decide +kernel
theorem dX9_codeNow_29 : decode cX9_codeNow 29 = .ok (.goto (-25), 3) := by decide +kernel
theorem dX9_codeNow_32 : decode cX9_codeNow 32 = .ok (.iload_n 1, 1) := by decide +kernel
theorem dX9_codeNow_33 : decode cX9_codeNow 33 = .ok (.ireturn, 1) := by decide +kernel
theorem dX9_nextPair_0 : decode cX9_nextPair 0 = .ok (.aload_n 0, 1) := by decide +kernel
theorem dX9_nextPair_1 : decode cX9_nextPair 1 = .ok (.invokevirtual 179, 3) := by decide +kernel
theorem dX9_nextPair_4 : decode cX9_nextPair 4 = .ok (.istore_n 1, 1) := by decide +kernel
theorem dX9_nextPair_5 : decode cX9_nextPair 5 = .ok (.bipush (-9), 2) := by decide +kernel
theorem dX9_nextPair_7 : decode cX9_nextPair 7 = .ok (.istore_n 2, 1) := by decide +kernel
theorem dX9_nextPair_8 : decode cX9_nextPair 8 = .ok (.ldc 175, 2) := by decide +kernel
theorem dX9_nextPair_10 : decode cX9_nextPair 10 = .ok (.istore_n 3, 1) := by decide +kernel
theorem dX9_nextPair_11 : decode cX9_nextPair 11 = .ok (.iconst 0, 1) := by decide +kernel
theorem dX9_nextPair_12 : decode cX9_nextPair 12 = .ok (.istore 4, 2) := by decide +kernel
theorem dX9_nextPair_14 : decode cX9_nextPair 14 = .ok (.iload 4, 2) := by decide +kernel
theorem dX9_nextPair_16 : decode cX9_nextPair 16 = .ok (.bipush 6, 2) := by decide +kernel
theorem dX9_nextPair_18 : decode cX9_nextPair 18 = .ok (.if_icmp .ge 65, 3) := by decide +kernel
theorem dX9_nextPair_21 : decode cX9_nextPair 21 = .ok (.aload_n 0, 1) := by decide +kernel
theorem dX9_nextPair_22 : decode cX9_nextPair 22 = .ok (.getfield 62, 3) := by decide +kernel
theorem dX9_nextPair_25 : decode cX9_nextPair 25 = .ok (.iload_n 1, 1) := by decide +kernel
theorem dX9_nextPair_26 : decode cX9_nextPair 26 = .ok (.iaload, 1) := by decide +kernel
theorem dX9_nextPair_27 : decode cX9_nextPair 27 = .ok (.ifCond .le 56, 3) := by decide +kernel
theorem dX9_nextPair_30 : decode cX9_nextPair 30 = .ok (.aload_n 0, 1) := by decide +kernel
theorem dX9_nextPair_31 : decode cX9_nextPair 31 = .ok (.iload_n 1, 1) := by decide +kernel
theorem dX9_nextPair_32 : decode cX9_nextPair 32 = .ok (.iload 4, 2) := by decide +kernel
theorem dX9_nextPair_34 : decode cX9_nextPair 34 = .ok (.invokevirtual 176, 3) := by decide +kernel
theorem dX9_nextPair_37 : decode cX9_nextPair 37 = .ok (.istore 5, 2) := by decide +kernel
theorem dX9_nextPair_39 : decode cX9_nextPair 39 = .ok (.iload 5, 2) := by decide +kernel
theorem dX9_nextPair_41 : decode cX9_nextPair 41 = .ok (.iload_n 3, 1) := by decide +kernel
theorem dX9_nextPair_42 : decode cX9_nextPair 42 = .ok (.if_icmp .ge 20, 3) := by decide +kernel
theorem dX9_nextPair_45 : decode cX9_nextPair 45 = .ok (.bipush 10, 2) := by decide +kernel
theorem dX9_nextPair_47 : decode cX9_nextPair 47 = .ok (.iload 4, 2) := by decide +kernel
theorem dX9_nextPair_49 : decode cX9_nextPair 49 = .ok (.invokestatic 169, 3) := by decide +kernel
theorem dX9_nextPair_52 : decode cX9_nextPair 52 = .ok (.imul, 1) := by decide +kernel
theorem dX9_nextPair_53 : decode cX9_nextPair 53 = .ok (.iload 4, 2) := by decide +kernel
theorem dX9_nextPair_55 : decode cX9_nextPair 55 = .ok (.invokestatic 153, 3) := by decide +kernel
theorem dX9_nextPair_58 : decode cX9_nextPair 58 = .ok (.iadd, 1) := by decide +kernel
theorem dX9_nextPair_59 : decode cX9_nextPair 59 = .ok (.goto 4, 3) := by decide +kernel
theorem dX9_nextPair_62 : decode cX9_nextPair 62 = .ok (.iload_n 2, 1) := by decide +kernel
theorem dX9_nextPair_63 : decode cX9_nextPair 63 = .ok (.istore_n 2, 1) := by decide +kernel
theorem dX9_nextPair_64 : decode cX9_nextPair 64 = .ok (.iload 5, 2) := by decide +kernel
theorem dX9_nextPair_66 : decode cX9_nextPair 66 = .ok (.iload_n 3, 1) := by decide +kernel
theorem dX9_nextPair_67 : decode cX9_nextPair 67 = .ok (.if_icmp .ge 8, 3) := by decide +kernel
theorem dX9_nextPair_70 : decode cX9_nextPair 70 = .ok (.iload 5, 2) := by decide +kernel
theorem dX9_nextPair_72 : decode cX9_nextPair 72 = .ok (.goto 4, 3) := by decide +kernel
theorem dX9_nextPair_75 : decode cX9_nextPair 75 = .ok (.iload_n 3, 1) := by decide +kernel
theorem dX9_nextPair_76 : decode cX9_nextPair 76 = .ok (.istore_n 3, 1) := by decide +kernel
theorem dX9_nextPair_77 : decode cX9_nextPair 77 = .ok (.iinc 4 1, 3) := by decide +kernel
theorem dX9_nextPair_80 : decode cX9_nextPair 80 = .ok (.goto (-66), 3) := by decide +kernel
theorem dX9_nextPair_83 : decode cX9_nextPair 83 = .ok (.iload_n 2, 1) := by decide +kernel
theorem dX9_nextPair_84 : decode cX9_nextPair 84 = .ok (.ireturn, 1) := by decide +kernel
theorem dX9_knownMany_0 : decode cX9_knownMany 0 = .ok (.iconst 0, 1) := by decide +kernel
theorem dX9_knownMany_1 : decode cX9_knownMany 1 = .ok (.istore_n 1, 1) := by decide +kernel
theorem dX9_knownMany_2 : decode cX9_knownMany 2 = .ok (.iconst 0, 1) := by decide +kernel
theorem dX9_knownMany_3 : decode cX9_knownMany 3 = .ok (.istore_n 2, 1) := by decide +kernel
theorem dX9_knownMany_4 : decode cX9_knownMany 4 = .ok (.iload_n 2, 1) := by decide +kernel
theorem dX9_knownMany_5 : decode cX9_knownMany 5 = .ok (.bipush 6, 2) := by decide +kernel
theorem dX9_knownMany_7 : decode cX9_knownMany 7 = .ok (.if_icmp .ge 29, 3) := by decide +kernel
theorem dX9_knownMany_10 : decode cX9_knownMany 10 = .ok (.iload_n 1, 1) := by decide +kernel
theorem dX9_knownMany_11 : decode cX9_knownMany 11 = .ok (.aload_n 0, 1) := by decide +kernel
theorem dX9_knownMany_12 : decode cX9_knownMany 12 = .ok (.getfield 28, 3) := by decide +kernel
theorem dX9_knownMany_15 : decode cX9_knownMany 15 = .ok (.bipush 17, 2) := by decide +kernel
theorem dX9_knownMany_17 : decode cX9_knownMany 17 = .ok (.iload_n 2, 1) := by decide +kernel
theorem dX9_knownMany_18 : decode cX9_knownMany 18 = .ok (.iadd, 1) := by decide +kernel
theorem dX9_knownMany_19 : decode cX9_knownMany 19 = .ok (.iaload, 1) := by decide +kernel
theorem dX9_knownMany_20 : decode cX9_knownMany 20 = .ok (.ifCond .le 7, 3) := by decide +kernel
theorem dX9_knownMany_23 : decode cX9_knownMany 23 = .ok (.iconst 1, 1) := by decide +kernel
theorem dX9_knownMany_24 : decode cX9_knownMany 24 = .ok (.goto 4, 3) := by decide +kernel
theorem dX9_knownMany_27 : decode cX9_knownMany 27 = .ok (.iconst 0, 1) := by decide +kernel
theorem dX9_knownMany_28 : decode cX9_knownMany 28 = .ok (.iadd, 1) := by decide +kernel
theorem dX9_knownMany_29 : decode cX9_knownMany 29 = .ok (.istore_n 1, 1) := by decide +kernel
theorem dX9_knownMany_30 : decode cX9_knownMany 30 = .ok (.iinc 2 1, 3) := by decide +kernel
theorem dX9_knownMany_33 : decode cX9_knownMany 33 = .ok (.goto (-29), 3) := by decide +kernel
theorem dX9_knownMany_36 : decode cX9_knownMany 36 = .ok (.iload_n 1, 1) := by decide +kernel
theorem dX9_knownMany_37 : decode cX9_knownMany 37 = .ok (.ireturn, 1) := by decide +kernel
theorem dX9_range_0 : decode cX9_range 0 = .ok (.iconst 0, 1) := by decide +kernel
theorem dX9_range_1 : decode cX9_range 1 = .ok (.istore_n 1, 1) := by decide +kernel
theorem dX9_range_2 : decode cX9_range 2 = .ok (.iload_n 1, 1) := by decide +kernel
theorem dX9_range_3 : decode cX9_range 3 = .ok (.sipush 301, 3) := by decide +kernel
theorem dX9_range_6 : decode cX9_range 6 = .ok (.if_icmp .ge 16, 3) := by decide +kernel
theorem dX9_range_9 : decode cX9_range 9 = .ok (.aload_n 0, 1) := by decide +kernel
theorem dX9_range_10 : decode cX9_range 10 = .ok (.getfield 68, 3) := by decide +kernel
theorem dX9_range_13 : decode cX9_range 13 = .ok (.iload_n 1, 1) := by decide +kernel
theorem dX9_range_14 : decode cX9_range 14 = .ok (.iconst 0, 1) := by decide +kernel
theorem dX9_range_15 : decode cX9_range 15 = .ok (.bastore, 1) := by decide +kernel
theorem dX9_range_16 : decode cX9_range 16 = .ok (.iinc 1 1, 3) := by decide +kernel
theorem dX9_range_19 : decode cX9_range 19 = .ok (.goto (-17), 3) := by decide +kernel
theorem dX9_range_22 : decode cX9_range 22 = .ok (.iconst 0, 1) := by decide +kernel
theorem dX9_range_23 : decode cX9_range 23 = .ok (.istore_n 1, 1) := by decide +kernel
theorem dX9_range_24 : decode cX9_range 24 = .ok (.iload_n 1, 1) := by decide +kernel
theorem dX9_range_25 : decode cX9_range 25 = .ok (.iconst 1, 1) := by decide +kernel
theorem dX9_range_26 : decode cX9_range 26 = .ok (.aload_n 0, 1) := by decide +kernel
theorem dX9_range_27 : decode cX9_range 27 = .ok (.getfield 13, 3) := by decide +kernel
theorem dX9_range_30 : decode cX9_range 30 = .ok (.iconst 1, 1) := by decide +kernel
theorem dX9_range_31 : decode cX9_range 31 = .ok (.iaload, 1) := by decide +kernel
theorem dX9_range_32 : decode cX9_range 32 = .ok (.ishl, 1) := by decide +kernel
theorem dX9_range_33 : decode cX9_range 33 = .ok (.if_icmp .ge 66, 3) := by decide +kernel
theorem dX9_range_36 : decode cX9_range 36 = .ok (.iconst 0, 1) := by decide +kernel
theorem dX9_range_37 : decode cX9_range 37 = .ok (.istore_n 2, 1) := by decide +kernel
theorem dX9_range_38 : decode cX9_range 38 = .ok (.iload_n 2, 1) := by decide +kernel
theorem dX9_range_39 : decode cX9_range 39 = .ok (.iconst 1, 1) := by decide +kernel
theorem dX9_range_40 : decode cX9_range 40 = .ok (.aload_n 0, 1) := by decide +kernel
theorem dX9_range_41 : decode cX9_range 41 = .ok (.getfield 13, 3) := by decide +kernel
theorem dX9_range_44 : decode cX9_range 44 = .ok (.iconst 1, 1) := by decide +kernel
theorem dX9_range_45 : decode cX9_range 45 = .ok (.iaload, 1) := by decide +kernel
theorem dX9_range_46 : decode cX9_range 46 = .ok (.ishl, 1) := by decide +kernel
theorem dX9_range_47 : decode cX9_range 47 = .ok (.if_icmp .ge 46, 3) := by decide +kernel
theorem dX9_range_50 : decode cX9_range 50 = .ok (.iload_n 1, 1) := by decide +kernel
theorem dX9_range_51 : decode cX9_range 51 = .ok (.iload_n 2, 1) := by decide +kernel
theorem dX9_range_52 : decode cX9_range 52 = .ok (.iand, 1) := by decide +kernel
theorem dX9_range_53 : decode cX9_range 53 = .ok (.ifCond .ne 17, 3) := by decide +kernel
theorem dX9_range_56 : decode cX9_range 56 = .ok (.aload_n 0, 1) := by decide +kernel
theorem dX9_range_57 : decode cX9_range 57 = .ok (.iload_n 1, 1) := by decide +kernel
theorem dX9_range_58 : decode cX9_range 58 = .ok (.invokevirtual 183, 3) := by decide +kernel
theorem dX9_range_61 : decode cX9_range 61 = .ok (.aload_n 0, 1) := by decide +kernel
theorem dX9_range_62 : decode cX9_range 62 = .ok (.iload_n 2, 1) := by decide +kernel
theorem dX9_range_63 : decode cX9_range 63 = .ok (.invokevirtual 183, 3) := by decide +kernel
theorem dX9_range_66 : decode cX9_range 66 = .ok (.isub, 1) := by decide +kernel
theorem dX9_range_67 : decode cX9_range 67 = .ok (.goto 4, 3) := by decide +kernel
theorem dX9_range_70 : decode cX9_range 70 = .ok (.iconst 0, 1) := by decide +kernel
theorem dX9_range_71 : decode cX9_range 71 = .ok (.istore_n 3, 1) := by decide +kernel
theorem dX9_range_72 : decode cX9_range 72 = .ok (.aload_n 0, 1) := by decide +kernel
theorem dX9_range_73 : decode cX9_range 73 = .ok (.getfield 68, 3) := by decide +kernel
theorem dX9_range_76 : decode cX9_range 76 = .ok (.iload_n 3, 1) := by decide +kernel
theorem dX9_range_77 : decode cX9_range 77 = .ok (.ifCond .le 7, 3) := by decide +kernel
theorem dX9_range_80 : decode cX9_range 80 = .ok (.iload_n 3, 1) := by decide +kernel
theorem dX9_range_81 : decode cX9_range 81 = .ok (.goto 4, 3) := by decide +kernel
theorem dX9_range_84 : decode cX9_range 84 = .ok (.iconst 0, 1) := by decide +kernel
theorem dX9_range_85 : decode cX9_range 85 = .ok (.iconst 1, 1) := by decide +kernel
theorem dX9_range_86 : decode cX9_range 86 = .ok (.bastore, 1) := by decide +kernel
theorem dX9_range_87 : decode cX9_range 87 = .ok (.iinc 2 1, 3) := by decide +kernel
theorem dX9_range_90 : decode cX9_range 90 = .ok (.goto (-52), 3) := by decide +kernel
theorem dX9_range_93 : decode cX9_range 93 = .ok (.iinc 1 1, 3) := by decide +kernel
theorem dX9_range_96 : decode cX9_range 96 = .ok (.goto (-72), 3) := by decide +kernel
theorem dX9_range_99 : decode cX9_range 99 = .ok (.iconst 0, 1) := by decide +kernel
theorem dX9_range_100 : decode cX9_range 100 = .ok (.istore_n 1, 1) := by decide +kernel
theorem dX9_range_101 : decode cX9_range 101 = .ok (.iload_n 1, 1) := by decide +kernel
theorem dX9_range_102 : decode cX9_range 102 = .ok (.sipush 300, 3) := by decide +kernel
theorem dX9_range_105 : decode cX9_range 105 = .ok (.if_icmp .ge 20, 3) := by decide +kernel
theorem dX9_range_108 : decode cX9_range 108 = .ok (.aload_n 0, 1) := by decide +kernel
theorem dX9_range_109 : decode cX9_range 109 = .ok (.getfield 68, 3) := by decide +kernel
theorem dX9_range_112 : decode cX9_range 112 = .ok (.iload_n 1, 1) := by decide +kernel
theorem dX9_range_113 : decode cX9_range 113 = .ok (.iconst 1, 1) := by decide +kernel
theorem dX9_range_114 : decode cX9_range 114 = .ok (.iadd, 1) := by decide +kernel
theorem dX9_range_115 : decode cX9_range 115 = .ok (.baload, 1) := by decide +kernel
theorem dX9_range_116 : decode cX9_range 116 = .ok (.ifCond .eq 9, 3) := by decide +kernel
theorem dX9_range_119 : decode cX9_range 119 = .ok (.iinc 1 1, 3) := by decide +kernel
theorem dX9_range_122 : decode cX9_range 122 = .ok (.goto (-21), 3) := by decide +kernel
theorem dX9_range_125 : decode cX9_range 125 = .ok (.iload_n 1, 1) := by decide +kernel
theorem dX9_range_126 : decode cX9_range 126 = .ok (.ireturn, 1) := by decide +kernel
theorem dX9_now_0 : decode cX9_now 0 = .ok (.aload_n 0, 1) := by decide +kernel
theorem dX9_now_1 : decode cX9_now 1 = .ok (.iconst 0, 1) := by decide +kernel
theorem dX9_now_2 : decode cX9_now 2 = .ok (.putfield 77, 3) := by decide +kernel
theorem dX9_now_5 : decode cX9_now 5 = .ok (.iload_n 1, 1) := by decide +kernel
theorem dX9_now_6 : decode cX9_now 6 = .ok (.iconst 0, 1) := by decide +kernel
theorem dX9_now_7 : decode cX9_now 7 = .ok (.bipush 6, 2) := by decide +kernel
theorem dX9_now_9 : decode cX9_now 9 = .ok (.invokestatic 81, 3) := by decide +kernel
theorem dX9_now_12 : decode cX9_now 12 = .ok (.ifCond .ne 5, 3) := by decide +kernel
theorem dX9_now_15 : decode cX9_now 15 = .ok (.iconst (-1), 1) := by decide +kernel
theorem dX9_now_16 : decode cX9_now 16 = .ok (.ireturn, 1) := by decide +kernel
theorem dX9_now_17 : decode cX9_now 17 = .ok (.iload_n 1, 1) := by decide +kernel
theorem dX9_now_18 : decode cX9_now 18 = .ok (.iconst 3, 1) := by decide +kernel
theorem dX9_now_19 : decode cX9_now 19 = .ok (.if_icmp .ge 38, 3) := by decide +kernel
theorem dX9_now_22 : decode cX9_now 22 = .ok (.iload_n 1, 1) := by decide +kernel
theorem dX9_now_23 : decode cX9_now 23 = .ok (.ifCond .ne 12, 3) := by decide +kernel
theorem dX9_now_26 : decode cX9_now 26 = .ok (.aload_n 0, 1) := by decide +kernel
theorem dX9_now_27 : decode cX9_now 27 = .ok (.getfield 28, 3) := by decide +kernel
theorem dX9_now_30 : decode cX9_now 30 = .ok (.iconst 0, 1) := by decide +kernel
theorem dX9_now_31 : decode cX9_now 31 = .ok (.iaload, 1) := by decide +kernel
theorem dX9_now_32 : decode cX9_now 32 = .ok (.goto 24, 3) := by decide +kernel
theorem dX9_now_35 : decode cX9_now 35 = .ok (.iload_n 1, 1) := by decide +kernel
theorem dX9_now_36 : decode cX9_now 36 = .ok (.iconst 1, 1) := by decide +kernel
theorem dX9_now_37 : decode cX9_now 37 = .ok (.if_icmp .ne 10, 3) := by decide +kernel
theorem dX9_now_40 : decode cX9_now 40 = .ok (.aload_n 0, 1) := by decide +kernel
theorem dX9_now_41 : decode cX9_now 41 = .ok (.invokevirtual 186, 3) := by decide +kernel
theorem dX9_now_44 : decode cX9_now 44 = .ok (.goto 12, 3) := by decide +kernel
theorem dX9_now_47 : decode cX9_now 47 = .ok (.aload_n 0, 1) := by decide +kernel
theorem dX9_now_48 : decode cX9_now 48 = .ok (.getfield 59, 3) := by decide +kernel
theorem dX9_now_51 : decode cX9_now 51 = .ok (.aload_n 0, 1) := by decide +kernel
theorem dX9_now_52 : decode cX9_now 52 = .ok (.invokevirtual 179, 3) := by decide +kernel
theorem dX9_now_55 : decode cX9_now 55 = .ok (.iaload, 1) := by decide +kernel
theorem dX9_now_56 : decode cX9_now 56 = .ok (.ireturn, 1) := by decide +kernel
theorem dX9_now_57 : decode cX9_now 57 = .ok (.iload_n 1, 1) := by decide +kernel
theorem dX9_now_58 : decode cX9_now 58 = .ok (.iconst 3, 1) := by decide +kernel
theorem dX9_now_59 : decode cX9_now 59 = .ok (.if_icmp .ne 15, 3) := by decide +kernel
theorem dX9_now_62 : decode cX9_now 62 = .ok (.aload_n 0, 1) := by decide +kernel
theorem dX9_now_63 : decode cX9_now 63 = .ok (.getfield 62, 3) := by decide +kernel
theorem dX9_now_66 : decode cX9_now 66 = .ok (.aload_n 0, 1) := by decide +kernel
theorem dX9_now_67 : decode cX9_now 67 = .ok (.invokevirtual 179, 3) := by decide +kernel
theorem dX9_now_70 : decode cX9_now 70 = .ok (.iaload, 1) := by decide +kernel
theorem dX9_now_71 : decode cX9_now 71 = .ok (.goto 31, 3) := by decide +kernel
theorem dX9_now_74 : decode cX9_now 74 = .ok (.iload_n 1, 1) := by decide +kernel
theorem dX9_now_75 : decode cX9_now 75 = .ok (.iconst 4, 1) := by decide +kernel
theorem dX9_now_76 : decode cX9_now 76 = .ok (.if_icmp .ne 10, 3) := by decide +kernel
theorem dX9_now_79 : decode cX9_now 79 = .ok (.aload_n 0, 1) := by decide +kernel
theorem dX9_now_80 : decode cX9_now 80 = .ok (.invokevirtual 189, 3) := by decide +kernel
theorem dX9_now_83 : decode cX9_now 83 = .ok (.goto 19, 3) := by decide +kernel
theorem dX9_now_86 : decode cX9_now 86 = .ok (.iload_n 1, 1) := by decide +kernel
theorem dX9_now_87 : decode cX9_now 87 = .ok (.iconst 5, 1) := by decide +kernel
theorem dX9_now_88 : decode cX9_now 88 = .ok (.if_icmp .ne 10, 3) := by decide +kernel
theorem dX9_now_91 : decode cX9_now 91 = .ok (.aload_n 0, 1) := by decide +kernel
theorem dX9_now_92 : decode cX9_now 92 = .ok (.invokevirtual 192, 3) := by decide +kernel
theorem dX9_now_95 : decode cX9_now 95 = .ok (.goto 7, 3) := by decide +kernel
theorem dX9_now_98 : decode cX9_now 98 = .ok (.aload_n 0, 1) := by decide +kernel
theorem dX9_now_99 : decode cX9_now 99 = .ok (.getfield 135, 3) := by decide +kernel
theorem dX9_now_102 : decode cX9_now 102 = .ok (.ireturn, 1) := by decide +kernel
theorem dX9_notes_0 : decode cX9_notes 0 = .ok (.aload_n 0, 1) := by decide +kernel
theorem dX9_notes_1 : decode cX9_notes 1 = .ok (.getfield 135, 3) := by decide +kernel
theorem dX9_notes_4 : decode cX9_notes 4 = .ok (.bipush 10, 2) := by decide +kernel
theorem dX9_notes_6 : decode cX9_notes 6 = .ok (.if_icmp .ne 39, 3) := by decide +kernel
theorem dX9_notes_9 : decode cX9_notes 9 = .ok (.iconst 0, 1) := by decide +kernel
theorem dX9_notes_10 : decode cX9_notes 10 = .ok (.istore_n 1, 1) := by decide +kernel
theorem dX9_notes_11 : decode cX9_notes 11 = .ok (.iload_n 1, 1) := by decide +kernel
theorem dX9_notes_12 : decode cX9_notes 12 = .ok (.sipush 207, 3) := by decide +kernel
theorem dX9_notes_15 : decode cX9_notes 15 = .ok (.if_icmp .ge 24, 3) := by decide +kernel
theorem dX9_notes_18 : decode cX9_notes 18 = .ok (.aload_n 0, 1) := by decide +kernel
theorem dX9_notes_19 : decode cX9_notes 19 = .ok (.getfield 38, 3) := by decide +kernel
theorem dX9_notes_22 : decode cX9_notes 22 = .ok (.iload_n 1, 1) := by decide +kernel
theorem dX9_notes_23 : decode cX9_notes 23 = .ok (.aload_n 0, 1) := by decide +kernel
theorem dX9_notes_24 : decode cX9_notes 24 = .ok (.getfield 38, 3) := by decide +kernel
theorem dX9_notes_27 : decode cX9_notes 27 = .ok (.iload_n 1, 1) := by decide +kernel
theorem dX9_notes_28 : decode cX9_notes 28 = .ok (.bipush 23, 2) := by decide +kernel
theorem dX9_notes_30 : decode cX9_notes 30 = .ok (.iadd, 1) := by decide +kernel
theorem dX9_notes_31 : decode cX9_notes 31 = .ok (.iaload, 1) := by decide +kernel
theorem dX9_notes_32 : decode cX9_notes 32 = .ok (.iastore, 1) := by decide +kernel
theorem dX9_notes_33 : decode cX9_notes 33 = .ok (.iinc 1 1, 3) := by decide +kernel
theorem dX9_notes_36 : decode cX9_notes 36 = .ok (.goto (-25), 3) := by decide +kernel
theorem dX9_notes_39 : decode cX9_notes 39 = .ok (.aload_n 0, 1) := by decide +kernel
theorem dX9_notes_40 : decode cX9_notes 40 = .ok (.bipush 9, 2) := by decide +kernel
theorem dX9_notes_42 : decode cX9_notes 42 = .ok (.putfield 135, 3) := by decide +kernel
theorem dX9_notes_45 : decode cX9_notes 45 = .ok (.iconst 0, 1) := by decide +kernel
theorem dX9_notes_46 : decode cX9_notes 46 = .ok (.istore_n 1, 1) := by decide +kernel
theorem dX9_notes_47 : decode cX9_notes 47 = .ok (.iload_n 1, 1) := by decide +kernel
theorem dX9_notes_48 : decode cX9_notes 48 = .ok (.bipush 23, 2) := by decide +kernel
theorem dX9_notes_50 : decode cX9_notes 50 = .ok (.if_icmp .ge 29, 3) := by decide +kernel
theorem dX9_notes_53 : decode cX9_notes 53 = .ok (.aload_n 0, 1) := by decide +kernel
theorem dX9_notes_54 : decode cX9_notes 54 = .ok (.getfield 38, 3) := by decide +kernel
theorem dX9_notes_57 : decode cX9_notes 57 = .ok (.bipush 23, 2) := by decide +kernel
theorem dX9_notes_59 : decode cX9_notes 59 = .ok (.aload_n 0, 1) := by decide +kernel
theorem dX9_notes_60 : decode cX9_notes 60 = .ok (.getfield 135, 3) := by decide +kernel
theorem dX9_notes_63 : decode cX9_notes 63 = .ok (.imul, 1) := by decide +kernel
theorem dX9_notes_64 : decode cX9_notes 64 = .ok (.iload_n 1, 1) := by decide +kernel
theorem dX9_notes_65 : decode cX9_notes 65 = .ok (.iadd, 1) := by decide +kernel
theorem dX9_notes_66 : decode cX9_notes 66 = .ok (.aload_n 0, 1) := by decide +kernel
theorem dX9_notes_67 : decode cX9_notes 67 = .ok (.getfield 28, 3) := by decide +kernel
theorem dX9_notes_70 : decode cX9_notes 70 = .ok (.iload_n 1, 1) := by decide +kernel
theorem dX9_notes_71 : decode cX9_notes 71 = .ok (.iaload, 1) := by decide +kernel
theorem dX9_notes_72 : decode cX9_notes 72 = .ok (.iastore, 1) := by decide +kernel
theorem dX9_notes_73 : decode cX9_notes 73 = .ok (.iinc 1 1, 3) := by decide +kernel
theorem dX9_notes_76 : decode cX9_notes 76 = .ok (.goto (-29), 3) := by decide +kernel
theorem dX9_notes_79 : decode cX9_notes 79 = .ok (.aload_n 0, 1) := by decide +kernel
theorem dX9_notes_80 : decode cX9_notes 80 = .ok (.dup, 1) := by decide +kernel
theorem dX9_notes_81 : decode cX9_notes 81 = .ok (.getfield 135, 3) := by decide +kernel
theorem dX9_notes_84 : decode cX9_notes 84 = .ok (.iconst 1, 1) := by decide +kernel
theorem dX9_notes_85 : decode cX9_notes 85 = .ok (.iadd, 1) := by decide +kernel
theorem dX9_notes_86 : decode cX9_notes 86 = .ok (.putfield 135, 3) := by decide +kernel
theorem dX9_notes_89 : decode cX9_notes 89 = .ok (.return_, 1) := by decide +kernel
theorem dX9_gets_0 : decode cX9_gets 0 = .ok (.aload_n 0, 1) := by decide +kernel
theorem dX9_gets_1 : decode cX9_gets 1 = .ok (.getfield 28, 3) := by decide +kernel
theorem dX9_gets_4 : decode cX9_gets 4 = .ok (.iconst 1, 1) := by decide +kernel
theorem dX9_gets_5 : decode cX9_gets 5 = .ok (.iconst 4, 1) := by decide +kernel
theorem dX9_gets_6 : decode cX9_gets 6 = .ok (.iload_n 1, 1) := by decide +kernel
theorem dX9_gets_7 : decode cX9_gets 7 = .ok (.imul, 1) := by decide +kernel
theorem dX9_gets_8 : decode cX9_gets 8 = .ok (.iadd, 1) := by decide +kernel
theorem dX9_gets_9 : decode cX9_gets 9 = .ok (.iload_n 2, 1) := by decide +kernel
theorem dX9_gets_10 : decode cX9_gets 10 = .ok (.iadd, 1) := by decide +kernel
theorem dX9_gets_11 : decode cX9_gets 11 = .ok (.iaload, 1) := by decide +kernel
theorem dX9_gets_12 : decode cX9_gets 12 = .ok (.iload_n 3, 1) := by decide +kernel
theorem dX9_gets_13 : decode cX9_gets 13 = .ok (.iadd, 1) := by decide +kernel
theorem dX9_gets_14 : decode cX9_gets 14 = .ok (.istore 4, 2) := by decide +kernel
theorem dX9_gets_16 : decode cX9_gets 16 = .ok (.aload_n 0, 1) := by decide +kernel
theorem dX9_gets_17 : decode cX9_gets 17 = .ok (.getfield 28, 3) := by decide +kernel
theorem dX9_gets_20 : decode cX9_gets 20 = .ok (.iconst 1, 1) := by decide +kernel
theorem dX9_gets_21 : decode cX9_gets 21 = .ok (.iconst 4, 1) := by decide +kernel
theorem dX9_gets_22 : decode cX9_gets 22 = .ok (.iload_n 1, 1) := by decide +kernel
theorem dX9_gets_23 : decode cX9_gets 23 = .ok (.imul, 1) := by decide +kernel
theorem dX9_gets_24 : decode cX9_gets 24 = .ok (.iadd, 1) := by decide +kernel
theorem dX9_gets_25 : decode cX9_gets 25 = .ok (.iload_n 2, 1) := by decide +kernel
theorem dX9_gets_26 : decode cX9_gets 26 = .ok (.iadd, 1) := by decide +kernel
theorem dX9_gets_27 : decode cX9_gets 27 = .ok (.iload 4, 2) := by decide +kernel
theorem dX9_gets_29 : decode cX9_gets 29 = .ok (.bipush 9, 2) := by decide +kernel
theorem dX9_gets_31 : decode cX9_gets 31 = .ok (.if_icmp .le 8, 3) := by decide +kernel
theorem dX9_gets_34 : decode cX9_gets 34 = .ok (.bipush 9, 2) := by decide +kernel
theorem dX9_gets_36 : decode cX9_gets 36 = .ok (.goto 5, 3) := by decide +kernel
theorem dX9_gets_39 : decode cX9_gets 39 = .ok (.iload 4, 2) := by decide +kernel
theorem dX9_gets_41 : decode cX9_gets 41 = .ok (.iastore, 1) := by decide +kernel
theorem dX9_gets_42 : decode cX9_gets 42 = .ok (.return_, 1) := by decide +kernel
theorem dX9_tells_0 : decode cX9_tells 0 = .ok (.aload_n 0, 1) := by decide +kernel
theorem dX9_tells_1 : decode cX9_tells 1 = .ok (.iconst 0, 1) := by decide +kernel
theorem dX9_tells_2 : decode cX9_tells 2 = .ok (.putfield 77, 3) := by decide +kernel
theorem dX9_tells_5 : decode cX9_tells 5 = .ok (.aload_n 0, 1) := by decide +kernel
theorem dX9_tells_6 : decode cX9_tells 6 = .ok (.iload_n 1, 1) := by decide +kernel
theorem dX9_tells_7 : decode cX9_tells 7 = .ok (.iload_n 2, 1) := by decide +kernel
theorem dX9_tells_8 : decode cX9_tells 8 = .ok (.invokevirtual 156, 3) := by decide +kernel
theorem dX9_tells_11 : decode cX9_tells 11 = .ok (.ifCond .eq 10, 3) := by decide +kernel
theorem dX9_tells_14 : decode cX9_tells 14 = .ok (.iload_n 3, 1) := by decide +kernel
theorem dX9_tells_15 : decode cX9_tells 15 = .ok (.invokestatic 147, 3) := by decide +kernel
theorem dX9_tells_18 : decode cX9_tells 18 = .ok (.ifCond .ne 5, 3) := by decide +kernel
theorem dX9_tells_21 : decode cX9_tells 21 = .ok (.iconst (-1), 1) := by decide +kernel
theorem dX9_tells_22 : decode cX9_tells 22 = .ok (.ireturn, 1) := by decide +kernel
theorem dX9_tells_23 : decode cX9_tells 23 = .ok (.aload_n 0, 1) := by decide +kernel
theorem dX9_tells_24 : decode cX9_tells 24 = .ok (.getfield 28, 3) := by decide +kernel
theorem dX9_tells_27 : decode cX9_tells 27 = .ok (.iconst 1, 1) := by decide +kernel
theorem dX9_tells_28 : decode cX9_tells 28 = .ok (.iconst 4, 1) := by decide +kernel
theorem dX9_tells_29 : decode cX9_tells 29 = .ok (.iload_n 1, 1) := by decide +kernel
theorem dX9_tells_30 : decode cX9_tells 30 = .ok (.imul, 1) := by decide +kernel
theorem dX9_tells_31 : decode cX9_tells 31 = .ok (.iadd, 1) := by decide +kernel
theorem dX9_tells_32 : decode cX9_tells 32 = .ok (.iload_n 3, 1) := by decide +kernel
theorem dX9_tells_33 : decode cX9_tells 33 = .ok (.iadd, 1) := by decide +kernel
theorem dX9_tells_34 : decode cX9_tells 34 = .ok (.iaload, 1) := by decide +kernel
theorem dX9_tells_35 : decode cX9_tells 35 = .ok (.ifCond .ne 6, 3) := by decide +kernel
theorem dX9_tells_38 : decode cX9_tells 38 = .ok (.bipush (-2), 2) := by decide +kernel
theorem dX9_tells_40 : decode cX9_tells 40 = .ok (.ireturn, 1) := by decide +kernel
theorem dX9_tells_41 : decode cX9_tells 41 = .ok (.aload_n 0, 1) := by decide +kernel
theorem dX9_tells_42 : decode cX9_tells 42 = .ok (.invokevirtual 195, 3) := by decide +kernel
theorem dX9_tells_45 : decode cX9_tells 45 = .ok (.aload_n 0, 1) := by decide +kernel
theorem dX9_tells_46 : decode cX9_tells 46 = .ok (.getfield 28, 3) := by decide +kernel
theorem dX9_tells_49 : decode cX9_tells 49 = .ok (.iconst 1, 1) := by decide +kernel
theorem dX9_tells_50 : decode cX9_tells 50 = .ok (.iconst 4, 1) := by decide +kernel
theorem dX9_tells_51 : decode cX9_tells 51 = .ok (.iload_n 1, 1) := by decide +kernel
theorem dX9_tells_52 : decode cX9_tells 52 = .ok (.imul, 1) := by decide +kernel
theorem dX9_tells_53 : decode cX9_tells 53 = .ok (.iadd, 1) := by decide +kernel
theorem dX9_tells_54 : decode cX9_tells 54 = .ok (.iload_n 3, 1) := by decide +kernel
theorem dX9_tells_55 : decode cX9_tells 55 = .ok (.iadd, 1) := by decide +kernel
theorem dX9_tells_56 : decode cX9_tells 56 = .ok (.dup2, 1) := by decide +kernel
theorem dX9_tells_57 : decode cX9_tells 57 = .ok (.iaload, 1) := by decide +kernel
theorem dX9_tells_58 : decode cX9_tells 58 = .ok (.iconst 1, 1) := by decide +kernel
theorem dX9_tells_59 : decode cX9_tells 59 = .ok (.isub, 1) := by decide +kernel
theorem dX9_tells_60 : decode cX9_tells 60 = .ok (.iastore, 1) := by decide +kernel
theorem dX9_tells_61 : decode cX9_tells 61 = .ok (.iload_n 3, 1) := by decide +kernel
theorem dX9_tells_62 : decode cX9_tells 62 = .ok (.ifCond .le 12, 3) := by decide +kernel
theorem dX9_tells_65 : decode cX9_tells 65 = .ok (.aload_n 0, 1) := by decide +kernel
theorem dX9_tells_66 : decode cX9_tells 66 = .ok (.iload_n 2, 1) := by decide +kernel
theorem dX9_tells_67 : decode cX9_tells 67 = .ok (.iload_n 3, 1) := by decide +kernel
theorem dX9_tells_68 : decode cX9_tells 68 = .ok (.iconst 1, 1) := by decide +kernel
theorem dX9_tells_69 : decode cX9_tells 69 = .ok (.isub, 1) := by decide +kernel
theorem dX9_tells_70 : decode cX9_tells 70 = .ok (.iconst 1, 1) := by decide +kernel
theorem dX9_tells_71 : decode cX9_tells 71 = .ok (.invokevirtual 198, 3) := by decide +kernel
theorem dX9_tells_74 : decode cX9_tells 74 = .ok (.aload_n 0, 1) := by decide +kernel
theorem dX9_tells_75 : decode cX9_tells 75 = .ok (.iload_n 1, 1) := by decide +kernel
theorem dX9_tells_76 : decode cX9_tells 76 = .ok (.invokevirtual 150, 3) := by decide +kernel
theorem dX9_tells_79 : decode cX9_tells 79 = .ok (.ireturn, 1) := by decide +kernel
theorem dX9_keeps_0 : decode cX9_keeps 0 = .ok (.aload_n 0, 1) := by decide +kernel
theorem dX9_keeps_1 : decode cX9_keeps 1 = .ok (.iconst 0, 1) := by decide +kernel
theorem dX9_keeps_2 : decode cX9_keeps 2 = .ok (.putfield 77, 3) := by decide +kernel
theorem dX9_keeps_5 : decode cX9_keeps 5 = .ok (.aload_n 0, 1) := by decide +kernel
theorem dX9_keeps_6 : decode cX9_keeps 6 = .ok (.iload_n 1, 1) := by decide +kernel
theorem dX9_keeps_7 : decode cX9_keeps 7 = .ok (.invokevirtual 143, 3) := by decide +kernel
theorem dX9_keeps_10 : decode cX9_keeps 10 = .ok (.ifCond .eq 10, 3) := by decide +kernel
theorem dX9_keeps_13 : decode cX9_keeps 13 = .ok (.iload_n 2, 1) := by decide +kernel
theorem dX9_keeps_14 : decode cX9_keeps 14 = .ok (.invokestatic 147, 3) := by decide +kernel
theorem dX9_keeps_17 : decode cX9_keeps 17 = .ok (.ifCond .ne 5, 3) := by decide +kernel
theorem dX9_keeps_20 : decode cX9_keeps 20 = .ok (.iconst (-1), 1) := by decide +kernel
theorem dX9_keeps_21 : decode cX9_keeps 21 = .ok (.ireturn, 1) := by decide +kernel
theorem dX9_keeps_22 : decode cX9_keeps 22 = .ok (.aload_n 0, 1) := by decide +kernel
theorem dX9_keeps_23 : decode cX9_keeps 23 = .ok (.getfield 28, 3) := by decide +kernel
theorem dX9_keeps_26 : decode cX9_keeps 26 = .ok (.iconst 1, 1) := by decide +kernel
theorem dX9_keeps_27 : decode cX9_keeps 27 = .ok (.iconst 4, 1) := by decide +kernel
theorem dX9_keeps_28 : decode cX9_keeps 28 = .ok (.iload_n 1, 1) := by decide +kernel
theorem dX9_keeps_29 : decode cX9_keeps 29 = .ok (.imul, 1) := by decide +kernel
theorem dX9_keeps_30 : decode cX9_keeps 30 = .ok (.iadd, 1) := by decide +kernel
theorem dX9_keeps_31 : decode cX9_keeps 31 = .ok (.iload_n 2, 1) := by decide +kernel
theorem dX9_keeps_32 : decode cX9_keeps 32 = .ok (.iadd, 1) := by decide +kernel
theorem dX9_keeps_33 : decode cX9_keeps 33 = .ok (.iaload, 1) := by decide +kernel
theorem dX9_keeps_34 : decode cX9_keeps 34 = .ok (.bipush 9, 2) := by decide +kernel
theorem dX9_keeps_36 : decode cX9_keeps 36 = .ok (.if_icmp .ne 6, 3) := by decide +kernel
theorem dX9_keeps_39 : decode cX9_keeps 39 = .ok (.bipush (-2), 2) := by decide +kernel
theorem dX9_keeps_41 : decode cX9_keeps 41 = .ok (.ireturn, 1) := by decide +kernel
theorem dX9_keeps_42 : decode cX9_keeps 42 = .ok (.aload_n 0, 1) := by decide +kernel
theorem dX9_keeps_43 : decode cX9_keeps 43 = .ok (.invokevirtual 195, 3) := by decide +kernel
theorem dX9_keeps_46 : decode cX9_keeps 46 = .ok (.aload_n 0, 1) := by decide +kernel
theorem dX9_keeps_47 : decode cX9_keeps 47 = .ok (.iload_n 1, 1) := by decide +kernel
theorem dX9_keeps_48 : decode cX9_keeps 48 = .ok (.iload_n 2, 1) := by decide +kernel
theorem dX9_keeps_49 : decode cX9_keeps 49 = .ok (.iconst 1, 1) := by decide +kernel
theorem dX9_keeps_50 : decode cX9_keeps 50 = .ok (.invokevirtual 198, 3) := by decide +kernel
theorem dX9_keeps_53 : decode cX9_keeps 53 = .ok (.aload_n 0, 1) := by decide +kernel
theorem dX9_keeps_54 : decode cX9_keeps 54 = .ok (.getfield 28, 3) := by decide +kernel
theorem dX9_keeps_57 : decode cX9_keeps 57 = .ok (.iconst 1, 1) := by decide +kernel
theorem dX9_keeps_58 : decode cX9_keeps 58 = .ok (.iconst 4, 1) := by decide +kernel
theorem dX9_keeps_59 : decode cX9_keeps 59 = .ok (.iload_n 1, 1) := by decide +kernel
theorem dX9_keeps_60 : decode cX9_keeps 60 = .ok (.imul, 1) := by decide +kernel
theorem dX9_keeps_61 : decode cX9_keeps 61 = .ok (.iadd, 1) := by decide +kernel
theorem dX9_keeps_62 : decode cX9_keeps 62 = .ok (.iload_n 2, 1) := by decide +kernel
theorem dX9_keeps_63 : decode cX9_keeps 63 = .ok (.iadd, 1) := by decide +kernel
theorem dX9_keeps_64 : decode cX9_keeps 64 = .ok (.iaload, 1) := by decide +kernel
theorem dX9_keeps_65 : decode cX9_keeps 65 = .ok (.ireturn, 1) := by decide +kernel
theorem dX9_day_0 : decode cX9_day 0 = .ok (.aload_n 0, 1) := by decide +kernel
theorem dX9_day_1 : decode cX9_day 1 = .ok (.iconst 0, 1) := by decide +kernel
theorem dX9_day_2 : decode cX9_day 2 = .ok (.putfield 77, 3) := by decide +kernel
theorem dX9_day_5 : decode cX9_day 5 = .ok (.aload_n 0, 1) := by decide +kernel
theorem dX9_day_6 : decode cX9_day 6 = .ok (.getfield 28, 3) := by decide +kernel
theorem dX9_day_9 : decode cX9_day 9 = .ok (.iconst 0, 1) := by decide +kernel
theorem dX9_day_10 : decode cX9_day 10 = .ok (.iaload, 1) := by decide +kernel
theorem dX9_day_11 : decode cX9_day 11 = .ok (.sipush 999, 3) := by decide +kernel
theorem dX9_day_14 : decode cX9_day 14 = .ok (.if_icmp .ne 6, 3) := by decide +kernel
theorem dX9_day_17 : decode cX9_day 17 = .ok (.bipush (-2), 2) := by decide +kernel
theorem dX9_day_19 : decode cX9_day 19 = .ok (.ireturn, 1) := by decide +kernel
theorem dX9_day_20 : decode cX9_day 20 = .ok (.aload_n 0, 1) := by decide +kernel
theorem dX9_day_21 : decode cX9_day 21 = .ok (.invokevirtual 195, 3) := by decide +kernel
theorem dX9_day_24 : decode cX9_day 24 = .ok (.aload_n 0, 1) := by decide +kernel
theorem dX9_day_25 : decode cX9_day 25 = .ok (.getfield 28, 3) := by decide +kernel
theorem dX9_day_28 : decode cX9_day 28 = .ok (.iconst 0, 1) := by decide +kernel
theorem dX9_day_29 : decode cX9_day 29 = .ok (.dup2, 1) := by decide +kernel
theorem dX9_day_30 : decode cX9_day 30 = .ok (.iaload, 1) := by decide +kernel
theorem dX9_day_31 : decode cX9_day 31 = .ok (.iconst 1, 1) := by decide +kernel
theorem dX9_day_32 : decode cX9_day 32 = .ok (.iadd, 1) := by decide +kernel
theorem dX9_day_33 : decode cX9_day 33 = .ok (.iastore, 1) := by decide +kernel
theorem dX9_day_34 : decode cX9_day 34 = .ok (.iconst 0, 1) := by decide +kernel
theorem dX9_day_35 : decode cX9_day 35 = .ok (.istore_n 1, 1) := by decide +kernel
theorem dX9_day_36 : decode cX9_day 36 = .ok (.iload_n 1, 1) := by decide +kernel
theorem dX9_day_37 : decode cX9_day 37 = .ok (.bipush 16, 2) := by decide +kernel
theorem dX9_day_39 : decode cX9_day 39 = .ok (.if_icmp .ge 25, 3) := by decide +kernel
theorem dX9_day_42 : decode cX9_day 42 = .ok (.aload_n 0, 1) := by decide +kernel
theorem dX9_day_43 : decode cX9_day 43 = .ok (.iload_n 1, 1) := by decide +kernel
theorem dX9_day_44 : decode cX9_day 44 = .ok (.iconst 4, 1) := by decide +kernel
theorem dX9_day_45 : decode cX9_day 45 = .ok (.idiv, 1) := by decide +kernel
theorem dX9_day_46 : decode cX9_day 46 = .ok (.iload_n 1, 1) := by decide +kernel
theorem dX9_day_47 : decode cX9_day 47 = .ok (.iconst 4, 1) := by decide +kernel
theorem dX9_day_48 : decode cX9_day 48 = .ok (.irem, 1) := by decide +kernel
theorem dX9_day_49 : decode cX9_day 49 = .ok (.aload_n 0, 1) := by decide +kernel
theorem dX9_day_50 : decode cX9_day 50 = .ok (.getfield 22, 3) := by decide +kernel
theorem dX9_day_53 : decode cX9_day 53 = .ok (.iload_n 1, 1) := by decide +kernel
theorem dX9_day_54 : decode cX9_day 54 = .ok (.iaload, 1) := by decide +kernel
theorem dX9_day_55 : decode cX9_day 55 = .ok (.invokevirtual 198, 3) := by decide +kernel
theorem dX9_day_58 : decode cX9_day 58 = .ok (.iinc 1 1, 3) := by decide +kernel
theorem dX9_day_61 : decode cX9_day 61 = .ok (.goto (-25), 3) := by decide +kernel
theorem dX9_day_64 : decode cX9_day 64 = .ok (.aload_n 0, 1) := by decide +kernel
theorem dX9_day_65 : decode cX9_day 65 = .ok (.getfield 28, 3) := by decide +kernel
theorem dX9_day_68 : decode cX9_day 68 = .ok (.iconst 0, 1) := by decide +kernel
theorem dX9_day_69 : decode cX9_day 69 = .ok (.iaload, 1) := by decide +kernel
theorem dX9_day_70 : decode cX9_day 70 = .ok (.ireturn, 1) := by decide +kernel
theorem dX9_weighs_0 : decode cX9_weighs 0 = .ok (.aload_n 0, 1) := by decide +kernel
theorem dX9_weighs_1 : decode cX9_weighs 1 = .ok (.iconst 0, 1) := by decide +kernel
theorem dX9_weighs_2 : decode cX9_weighs 2 = .ok (.putfield 77, 3) := by decide +kernel
theorem dX9_weighs_5 : decode cX9_weighs 5 = .ok (.aload_n 0, 1) := by decide +kernel
theorem dX9_weighs_6 : decode cX9_weighs 6 = .ok (.iload_n 1, 1) := by decide +kernel
theorem dX9_weighs_7 : decode cX9_weighs 7 = .ok (.iload_n 2, 1) := by decide +kernel
theorem dX9_weighs_8 : decode cX9_weighs 8 = .ok (.invokevirtual 156, 3) := by decide +kernel
theorem dX9_weighs_11 : decode cX9_weighs 11 = .ok (.ifCond .ne 5, 3) := by decide +kernel
theorem dX9_weighs_14 : decode cX9_weighs 14 = .ok (.iconst (-1), 1) := by decide +kernel
theorem dX9_weighs_15 : decode cX9_weighs 15 = .ok (.ireturn, 1) := by decide +kernel
theorem dX9_weighs_16 : decode cX9_weighs 16 = .ok (.aload_n 0, 1) := by decide +kernel
theorem dX9_weighs_17 : decode cX9_weighs 17 = .ok (.invokevirtual 195, 3) := by decide +kernel
theorem dX9_weighs_20 : decode cX9_weighs 20 = .ok (.aload_n 0, 1) := by decide +kernel
theorem dX9_weighs_21 : decode cX9_weighs 21 = .ok (.iload_n 1, 1) := by decide +kernel
theorem dX9_weighs_22 : decode cX9_weighs 22 = .ok (.invokevirtual 150, 3) := by decide +kernel
theorem dX9_weighs_25 : decode cX9_weighs 25 = .ok (.aload_n 0, 1) := by decide +kernel
theorem dX9_weighs_26 : decode cX9_weighs 26 = .ok (.iload_n 2, 1) := by decide +kernel
theorem dX9_weighs_27 : decode cX9_weighs 27 = .ok (.invokevirtual 150, 3) := by decide +kernel
theorem dX9_weighs_30 : decode cX9_weighs 30 = .ok (.isub, 1) := by decide +kernel
theorem dX9_weighs_31 : decode cX9_weighs 31 = .ok (.istore_n 3, 1) := by decide +kernel
theorem dX9_weighs_32 : decode cX9_weighs 32 = .ok (.iload_n 3, 1) := by decide +kernel
theorem dX9_weighs_33 : decode cX9_weighs 33 = .ok (.ifCond .le 7, 3) := by decide +kernel
theorem dX9_weighs_36 : decode cX9_weighs 36 = .ok (.iconst 1, 1) := by decide +kernel
theorem dX9_weighs_37 : decode cX9_weighs 37 = .ok (.goto 12, 3) := by decide +kernel
theorem dX9_weighs_40 : decode cX9_weighs 40 = .ok (.iload_n 3, 1) := by decide +kernel
theorem dX9_weighs_41 : decode cX9_weighs 41 = .ok (.ifCond .ge 7, 3) := by decide +kernel
theorem dX9_weighs_44 : decode cX9_weighs 44 = .ok (.iconst 2, 1) := by decide +kernel
theorem dX9_weighs_45 : decode cX9_weighs 45 = .ok (.goto 4, 3) := by decide +kernel
theorem dX9_weighs_48 : decode cX9_weighs 48 = .ok (.iconst 0, 1) := by decide +kernel
theorem dX9_weighs_49 : decode cX9_weighs 49 = .ok (.istore 4, 2) := by decide +kernel
theorem dX9_weighs_51 : decode cX9_weighs 51 = .ok (.aload_n 0, 1) := by decide +kernel
theorem dX9_weighs_52 : decode cX9_weighs 52 = .ok (.getfield 28, 3) := by decide +kernel
theorem dX9_weighs_55 : decode cX9_weighs 55 = .ok (.bipush 17, 2) := by decide +kernel
theorem dX9_weighs_57 : decode cX9_weighs 57 = .ok (.iload_n 1, 1) := by decide +kernel
theorem dX9_weighs_58 : decode cX9_weighs 58 = .ok (.iload_n 2, 1) := by decide +kernel
theorem dX9_weighs_59 : decode cX9_weighs 59 = .ok (.invokestatic 160, 3) := by decide +kernel
theorem dX9_weighs_62 : decode cX9_weighs 62 = .ok (.iadd, 1) := by decide +kernel
theorem dX9_weighs_63 : decode cX9_weighs 63 = .ok (.iconst 1, 1) := by decide +kernel
theorem dX9_weighs_64 : decode cX9_weighs 64 = .ok (.iload_n 1, 1) := by decide +kernel
theorem dX9_weighs_65 : decode cX9_weighs 65 = .ok (.iload_n 2, 1) := by decide +kernel
theorem dX9_weighs_66 : decode cX9_weighs 66 = .ok (.if_icmp .ge 8, 3) := by decide +kernel
theorem dX9_weighs_69 : decode cX9_weighs 69 = .ok (.iload 4, 2) := by decide +kernel
theorem dX9_weighs_71 : decode cX9_weighs 71 = .ok (.goto 8, 3) := by decide +kernel
theorem dX9_weighs_74 : decode cX9_weighs 74 = .ok (.iload 4, 2) := by decide +kernel
theorem dX9_weighs_76 : decode cX9_weighs 76 = .ok (.invokestatic 163, 3) := by decide +kernel
theorem dX9_weighs_79 : decode cX9_weighs 79 = .ok (.iadd, 1) := by decide +kernel
theorem dX9_weighs_80 : decode cX9_weighs 80 = .ok (.iastore, 1) := by decide +kernel
theorem dX9_weighs_81 : decode cX9_weighs 81 = .ok (.iload 4, 2) := by decide +kernel
theorem dX9_weighs_83 : decode cX9_weighs 83 = .ok (.ireturn, 1) := by decide +kernel
theorem dX9_forgets_0 : decode cX9_forgets 0 = .ok (.aload_n 0, 1) := by decide +kernel
theorem dX9_forgets_1 : decode cX9_forgets 1 = .ok (.iconst 0, 1) := by decide +kernel
theorem dX9_forgets_2 : decode cX9_forgets 2 = .ok (.putfield 77, 3) := by decide +kernel
theorem dX9_forgets_5 : decode cX9_forgets 5 = .ok (.aload_n 0, 1) := by decide +kernel
theorem dX9_forgets_6 : decode cX9_forgets 6 = .ok (.invokevirtual 195, 3) := by decide +kernel
theorem dX9_forgets_9 : decode cX9_forgets 9 = .ok (.aload_n 0, 1) := by decide +kernel
theorem dX9_forgets_10 : decode cX9_forgets 10 = .ok (.invokevirtual 186, 3) := by decide +kernel
theorem dX9_forgets_13 : decode cX9_forgets 13 = .ok (.istore_n 1, 1) := by decide +kernel
theorem dX9_forgets_14 : decode cX9_forgets 14 = .ok (.iconst 0, 1) := by decide +kernel
theorem dX9_forgets_15 : decode cX9_forgets 15 = .ok (.istore_n 2, 1) := by decide +kernel
theorem dX9_forgets_16 : decode cX9_forgets 16 = .ok (.iload_n 2, 1) := by decide +kernel
theorem dX9_forgets_17 : decode cX9_forgets 17 = .ok (.bipush 6, 2) := by decide +kernel
theorem dX9_forgets_19 : decode cX9_forgets 19 = .ok (.if_icmp .ge 19, 3) := by decide +kernel
theorem dX9_forgets_22 : decode cX9_forgets 22 = .ok (.aload_n 0, 1) := by decide +kernel
theorem dX9_forgets_23 : decode cX9_forgets 23 = .ok (.getfield 28, 3) := by decide +kernel
theorem dX9_forgets_26 : decode cX9_forgets 26 = .ok (.bipush 17, 2) := by decide +kernel
theorem dX9_forgets_28 : decode cX9_forgets 28 = .ok (.iload_n 2, 1) := by decide +kernel
theorem dX9_forgets_29 : decode cX9_forgets 29 = .ok (.iadd, 1) := by decide +kernel
theorem dX9_forgets_30 : decode cX9_forgets 30 = .ok (.iconst 0, 1) := by decide +kernel
theorem dX9_forgets_31 : decode cX9_forgets 31 = .ok (.iastore, 1) := by decide +kernel
theorem dX9_forgets_32 : decode cX9_forgets 32 = .ok (.iinc 2 1, 3) := by decide +kernel
theorem dX9_forgets_35 : decode cX9_forgets 35 = .ok (.goto (-19), 3) := by decide +kernel
theorem dX9_forgets_38 : decode cX9_forgets 38 = .ok (.iload_n 1, 1) := by decide +kernel
theorem dX9_forgets_39 : decode cX9_forgets 39 = .ok (.ireturn, 1) := by decide +kernel
theorem dX9_undo_0 : decode cX9_undo 0 = .ok (.aload_n 0, 1) := by decide +kernel
theorem dX9_undo_1 : decode cX9_undo 1 = .ok (.iconst 0, 1) := by decide +kernel
theorem dX9_undo_2 : decode cX9_undo 2 = .ok (.putfield 77, 3) := by decide +kernel
theorem dX9_undo_5 : decode cX9_undo 5 = .ok (.aload_n 0, 1) := by decide +kernel
theorem dX9_undo_6 : decode cX9_undo 6 = .ok (.getfield 135, 3) := by decide +kernel
theorem dX9_undo_9 : decode cX9_undo 9 = .ok (.ifCond .ne 6, 3) := by decide +kernel
theorem dX9_undo_12 : decode cX9_undo 12 = .ok (.bipush (-2), 2) := by decide +kernel
theorem dX9_undo_14 : decode cX9_undo 14 = .ok (.ireturn, 1) := by decide +kernel
theorem dX9_undo_15 : decode cX9_undo 15 = .ok (.aload_n 0, 1) := by decide +kernel
theorem dX9_undo_16 : decode cX9_undo 16 = .ok (.dup, 1) := by decide +kernel
theorem dX9_undo_17 : decode cX9_undo 17 = .ok (.getfield 135, 3) := by decide +kernel
theorem dX9_undo_20 : decode cX9_undo 20 = .ok (.iconst 1, 1) := by decide +kernel
theorem dX9_undo_21 : decode cX9_undo 21 = .ok (.isub, 1) := by decide +kernel
theorem dX9_undo_22 : decode cX9_undo 22 = .ok (.putfield 135, 3) := by decide +kernel
theorem dX9_undo_25 : decode cX9_undo 25 = .ok (.iconst 0, 1) := by decide +kernel
theorem dX9_undo_26 : decode cX9_undo 26 = .ok (.istore_n 1, 1) := by decide +kernel
theorem dX9_undo_27 : decode cX9_undo 27 = .ok (.iload_n 1, 1) := by decide +kernel
theorem dX9_undo_28 : decode cX9_undo 28 = .ok (.bipush 23, 2) := by decide +kernel
theorem dX9_undo_30 : decode cX9_undo 30 = .ok (.if_icmp .ge 29, 3) := by decide +kernel
theorem dX9_undo_33 : decode cX9_undo 33 = .ok (.aload_n 0, 1) := by decide +kernel
theorem dX9_undo_34 : decode cX9_undo 34 = .ok (.getfield 28, 3) := by decide +kernel
theorem dX9_undo_37 : decode cX9_undo 37 = .ok (.iload_n 1, 1) := by decide +kernel
theorem dX9_undo_38 : decode cX9_undo 38 = .ok (.aload_n 0, 1) := by decide +kernel
theorem dX9_undo_39 : decode cX9_undo 39 = .ok (.getfield 38, 3) := by decide +kernel
theorem dX9_undo_42 : decode cX9_undo 42 = .ok (.bipush 23, 2) := by decide +kernel
theorem dX9_undo_44 : decode cX9_undo 44 = .ok (.aload_n 0, 1) := by decide +kernel
theorem dX9_undo_45 : decode cX9_undo 45 = .ok (.getfield 135, 3) := by decide +kernel
theorem dX9_undo_48 : decode cX9_undo 48 = .ok (.imul, 1) := by decide +kernel
theorem dX9_undo_49 : decode cX9_undo 49 = .ok (.iload_n 1, 1) := by decide +kernel
theorem dX9_undo_50 : decode cX9_undo 50 = .ok (.iadd, 1) := by decide +kernel
theorem dX9_undo_51 : decode cX9_undo 51 = .ok (.iaload, 1) := by decide +kernel
theorem dX9_undo_52 : decode cX9_undo 52 = .ok (.iastore, 1) := by decide +kernel
theorem dX9_undo_53 : decode cX9_undo 53 = .ok (.iinc 1 1, 3) := by decide +kernel
theorem dX9_undo_56 : decode cX9_undo 56 = .ok (.goto (-29), 3) := by decide +kernel
theorem dX9_undo_59 : decode cX9_undo 59 = .ok (.aload_n 0, 1) := by decide +kernel
theorem dX9_undo_60 : decode cX9_undo 60 = .ok (.getfield 135, 3) := by decide +kernel
theorem dX9_undo_63 : decode cX9_undo 63 = .ok (.ireturn, 1) := by decide +kernel
theorem dX9_beam_0 : decode cX9_beam 0 = .ok (.aload_n 0, 1) := by decide +kernel
theorem dX9_beam_1 : decode cX9_beam 1 = .ok (.iconst 0, 1) := by decide +kernel
theorem dX9_beam_2 : decode cX9_beam 2 = .ok (.putfield 77, 3) := by decide +kernel
theorem dX9_beam_5 : decode cX9_beam 5 = .ok (.aload_n 0, 1) := by decide +kernel
theorem dX9_beam_6 : decode cX9_beam 6 = .ok (.iload_n 1, 1) := by decide +kernel
theorem dX9_beam_7 : decode cX9_beam 7 = .ok (.iload_n 2, 1) := by decide +kernel
theorem dX9_beam_8 : decode cX9_beam 8 = .ok (.invokevirtual 156, 3) := by decide +kernel
theorem dX9_beam_11 : decode cX9_beam 11 = .ok (.ifCond .eq 17, 3) := by decide +kernel
theorem dX9_beam_14 : decode cX9_beam 14 = .ok (.aload_n 0, 1) := by decide +kernel
theorem dX9_beam_15 : decode cX9_beam 15 = .ok (.iload_n 1, 1) := by decide +kernel
theorem dX9_beam_16 : decode cX9_beam 16 = .ok (.invokevirtual 150, 3) := by decide +kernel
theorem dX9_beam_19 : decode cX9_beam 19 = .ok (.aload_n 0, 1) := by decide +kernel
theorem dX9_beam_20 : decode cX9_beam 20 = .ok (.iload_n 2, 1) := by decide +kernel
theorem dX9_beam_21 : decode cX9_beam 21 = .ok (.invokevirtual 150, 3) := by decide +kernel
theorem dX9_beam_24 : decode cX9_beam 24 = .ok (.isub, 1) := by decide +kernel
theorem dX9_beam_25 : decode cX9_beam 25 = .ok (.goto 5, 3) := by decide +kernel
theorem dX9_beam_28 : decode cX9_beam 28 = .ok (.ldc 202, 2) := by decide +kernel
theorem dX9_beam_30 : decode cX9_beam 30 = .ok (.ireturn, 1) := by decide +kernel
theorem dX9_sheds_0 : decode cX9_sheds 0 = .ok (.iconst 0, 1) := by decide +kernel
theorem dX9_sheds_1 : decode cX9_sheds 1 = .ok (.istore_n 3, 1) := by decide +kernel
theorem dX9_sheds_2 : decode cX9_sheds 2 = .ok (.iload_n 3, 1) := by decide +kernel
theorem dX9_sheds_3 : decode cX9_sheds 3 = .ok (.sipush 721, 3) := by decide +kernel
theorem dX9_sheds_6 : decode cX9_sheds 6 = .ok (.if_icmp .ge 19, 3) := by decide +kernel
theorem dX9_sheds_9 : decode cX9_sheds 9 = .ok (.aload_n 0, 1) := by decide +kernel
theorem dX9_sheds_10 : decode cX9_sheds 10 = .ok (.getfield 65, 3) := by decide +kernel
theorem dX9_sheds_13 : decode cX9_sheds 13 = .ok (.iload_n 1, 1) := by decide +kernel
theorem dX9_sheds_14 : decode cX9_sheds 14 = .ok (.iload_n 3, 1) := by decide +kernel
theorem dX9_sheds_15 : decode cX9_sheds 15 = .ok (.iadd, 1) := by decide +kernel
theorem dX9_sheds_16 : decode cX9_sheds 16 = .ok (.ldc 175, 2) := by decide +kernel
theorem dX9_sheds_18 : decode cX9_sheds 18 = .ok (.iastore, 1) := by decide +kernel
theorem dX9_sheds_19 : decode cX9_sheds 19 = .ok (.iinc 3 1, 3) := by decide +kernel
theorem dX9_sheds_22 : decode cX9_sheds 22 = .ok (.goto (-20), 3) := by decide +kernel
theorem dX9_sheds_25 : decode cX9_sheds 25 = .ok (.aload_n 0, 1) := by decide +kernel
theorem dX9_sheds_26 : decode cX9_sheds 26 = .ok (.iload_n 2, 1) := by decide +kernel
theorem dX9_sheds_27 : decode cX9_sheds 27 = .ok (.invokevirtual 150, 3) := by decide +kernel
theorem dX9_sheds_30 : decode cX9_sheds 30 = .ok (.istore_n 3, 1) := by decide +kernel
theorem dX9_sheds_31 : decode cX9_sheds 31 = .ok (.iconst 0, 1) := by decide +kernel
theorem dX9_sheds_32 : decode cX9_sheds 32 = .ok (.istore 4, 2) := by decide +kernel
theorem dX9_sheds_34 : decode cX9_sheds 34 = .ok (.iload 4, 2) := by decide +kernel
theorem dX9_sheds_36 : decode cX9_sheds 36 = .ok (.sipush 10000, 3) := by decide +kernel
theorem dX9_sheds_39 : decode cX9_sheds 39 = .ok (.if_icmp .ge 98, 3) := by decide +kernel
theorem dX9_sheds_42 : decode cX9_sheds 42 = .ok (.aload_n 0, 1) := by decide +kernel
theorem dX9_sheds_43 : decode cX9_sheds 43 = .ok (.iload_n 2, 1) := by decide +kernel
theorem dX9_sheds_44 : decode cX9_sheds 44 = .ok (.iload 4, 2) := by decide +kernel
theorem dX9_sheds_46 : decode cX9_sheds 46 = .ok (.invokevirtual 203, 3) := by decide +kernel
theorem dX9_sheds_49 : decode cX9_sheds 49 = .ok (.ifCond .eq 82, 3) := by decide +kernel
theorem dX9_sheds_52 : decode cX9_sheds 52 = .ok (.iload_n 3, 1) := by decide +kernel
theorem dX9_sheds_53 : decode cX9_sheds 53 = .ok (.aload_n 0, 1) := by decide +kernel
theorem dX9_sheds_54 : decode cX9_sheds 54 = .ok (.iload 4, 2) := by decide +kernel
theorem dX9_sheds_56 : decode cX9_sheds 56 = .ok (.invokevirtual 206, 3) := by decide +kernel
theorem dX9_sheds_59 : decode cX9_sheds 59 = .ok (.isub, 1) := by decide +kernel
theorem dX9_sheds_60 : decode cX9_sheds 60 = .ok (.istore 5, 2) := by decide +kernel
theorem dX9_sheds_62 : decode cX9_sheds 62 = .ok (.iload 4, 2) := by decide +kernel
theorem dX9_sheds_64 : decode cX9_sheds 64 = .ok (.sipush 1000, 3) := by decide +kernel
theorem dX9_sheds_67 : decode cX9_sheds 67 = .ok (.idiv, 1) := by decide +kernel
theorem dX9_sheds_68 : decode cX9_sheds 68 = .ok (.iload 4, 2) := by decide +kernel
theorem dX9_sheds_70 : decode cX9_sheds 70 = .ok (.bipush 100, 2) := by decide +kernel
theorem dX9_sheds_72 : decode cX9_sheds 72 = .ok (.idiv, 1) := by decide +kernel
theorem dX9_sheds_73 : decode cX9_sheds 73 = .ok (.bipush 10, 2) := by decide +kernel
theorem dX9_sheds_75 : decode cX9_sheds 75 = .ok (.irem, 1) := by decide +kernel
theorem dX9_sheds_76 : decode cX9_sheds 76 = .ok (.iadd, 1) := by decide +kernel
theorem dX9_sheds_77 : decode cX9_sheds 77 = .ok (.iload 4, 2) := by decide +kernel
theorem dX9_sheds_79 : decode cX9_sheds 79 = .ok (.bipush 10, 2) := by decide +kernel
theorem dX9_sheds_81 : decode cX9_sheds 81 = .ok (.idiv, 1) := by decide +kernel
theorem dX9_sheds_82 : decode cX9_sheds 82 = .ok (.bipush 10, 2) := by decide +kernel
theorem dX9_sheds_84 : decode cX9_sheds 84 = .ok (.irem, 1) := by decide +kernel
theorem dX9_sheds_85 : decode cX9_sheds 85 = .ok (.iadd, 1) := by decide +kernel
theorem dX9_sheds_86 : decode cX9_sheds 86 = .ok (.iload 4, 2) := by decide +kernel
theorem dX9_sheds_88 : decode cX9_sheds 88 = .ok (.bipush 10, 2) := by decide +kernel
theorem dX9_sheds_90 : decode cX9_sheds 90 = .ok (.irem, 1) := by decide +kernel
theorem dX9_sheds_91 : decode cX9_sheds 91 = .ok (.iadd, 1) := by decide +kernel
theorem dX9_sheds_92 : decode cX9_sheds 92 = .ok (.istore 6, 2) := by decide +kernel
theorem dX9_sheds_94 : decode cX9_sheds 94 = .ok (.aload_n 0, 1) := by decide +kernel
theorem dX9_sheds_95 : decode cX9_sheds 95 = .ok (.getfield 65, 3) := by decide +kernel
theorem dX9_sheds_98 : decode cX9_sheds 98 = .ok (.iload_n 1, 1) := by decide +kernel
theorem dX9_sheds_99 : decode cX9_sheds 99 = .ok (.iload 5, 2) := by decide +kernel
theorem dX9_sheds_101 : decode cX9_sheds 101 = .ok (.iadd, 1) := by decide +kernel
theorem dX9_sheds_102 : decode cX9_sheds 102 = .ok (.iload 6, 2) := by decide +kernel
theorem dX9_sheds_104 : decode cX9_sheds 104 = .ok (.aload_n 0, 1) := by decide +kernel
theorem dX9_sheds_105 : decode cX9_sheds 105 = .ok (.getfield 65, 3) := by decide +kernel
theorem dX9_sheds_108 : decode cX9_sheds 108 = .ok (.iload_n 1, 1) := by decide +kernel
theorem dX9_sheds_109 : decode cX9_sheds 109 = .ok (.iload 5, 2) := by decide +kernel
theorem dX9_sheds_111 : decode cX9_sheds 111 = .ok (.iadd, 1) := by decide +kernel
theorem dX9_sheds_112 : decode cX9_sheds 112 = .ok (.iaload, 1) := by decide +kernel
theorem dX9_sheds_113 : decode cX9_sheds 113 = .ok (.if_icmp .ge 8, 3) := by decide +kernel
theorem dX9_sheds_116 : decode cX9_sheds 116 = .ok (.iload 6, 2) := by decide +kernel
theorem dX9_sheds_118 : decode cX9_sheds 118 = .ok (.goto 12, 3) := by decide +kernel
theorem dX9_sheds_121 : decode cX9_sheds 121 = .ok (.aload_n 0, 1) := by decide +kernel
theorem dX9_sheds_122 : decode cX9_sheds 122 = .ok (.getfield 65, 3) := by decide +kernel
theorem dX9_sheds_125 : decode cX9_sheds 125 = .ok (.iload_n 1, 1) := by decide +kernel
theorem dX9_sheds_126 : decode cX9_sheds 126 = .ok (.iload 5, 2) := by decide +kernel
theorem dX9_sheds_128 : decode cX9_sheds 128 = .ok (.iadd, 1) := by decide +kernel
theorem dX9_sheds_129 : decode cX9_sheds 129 = .ok (.iaload, 1) := by decide +kernel
theorem dX9_sheds_130 : decode cX9_sheds 130 = .ok (.iastore, 1) := by decide +kernel
theorem dX9_sheds_131 : decode cX9_sheds 131 = .ok (.iinc 4 1, 3) := by decide +kernel
theorem dX9_sheds_134 : decode cX9_sheds 134 = .ok (.goto (-100), 3) := by decide +kernel
theorem dX9_sheds_137 : decode cX9_sheds 137 = .ok (.return_, 1) := by decide +kernel
theorem dX9_canSay_0 : decode cX9_canSay 0 = .ok (.iconst 1, 1) := by decide +kernel
theorem dX9_canSay_1 : decode cX9_canSay 1 = .ok (.iconst 4, 1) := by decide +kernel
theorem dX9_canSay_2 : decode cX9_canSay 2 = .ok (.iload_n 1, 1) := by decide +kernel
theorem dX9_canSay_3 : decode cX9_canSay 3 = .ok (.imul, 1) := by decide +kernel
theorem dX9_canSay_4 : decode cX9_canSay 4 = .ok (.iadd, 1) := by decide +kernel
theorem dX9_canSay_5 : decode cX9_canSay 5 = .ok (.istore_n 3, 1) := by decide +kernel
theorem dX9_canSay_6 : decode cX9_canSay 6 = .ok (.iload_n 2, 1) := by decide +kernel
theorem dX9_canSay_7 : decode cX9_canSay 7 = .ok (.sipush 1000, 3) := by decide +kernel
theorem dX9_canSay_10 : decode cX9_canSay 10 = .ok (.idiv, 1) := by decide +kernel
theorem dX9_canSay_11 : decode cX9_canSay 11 = .ok (.aload_n 0, 1) := by decide +kernel
theorem dX9_canSay_12 : decode cX9_canSay 12 = .ok (.getfield 28, 3) := by decide +kernel
theorem dX9_canSay_15 : decode cX9_canSay 15 = .ok (.iload_n 3, 1) := by decide +kernel
theorem dX9_canSay_16 : decode cX9_canSay 16 = .ok (.iaload, 1) := by decide +kernel
theorem dX9_canSay_17 : decode cX9_canSay 17 = .ok (.if_icmp .gt 58, 3) := by decide +kernel
theorem dX9_canSay_20 : decode cX9_canSay 20 = .ok (.iload_n 2, 1) := by decide +kernel
theorem dX9_canSay_21 : decode cX9_canSay 21 = .ok (.bipush 100, 2) := by decide +kernel
theorem dX9_canSay_23 : decode cX9_canSay 23 = .ok (.idiv, 1) := by decide +kernel
theorem dX9_canSay_24 : decode cX9_canSay 24 = .ok (.bipush 10, 2) := by decide +kernel
theorem dX9_canSay_26 : decode cX9_canSay 26 = .ok (.irem, 1) := by decide +kernel
theorem dX9_canSay_27 : decode cX9_canSay 27 = .ok (.aload_n 0, 1) := by decide +kernel
theorem dX9_canSay_28 : decode cX9_canSay 28 = .ok (.getfield 28, 3) := by decide +kernel
theorem dX9_canSay_31 : decode cX9_canSay 31 = .ok (.iload_n 3, 1) := by decide +kernel
theorem dX9_canSay_32 : decode cX9_canSay 32 = .ok (.iconst 1, 1) := by decide +kernel
theorem dX9_canSay_33 : decode cX9_canSay 33 = .ok (.iadd, 1) := by decide +kernel
theorem dX9_canSay_34 : decode cX9_canSay 34 = .ok (.iaload, 1) := by decide +kernel
theorem dX9_canSay_35 : decode cX9_canSay 35 = .ok (.if_icmp .gt 40, 3) := by decide +kernel
theorem dX9_canSay_38 : decode cX9_canSay 38 = .ok (.iload_n 2, 1) := by decide +kernel
theorem dX9_canSay_39 : decode cX9_canSay 39 = .ok (.bipush 10, 2) := by decide +kernel
theorem dX9_canSay_41 : decode cX9_canSay 41 = .ok (.idiv, 1) := by decide +kernel
theorem dX9_canSay_42 : decode cX9_canSay 42 = .ok (.bipush 10, 2) := by decide +kernel
theorem dX9_canSay_44 : decode cX9_canSay 44 = .ok (.irem, 1) := by decide +kernel
theorem dX9_canSay_45 : decode cX9_canSay 45 = .ok (.aload_n 0, 1) := by decide +kernel
theorem dX9_canSay_46 : decode cX9_canSay 46 = .ok (.getfield 28, 3) := by decide +kernel
theorem dX9_canSay_49 : decode cX9_canSay 49 = .ok (.iload_n 3, 1) := by decide +kernel
theorem dX9_canSay_50 : decode cX9_canSay 50 = .ok (.iconst 2, 1) := by decide +kernel
theorem dX9_canSay_51 : decode cX9_canSay 51 = .ok (.iadd, 1) := by decide +kernel
theorem dX9_canSay_52 : decode cX9_canSay 52 = .ok (.iaload, 1) := by decide +kernel
theorem dX9_canSay_53 : decode cX9_canSay 53 = .ok (.if_icmp .gt 22, 3) := by decide +kernel
theorem dX9_canSay_56 : decode cX9_canSay 56 = .ok (.iload_n 2, 1) := by decide +kernel
theorem dX9_canSay_57 : decode cX9_canSay 57 = .ok (.bipush 10, 2) := by decide +kernel
theorem dX9_canSay_59 : decode cX9_canSay 59 = .ok (.irem, 1) := by decide +kernel
theorem dX9_canSay_60 : decode cX9_canSay 60 = .ok (.aload_n 0, 1) := by decide +kernel
theorem dX9_canSay_61 : decode cX9_canSay 61 = .ok (.getfield 28, 3) := by decide +kernel
theorem dX9_canSay_64 : decode cX9_canSay 64 = .ok (.iload_n 3, 1) := by decide +kernel
theorem dX9_canSay_65 : decode cX9_canSay 65 = .ok (.iconst 3, 1) := by decide +kernel
theorem dX9_canSay_66 : decode cX9_canSay 66 = .ok (.iadd, 1) := by decide +kernel
theorem dX9_canSay_67 : decode cX9_canSay 67 = .ok (.iaload, 1) := by decide +kernel
theorem dX9_canSay_68 : decode cX9_canSay 68 = .ok (.if_icmp .gt 7, 3) := by decide +kernel
theorem dX9_canSay_71 : decode cX9_canSay 71 = .ok (.iconst 1, 1) := by decide +kernel
theorem dX9_canSay_72 : decode cX9_canSay 72 = .ok (.goto 4, 3) := by decide +kernel
theorem dX9_canSay_75 : decode cX9_canSay 75 = .ok (.iconst 0, 1) := by decide +kernel
theorem dX9_canSay_76 : decode cX9_canSay 76 = .ok (.ireturn, 1) := by decide +kernel
theorem dX9_weighsOf_0 : decode cX9_weighsOf 0 = .ok (.aload_n 0, 1) := by decide +kernel
theorem dX9_weighsOf_1 : decode cX9_weighsOf 1 = .ok (.getfield 16, 3) := by decide +kernel
theorem dX9_weighsOf_4 : decode cX9_weighsOf 4 = .ok (.iconst 0, 1) := by decide +kernel
theorem dX9_weighsOf_5 : decode cX9_weighsOf 5 = .ok (.iaload, 1) := by decide +kernel
theorem dX9_weighsOf_6 : decode cX9_weighsOf 6 = .ok (.iload_n 1, 1) := by decide +kernel
theorem dX9_weighsOf_7 : decode cX9_weighsOf 7 = .ok (.sipush 1000, 3) := by decide +kernel
theorem dX9_weighsOf_10 : decode cX9_weighsOf 10 = .ok (.idiv, 1) := by decide +kernel
theorem dX9_weighsOf_11 : decode cX9_weighsOf 11 = .ok (.imul, 1) := by decide +kernel
theorem dX9_weighsOf_12 : decode cX9_weighsOf 12 = .ok (.aload_n 0, 1) := by decide +kernel
theorem dX9_weighsOf_13 : decode cX9_weighsOf 13 = .ok (.getfield 16, 3) := by decide +kernel
theorem dX9_weighsOf_16 : decode cX9_weighsOf 16 = .ok (.iconst 1, 1) := by decide +kernel
theorem dX9_weighsOf_17 : decode cX9_weighsOf 17 = .ok (.iaload, 1) := by decide +kernel
theorem dX9_weighsOf_18 : decode cX9_weighsOf 18 = .ok (.iload_n 1, 1) := by decide +kernel
theorem dX9_weighsOf_19 : decode cX9_weighsOf 19 = .ok (.bipush 100, 2) := by decide +kernel
theorem dX9_weighsOf_21 : decode cX9_weighsOf 21 = .ok (.idiv, 1) := by decide +kernel
theorem dX9_weighsOf_22 : decode cX9_weighsOf 22 = .ok (.bipush 10, 2) := by decide +kernel
theorem dX9_weighsOf_24 : decode cX9_weighsOf 24 = .ok (.irem, 1) := by decide +kernel
theorem dX9_weighsOf_25 : decode cX9_weighsOf 25 = .ok (.imul, 1) := by decide +kernel
theorem dX9_weighsOf_26 : decode cX9_weighsOf 26 = .ok (.iadd, 1) := by decide +kernel
theorem dX9_weighsOf_27 : decode cX9_weighsOf 27 = .ok (.aload_n 0, 1) := by decide +kernel
theorem dX9_weighsOf_28 : decode cX9_weighsOf 28 = .ok (.getfield 16, 3) := by decide +kernel
theorem dX9_weighsOf_31 : decode cX9_weighsOf 31 = .ok (.iconst 2, 1) := by decide +kernel
theorem dX9_weighsOf_32 : decode cX9_weighsOf 32 = .ok (.iaload, 1) := by decide +kernel
theorem dX9_weighsOf_33 : decode cX9_weighsOf 33 = .ok (.iload_n 1, 1) := by decide +kernel
theorem dX9_weighsOf_34 : decode cX9_weighsOf 34 = .ok (.bipush 10, 2) := by decide +kernel
theorem dX9_weighsOf_36 : decode cX9_weighsOf 36 = .ok (.idiv, 1) := by decide +kernel
theorem dX9_weighsOf_37 : decode cX9_weighsOf 37 = .ok (.bipush 10, 2) := by decide +kernel
theorem dX9_weighsOf_39 : decode cX9_weighsOf 39 = .ok (.irem, 1) := by decide +kernel
theorem dX9_weighsOf_40 : decode cX9_weighsOf 40 = .ok (.imul, 1) := by decide +kernel
theorem dX9_weighsOf_41 : decode cX9_weighsOf 41 = .ok (.iadd, 1) := by decide +kernel
theorem dX9_weighsOf_42 : decode cX9_weighsOf 42 = .ok (.aload_n 0, 1) := by decide +kernel
theorem dX9_weighsOf_43 : decode cX9_weighsOf 43 = .ok (.getfield 16, 3) := by decide +kernel
theorem dX9_weighsOf_46 : decode cX9_weighsOf 46 = .ok (.iconst 3, 1) := by decide +kernel
theorem dX9_weighsOf_47 : decode cX9_weighsOf 47 = .ok (.iaload, 1) := by decide +kernel
theorem dX9_weighsOf_48 : decode cX9_weighsOf 48 = .ok (.iload_n 1, 1) := by decide +kernel
theorem dX9_weighsOf_49 : decode cX9_weighsOf 49 = .ok (.bipush 10, 2) := by decide +kernel
theorem dX9_weighsOf_51 : decode cX9_weighsOf 51 = .ok (.irem, 1) := by decide +kernel
theorem dX9_weighsOf_52 : decode cX9_weighsOf 52 = .ok (.imul, 1) := by decide +kernel
theorem dX9_weighsOf_53 : decode cX9_weighsOf 53 = .ok (.iadd, 1) := by decide +kernel
theorem dX9_weighsOf_54 : decode cX9_weighsOf 54 = .ok (.ireturn, 1) := by decide +kernel
theorem dX9_wayOf_0 : decode cX9_wayOf 0 = .ok (.aload_n 0, 1) := by decide +kernel
theorem dX9_wayOf_1 : decode cX9_wayOf 1 = .ok (.iload_n 1, 1) := by decide +kernel
theorem dX9_wayOf_2 : decode cX9_wayOf 2 = .ok (.invokevirtual 150, 3) := by decide +kernel
theorem dX9_wayOf_5 : decode cX9_wayOf 5 = .ok (.istore 4, 2) := by decide +kernel
theorem dX9_wayOf_7 : decode cX9_wayOf 7 = .ok (.iconst 0, 1) := by decide +kernel
theorem dX9_wayOf_8 : decode cX9_wayOf 8 = .ok (.istore 5, 2) := by decide +kernel
theorem dX9_wayOf_10 : decode cX9_wayOf 10 = .ok (.aload_n 0, 1) := by decide +kernel
theorem dX9_wayOf_11 : decode cX9_wayOf 11 = .ok (.iload_n 1, 1) := by decide +kernel
theorem dX9_wayOf_12 : decode cX9_wayOf 12 = .ok (.iload 5, 2) := by decide +kernel
theorem dX9_wayOf_14 : decode cX9_wayOf 14 = .ok (.invokevirtual 203, 3) := by decide +kernel
theorem dX9_wayOf_17 : decode cX9_wayOf 17 = .ok (.ifCond .eq 50, 3) := by decide +kernel
theorem dX9_wayOf_20 : decode cX9_wayOf 20 = .ok (.iload 4, 2) := by decide +kernel
theorem dX9_wayOf_22 : decode cX9_wayOf 22 = .ok (.aload_n 0, 1) := by decide +kernel
theorem dX9_wayOf_23 : decode cX9_wayOf 23 = .ok (.iload 5, 2) := by decide +kernel
theorem dX9_wayOf_25 : decode cX9_wayOf 25 = .ok (.invokevirtual 206, 3) := by decide +kernel
theorem dX9_wayOf_28 : decode cX9_wayOf 28 = .ok (.isub, 1) := by decide +kernel
theorem dX9_wayOf_29 : decode cX9_wayOf 29 = .ok (.iload_n 2, 1) := by decide +kernel
theorem dX9_wayOf_30 : decode cX9_wayOf 30 = .ok (.if_icmp .ne 37, 3) := by decide +kernel
theorem dX9_wayOf_33 : decode cX9_wayOf 33 = .ok (.iload 5, 2) := by decide +kernel
theorem dX9_wayOf_35 : decode cX9_wayOf 35 = .ok (.sipush 1000, 3) := by decide +kernel
theorem dX9_wayOf_38 : decode cX9_wayOf 38 = .ok (.idiv, 1) := by decide +kernel
theorem dX9_wayOf_39 : decode cX9_wayOf 39 = .ok (.iload 5, 2) := by decide +kernel
theorem dX9_wayOf_41 : decode cX9_wayOf 41 = .ok (.bipush 100, 2) := by decide +kernel
theorem dX9_wayOf_43 : decode cX9_wayOf 43 = .ok (.idiv, 1) := by decide +kernel
theorem dX9_wayOf_44 : decode cX9_wayOf 44 = .ok (.bipush 10, 2) := by decide +kernel
theorem dX9_wayOf_46 : decode cX9_wayOf 46 = .ok (.irem, 1) := by decide +kernel
theorem dX9_wayOf_47 : decode cX9_wayOf 47 = .ok (.iadd, 1) := by decide +kernel
theorem dX9_wayOf_48 : decode cX9_wayOf 48 = .ok (.iload 5, 2) := by decide +kernel
theorem dX9_wayOf_50 : decode cX9_wayOf 50 = .ok (.bipush 10, 2) := by decide +kernel
theorem dX9_wayOf_52 : decode cX9_wayOf 52 = .ok (.idiv, 1) := by decide +kernel
theorem dX9_wayOf_53 : decode cX9_wayOf 53 = .ok (.bipush 10, 2) := by decide +kernel
theorem dX9_wayOf_55 : decode cX9_wayOf 55 = .ok (.irem, 1) := by decide +kernel
theorem dX9_wayOf_56 : decode cX9_wayOf 56 = .ok (.iadd, 1) := by decide +kernel
theorem dX9_wayOf_57 : decode cX9_wayOf 57 = .ok (.iload 5, 2) := by decide +kernel
theorem dX9_wayOf_59 : decode cX9_wayOf 59 = .ok (.bipush 10, 2) := by decide +kernel
theorem dX9_wayOf_61 : decode cX9_wayOf 61 = .ok (.irem, 1) := by decide +kernel
theorem dX9_wayOf_62 : decode cX9_wayOf 62 = .ok (.iadd, 1) := by decide +kernel
theorem dX9_wayOf_63 : decode cX9_wayOf 63 = .ok (.iload_n 3, 1) := by decide +kernel
theorem dX9_wayOf_64 : decode cX9_wayOf 64 = .ok (.if_icmp .eq 9, 3) := by decide +kernel
theorem dX9_wayOf_67 : decode cX9_wayOf 67 = .ok (.iinc 5 1, 3) := by decide +kernel
theorem dX9_wayOf_70 : decode cX9_wayOf 70 = .ok (.goto (-60), 3) := by decide +kernel
theorem dX9_wayOf_73 : decode cX9_wayOf 73 = .ok (.iload 5, 2) := by decide +kernel
theorem dX9_wayOf_75 : decode cX9_wayOf 75 = .ok (.ireturn, 1) := by decide +kernel
theorem dX9_level_0 : decode cX9_level 0 = .ok (.aload_n 0, 1) := by decide +kernel
theorem dX9_level_1 : decode cX9_level 1 = .ok (.iconst 0, 1) := by decide +kernel
theorem dX9_level_2 : decode cX9_level 2 = .ok (.putfield 77, 3) := by decide +kernel
theorem dX9_level_5 : decode cX9_level 5 = .ok (.aload_n 0, 1) := by decide +kernel
theorem dX9_level_6 : decode cX9_level 6 = .ok (.iload_n 1, 1) := by decide +kernel
theorem dX9_level_7 : decode cX9_level 7 = .ok (.iload_n 2, 1) := by decide +kernel
theorem dX9_level_8 : decode cX9_level 8 = .ok (.invokevirtual 156, 3) := by decide +kernel
theorem dX9_level_11 : decode cX9_level 11 = .ok (.ifCond .eq 13, 3) := by decide +kernel
theorem dX9_level_14 : decode cX9_level 14 = .ok (.iload_n 3, 1) := by decide +kernel
theorem dX9_level_15 : decode cX9_level 15 = .ok (.iconst 0, 1) := by decide +kernel
theorem dX9_level_16 : decode cX9_level 16 = .ok (.bipush 9, 2) := by decide +kernel
theorem dX9_level_18 : decode cX9_level 18 = .ok (.invokestatic 81, 3) := by decide +kernel
theorem dX9_level_21 : decode cX9_level 21 = .ok (.ifCond .ne 5, 3) := by decide +kernel
theorem dX9_level_24 : decode cX9_level 24 = .ok (.iconst (-1), 1) := by decide +kernel
theorem dX9_level_25 : decode cX9_level 25 = .ok (.ireturn, 1) := by decide +kernel
theorem dX9_level_26 : decode cX9_level 26 = .ok (.aload_n 0, 1) := by decide +kernel
theorem dX9_level_27 : decode cX9_level 27 = .ok (.iconst 0, 1) := by decide +kernel
theorem dX9_level_28 : decode cX9_level 28 = .ok (.iload_n 1, 1) := by decide +kernel
theorem dX9_level_29 : decode cX9_level 29 = .ok (.invokevirtual 209, 3) := by decide +kernel
theorem dX9_level_32 : decode cX9_level 32 = .ok (.aload_n 0, 1) := by decide +kernel
theorem dX9_level_33 : decode cX9_level 33 = .ok (.sipush 721, 3) := by decide +kernel
theorem dX9_level_36 : decode cX9_level 36 = .ok (.iload_n 2, 1) := by decide +kernel
theorem dX9_level_37 : decode cX9_level 37 = .ok (.invokevirtual 209, 3) := by decide +kernel
theorem dX9_level_40 : decode cX9_level 40 = .ok (.iconst 0, 1) := by decide +kernel
theorem dX9_level_41 : decode cX9_level 41 = .ok (.istore 4, 2) := by decide +kernel
theorem dX9_level_43 : decode cX9_level 43 = .ok (.iconst 0, 1) := by decide +kernel
theorem dX9_level_44 : decode cX9_level 44 = .ok (.istore 5, 2) := by decide +kernel
theorem dX9_level_46 : decode cX9_level 46 = .ok (.iload 5, 2) := by decide +kernel
theorem dX9_level_48 : decode cX9_level 48 = .ok (.sipush 721, 3) := by decide +kernel
theorem dX9_level_51 : decode cX9_level 51 = .ok (.if_icmp .ge 59, 3) := by decide +kernel
theorem dX9_level_54 : decode cX9_level 54 = .ok (.aload_n 0, 1) := by decide +kernel
theorem dX9_level_55 : decode cX9_level 55 = .ok (.getfield 65, 3) := by decide +kernel
theorem dX9_level_58 : decode cX9_level 58 = .ok (.iload 5, 2) := by decide +kernel
theorem dX9_level_60 : decode cX9_level 60 = .ok (.iaload, 1) := by decide +kernel
theorem dX9_level_61 : decode cX9_level 61 = .ok (.aload_n 0, 1) := by decide +kernel
theorem dX9_level_62 : decode cX9_level 62 = .ok (.getfield 65, 3) := by decide +kernel
theorem dX9_level_65 : decode cX9_level 65 = .ok (.sipush 721, 3) := by decide +kernel
theorem dX9_level_68 : decode cX9_level 68 = .ok (.iload 5, 2) := by decide +kernel
theorem dX9_level_70 : decode cX9_level 70 = .ok (.iadd, 1) := by decide +kernel
theorem dX9_level_71 : decode cX9_level 71 = .ok (.iaload, 1) := by decide +kernel
theorem dX9_level_72 : decode cX9_level 72 = .ok (.iadd, 1) := by decide +kernel
theorem dX9_level_73 : decode cX9_level 73 = .ok (.aload_n 0, 1) := by decide +kernel
theorem dX9_level_74 : decode cX9_level 74 = .ok (.getfield 65, 3) := by decide +kernel
theorem dX9_level_77 : decode cX9_level 77 = .ok (.iload 4, 2) := by decide +kernel
theorem dX9_level_79 : decode cX9_level 79 = .ok (.iaload, 1) := by decide +kernel
theorem dX9_level_80 : decode cX9_level 80 = .ok (.aload_n 0, 1) := by decide +kernel
theorem dX9_level_81 : decode cX9_level 81 = .ok (.getfield 65, 3) := by decide +kernel
theorem dX9_level_84 : decode cX9_level 84 = .ok (.sipush 721, 3) := by decide +kernel
theorem dX9_level_87 : decode cX9_level 87 = .ok (.iload 4, 2) := by decide +kernel
theorem dX9_level_89 : decode cX9_level 89 = .ok (.iadd, 1) := by decide +kernel
theorem dX9_level_90 : decode cX9_level 90 = .ok (.iaload, 1) := by decide +kernel
theorem dX9_level_91 : decode cX9_level 91 = .ok (.iadd, 1) := by decide +kernel
theorem dX9_level_92 : decode cX9_level 92 = .ok (.if_icmp .gt 8, 3) := by decide +kernel
theorem dX9_level_95 : decode cX9_level 95 = .ok (.iload 5, 2) := by decide +kernel
theorem dX9_level_97 : decode cX9_level 97 = .ok (.goto 5, 3) := by decide +kernel
theorem dX9_level_100 : decode cX9_level 100 = .ok (.iload 4, 2) := by decide +kernel
theorem dX9_level_102 : decode cX9_level 102 = .ok (.istore 4, 2) := by decide +kernel
theorem dX9_level_104 : decode cX9_level 104 = .ok (.iinc 5 1, 3) := by decide +kernel
theorem dX9_level_107 : decode cX9_level 107 = .ok (.goto (-61), 3) := by decide +kernel
theorem dX9_level_110 : decode cX9_level 110 = .ok (.iload_n 3, 1) := by decide +kernel
theorem dX9_level_111 : decode cX9_level 111 = .ok (.iconst 2, 1) := by decide +kernel
theorem dX9_level_112 : decode cX9_level 112 = .ok (.if_icmp .ge 32, 3) := by decide +kernel
theorem dX9_level_115 : decode cX9_level 115 = .ok (.iload_n 3, 1) := by decide +kernel
theorem dX9_level_116 : decode cX9_level 116 = .ok (.ifCond .ne 25, 3) := by decide +kernel
theorem dX9_level_119 : decode cX9_level 119 = .ok (.aload_n 0, 1) := by decide +kernel
theorem dX9_level_120 : decode cX9_level 120 = .ok (.getfield 65, 3) := by decide +kernel
theorem dX9_level_123 : decode cX9_level 123 = .ok (.iload 4, 2) := by decide +kernel
theorem dX9_level_125 : decode cX9_level 125 = .ok (.iaload, 1) := by decide +kernel
theorem dX9_level_126 : decode cX9_level 126 = .ok (.aload_n 0, 1) := by decide +kernel
theorem dX9_level_127 : decode cX9_level 127 = .ok (.getfield 65, 3) := by decide +kernel
theorem dX9_level_130 : decode cX9_level 130 = .ok (.sipush 721, 3) := by decide +kernel
theorem dX9_level_133 : decode cX9_level 133 = .ok (.iload 4, 2) := by decide +kernel
theorem dX9_level_135 : decode cX9_level 135 = .ok (.iadd, 1) := by decide +kernel
theorem dX9_level_136 : decode cX9_level 136 = .ok (.iaload, 1) := by decide +kernel
theorem dX9_level_137 : decode cX9_level 137 = .ok (.iadd, 1) := by decide +kernel
theorem dX9_level_138 : decode cX9_level 138 = .ok (.goto 5, 3) := by decide +kernel
theorem dX9_level_141 : decode cX9_level 141 = .ok (.iload 4, 2) := by decide +kernel
theorem dX9_level_143 : decode cX9_level 143 = .ok (.ireturn, 1) := by decide +kernel
theorem dX9_level_144 : decode cX9_level 144 = .ok (.iload_n 3, 1) := by decide +kernel
theorem dX9_level_145 : decode cX9_level 145 = .ok (.bipush 6, 2) := by decide +kernel
theorem dX9_level_147 : decode cX9_level 147 = .ok (.if_icmp .ge 20, 3) := by decide +kernel
theorem dX9_level_150 : decode cX9_level 150 = .ok (.aload_n 0, 1) := by decide +kernel
theorem dX9_level_151 : decode cX9_level 151 = .ok (.iload_n 1, 1) := by decide +kernel
theorem dX9_level_152 : decode cX9_level 152 = .ok (.iload 4, 2) := by decide +kernel
theorem dX9_level_154 : decode cX9_level 154 = .ok (.aload_n 0, 1) := by decide +kernel
theorem dX9_level_155 : decode cX9_level 155 = .ok (.getfield 65, 3) := by decide +kernel
theorem dX9_level_158 : decode cX9_level 158 = .ok (.iload 4, 2) := by decide +kernel
theorem dX9_level_160 : decode cX9_level 160 = .ok (.iaload, 1) := by decide +kernel
theorem dX9_level_161 : decode cX9_level 161 = .ok (.invokevirtual 213, 3) := by decide +kernel
theorem dX9_level_164 : decode cX9_level 164 = .ok (.goto 21, 3) := by decide +kernel
theorem dX9_level_167 : decode cX9_level 167 = .ok (.aload_n 0, 1) := by decide +kernel
theorem dX9_level_168 : decode cX9_level 168 = .ok (.iload_n 2, 1) := by decide +kernel
theorem dX9_level_169 : decode cX9_level 169 = .ok (.iload 4, 2) := by decide +kernel
theorem dX9_level_171 : decode cX9_level 171 = .ok (.aload_n 0, 1) := by decide +kernel
theorem dX9_level_172 : decode cX9_level 172 = .ok (.getfield 65, 3) := by decide +kernel
theorem dX9_level_175 : decode cX9_level 175 = .ok (.sipush 721, 3) := by decide +kernel
theorem dX9_level_178 : decode cX9_level 178 = .ok (.iload 4, 2) := by decide +kernel
theorem dX9_level_180 : decode cX9_level 180 = .ok (.iadd, 1) := by decide +kernel
theorem dX9_level_181 : decode cX9_level 181 = .ok (.iaload, 1) := by decide +kernel
theorem dX9_level_182 : decode cX9_level 182 = .ok (.invokevirtual 213, 3) := by decide +kernel
theorem dX9_level_185 : decode cX9_level 185 = .ok (.istore 5, 2) := by decide +kernel
theorem dX9_level_187 : decode cX9_level 187 = .ok (.iload_n 3, 1) := by decide +kernel
theorem dX9_level_188 : decode cX9_level 188 = .ok (.iconst 2, 1) := by decide +kernel
theorem dX9_level_189 : decode cX9_level 189 = .ok (.isub, 1) := by decide +kernel
theorem dX9_level_190 : decode cX9_level 190 = .ok (.iconst 4, 1) := by decide +kernel
theorem dX9_level_191 : decode cX9_level 191 = .ok (.irem, 1) := by decide +kernel
theorem dX9_level_192 : decode cX9_level 192 = .ok (.istore 6, 2) := by decide +kernel
theorem dX9_level_194 : decode cX9_level 194 = .ok (.iload 6, 2) := by decide +kernel
theorem dX9_level_196 : decode cX9_level 196 = .ok (.ifCond .ne 12, 3) := by decide +kernel
theorem dX9_level_199 : decode cX9_level 199 = .ok (.iload 5, 2) := by decide +kernel
theorem dX9_level_201 : decode cX9_level 201 = .ok (.sipush 1000, 3) := by decide +kernel
theorem dX9_level_204 : decode cX9_level 204 = .ok (.idiv, 1) := by decide +kernel
theorem dX9_level_205 : decode cX9_level 205 = .ok (.goto 42, 3) := by decide +kernel
theorem dX9_level_208 : decode cX9_level 208 = .ok (.iload 6, 2) := by decide +kernel
theorem dX9_level_210 : decode cX9_level 210 = .ok (.iconst 1, 1) := by decide +kernel
theorem dX9_level_211 : decode cX9_level 211 = .ok (.if_icmp .ne 14, 3) := by decide +kernel
theorem dX9_level_214 : decode cX9_level 214 = .ok (.iload 5, 2) := by decide +kernel
theorem dX9_level_216 : decode cX9_level 216 = .ok (.bipush 100, 2) := by decide +kernel
theorem dX9_level_218 : decode cX9_level 218 = .ok (.idiv, 1) := by decide +kernel
theorem dX9_level_219 : decode cX9_level 219 = .ok (.bipush 10, 2) := by decide +kernel
theorem dX9_level_221 : decode cX9_level 221 = .ok (.irem, 1) := by decide +kernel
theorem dX9_level_222 : decode cX9_level 222 = .ok (.goto 25, 3) := by decide +kernel
theorem dX9_level_225 : decode cX9_level 225 = .ok (.iload 6, 2) := by decide +kernel
theorem dX9_level_227 : decode cX9_level 227 = .ok (.iconst 2, 1) := by decide +kernel
theorem dX9_level_228 : decode cX9_level 228 = .ok (.if_icmp .ne 14, 3) := by decide +kernel
theorem dX9_level_231 : decode cX9_level 231 = .ok (.iload 5, 2) := by decide +kernel
theorem dX9_level_233 : decode cX9_level 233 = .ok (.bipush 10, 2) := by decide +kernel
theorem dX9_level_235 : decode cX9_level 235 = .ok (.idiv, 1) := by decide +kernel
theorem dX9_level_236 : decode cX9_level 236 = .ok (.bipush 10, 2) := by decide +kernel
theorem dX9_level_238 : decode cX9_level 238 = .ok (.irem, 1) := by decide +kernel
theorem dX9_level_239 : decode cX9_level 239 = .ok (.goto 8, 3) := by decide +kernel
theorem dX9_level_242 : decode cX9_level 242 = .ok (.iload 5, 2) := by decide +kernel
theorem dX9_level_244 : decode cX9_level 244 = .ok (.bipush 10, 2) := by decide +kernel
theorem dX9_level_246 : decode cX9_level 246 = .ok (.irem, 1) := by decide +kernel
theorem dX9_level_247 : decode cX9_level 247 = .ok (.ireturn, 1) := by decide +kernel
theorem dX9_heavinessThen_0 : decode cX9_heavinessThen 0 = .ok (.iconst 0, 1) := by decide +kernel
theorem dX9_heavinessThen_1 : decode cX9_heavinessThen 1 = .ok (.istore_n 3, 1) := by decide +kernel
theorem dX9_heavinessThen_2 : decode cX9_heavinessThen 2 = .ok (.iconst 0, 1) := by decide +kernel
theorem dX9_heavinessThen_3 : decode cX9_heavinessThen 3 = .ok (.istore 4, 2) := by decide +kernel
theorem dX9_heavinessThen_5 : decode cX9_heavinessThen 5 = .ok (.iload 4, 2) := by decide +kernel
theorem dX9_heavinessThen_7 : decode cX9_heavinessThen 7 = .ok (.iconst 4, 1) := by decide +kernel
theorem dX9_heavinessThen_8 : decode cX9_heavinessThen 8 = .ok (.if_icmp .ge 63, 3) := by decide +kernel
theorem dX9_heavinessThen_11 : decode cX9_heavinessThen 11 = .ok (.aload_n 0, 1) := by decide +kernel
theorem dX9_heavinessThen_12 : decode cX9_heavinessThen 12 = .ok (.getfield 28, 3) := by decide +kernel
theorem dX9_heavinessThen_15 : decode cX9_heavinessThen 15 = .ok (.iconst 1, 1) := by decide +kernel
theorem dX9_heavinessThen_16 : decode cX9_heavinessThen 16 = .ok (.iconst 4, 1) := by decide +kernel
theorem dX9_heavinessThen_17 : decode cX9_heavinessThen 17 = .ok (.iload_n 1, 1) := by decide +kernel
theorem dX9_heavinessThen_18 : decode cX9_heavinessThen 18 = .ok (.imul, 1) := by decide +kernel
theorem dX9_heavinessThen_19 : decode cX9_heavinessThen 19 = .ok (.iadd, 1) := by decide +kernel
theorem dX9_heavinessThen_20 : decode cX9_heavinessThen 20 = .ok (.iload 4, 2) := by decide +kernel
theorem dX9_heavinessThen_22 : decode cX9_heavinessThen 22 = .ok (.iadd, 1) := by decide +kernel
theorem dX9_heavinessThen_23 : decode cX9_heavinessThen 23 = .ok (.iaload, 1) := by decide +kernel
theorem dX9_heavinessThen_24 : decode cX9_heavinessThen 24 = .ok (.iload_n 2, 1) := by decide +kernel
theorem dX9_heavinessThen_25 : decode cX9_heavinessThen 25 = .ok (.aload_n 0, 1) := by decide +kernel
theorem dX9_heavinessThen_26 : decode cX9_heavinessThen 26 = .ok (.getfield 22, 3) := by decide +kernel
theorem dX9_heavinessThen_29 : decode cX9_heavinessThen 29 = .ok (.iconst 4, 1) := by decide +kernel
theorem dX9_heavinessThen_30 : decode cX9_heavinessThen 30 = .ok (.iload_n 1, 1) := by decide +kernel
theorem dX9_heavinessThen_31 : decode cX9_heavinessThen 31 = .ok (.imul, 1) := by decide +kernel
theorem dX9_heavinessThen_32 : decode cX9_heavinessThen 32 = .ok (.iload 4, 2) := by decide +kernel
theorem dX9_heavinessThen_34 : decode cX9_heavinessThen 34 = .ok (.iadd, 1) := by decide +kernel
theorem dX9_heavinessThen_35 : decode cX9_heavinessThen 35 = .ok (.iaload, 1) := by decide +kernel
theorem dX9_heavinessThen_36 : decode cX9_heavinessThen 36 = .ok (.imul, 1) := by decide +kernel
theorem dX9_heavinessThen_37 : decode cX9_heavinessThen 37 = .ok (.iadd, 1) := by decide +kernel
theorem dX9_heavinessThen_38 : decode cX9_heavinessThen 38 = .ok (.istore 5, 2) := by decide +kernel
theorem dX9_heavinessThen_40 : decode cX9_heavinessThen 40 = .ok (.iload_n 3, 1) := by decide +kernel
theorem dX9_heavinessThen_41 : decode cX9_heavinessThen 41 = .ok (.aload_n 0, 1) := by decide +kernel
theorem dX9_heavinessThen_42 : decode cX9_heavinessThen 42 = .ok (.getfield 16, 3) := by decide +kernel
theorem dX9_heavinessThen_45 : decode cX9_heavinessThen 45 = .ok (.iload 4, 2) := by decide +kernel
theorem dX9_heavinessThen_47 : decode cX9_heavinessThen 47 = .ok (.iaload, 1) := by decide +kernel
theorem dX9_heavinessThen_48 : decode cX9_heavinessThen 48 = .ok (.iload 5, 2) := by decide +kernel
theorem dX9_heavinessThen_50 : decode cX9_heavinessThen 50 = .ok (.bipush 9, 2) := by decide +kernel
theorem dX9_heavinessThen_52 : decode cX9_heavinessThen 52 = .ok (.if_icmp .le 8, 3) := by decide +kernel
theorem dX9_heavinessThen_55 : decode cX9_heavinessThen 55 = .ok (.bipush 9, 2) := by decide +kernel
theorem dX9_heavinessThen_57 : decode cX9_heavinessThen 57 = .ok (.goto 5, 3) := by decide +kernel
theorem dX9_heavinessThen_60 : decode cX9_heavinessThen 60 = .ok (.iload 5, 2) := by decide +kernel
theorem dX9_heavinessThen_62 : decode cX9_heavinessThen 62 = .ok (.imul, 1) := by decide +kernel
theorem dX9_heavinessThen_63 : decode cX9_heavinessThen 63 = .ok (.iadd, 1) := by decide +kernel
theorem dX9_heavinessThen_64 : decode cX9_heavinessThen 64 = .ok (.istore_n 3, 1) := by decide +kernel
theorem dX9_heavinessThen_65 : decode cX9_heavinessThen 65 = .ok (.iinc 4 1, 3) := by decide +kernel
theorem dX9_heavinessThen_68 : decode cX9_heavinessThen 68 = .ok (.goto (-63), 3) := by decide +kernel
theorem dX9_heavinessThen_71 : decode cX9_heavinessThen 71 = .ok (.iload_n 3, 1) := by decide +kernel
theorem dX9_heavinessThen_72 : decode cX9_heavinessThen 72 = .ok (.ireturn, 1) := by decide +kernel
theorem dX9_when_0 : decode cX9_when 0 = .ok (.aload_n 0, 1) := by decide +kernel
theorem dX9_when_1 : decode cX9_when 1 = .ok (.iconst 0, 1) := by decide +kernel
theorem dX9_when_2 : decode cX9_when 2 = .ok (.putfield 77, 3) := by decide +kernel
theorem dX9_when_5 : decode cX9_when 5 = .ok (.aload_n 0, 1) := by decide +kernel
theorem dX9_when_6 : decode cX9_when 6 = .ok (.iload_n 1, 1) := by decide +kernel
theorem dX9_when_7 : decode cX9_when 7 = .ok (.iload_n 2, 1) := by decide +kernel
theorem dX9_when_8 : decode cX9_when 8 = .ok (.invokevirtual 156, 3) := by decide +kernel
theorem dX9_when_11 : decode cX9_when 11 = .ok (.ifCond .ne 5, 3) := by decide +kernel
theorem dX9_when_14 : decode cX9_when 14 = .ok (.iconst (-1), 1) := by decide +kernel
theorem dX9_when_15 : decode cX9_when 15 = .ok (.ireturn, 1) := by decide +kernel
theorem dX9_when_16 : decode cX9_when 16 = .ok (.iconst 0, 1) := by decide +kernel
theorem dX9_when_17 : decode cX9_when 17 = .ok (.istore_n 3, 1) := by decide +kernel
theorem dX9_when_18 : decode cX9_when 18 = .ok (.iload_n 3, 1) := by decide +kernel
theorem dX9_when_19 : decode cX9_when 19 = .ok (.bipush 100, 2) := by decide +kernel
theorem dX9_when_21 : decode cX9_when 21 = .ok (.if_icmp .ge 33, 3) := by decide +kernel
theorem dX9_when_24 : decode cX9_when 24 = .ok (.aload_n 0, 1) := by decide +kernel
theorem dX9_when_25 : decode cX9_when 25 = .ok (.iload_n 1, 1) := by decide +kernel
theorem dX9_when_26 : decode cX9_when 26 = .ok (.iload_n 3, 1) := by decide +kernel
theorem dX9_when_27 : decode cX9_when 27 = .ok (.invokevirtual 217, 3) := by decide +kernel
theorem dX9_when_30 : decode cX9_when 30 = .ok (.aload_n 0, 1) := by decide +kernel
theorem dX9_when_31 : decode cX9_when 31 = .ok (.iload_n 2, 1) := by decide +kernel
theorem dX9_when_32 : decode cX9_when 32 = .ok (.iload_n 3, 1) := by decide +kernel
theorem dX9_when_33 : decode cX9_when 33 = .ok (.invokevirtual 217, 3) := by decide +kernel
theorem dX9_when_36 : decode cX9_when 36 = .ok (.if_icmp .le 12, 3) := by decide +kernel
theorem dX9_when_39 : decode cX9_when 39 = .ok (.aload_n 0, 1) := by decide +kernel
theorem dX9_when_40 : decode cX9_when 40 = .ok (.getfield 28, 3) := by decide +kernel
theorem dX9_when_43 : decode cX9_when 43 = .ok (.iconst 0, 1) := by decide +kernel
theorem dX9_when_44 : decode cX9_when 44 = .ok (.iaload, 1) := by decide +kernel
theorem dX9_when_45 : decode cX9_when 45 = .ok (.iload_n 3, 1) := by decide +kernel
theorem dX9_when_46 : decode cX9_when 46 = .ok (.iadd, 1) := by decide +kernel
theorem dX9_when_47 : decode cX9_when 47 = .ok (.ireturn, 1) := by decide +kernel
theorem dX9_when_48 : decode cX9_when 48 = .ok (.iinc 3 1, 3) := by decide +kernel
theorem dX9_when_51 : decode cX9_when 51 = .ok (.goto (-33), 3) := by decide +kernel
theorem dX9_when_54 : decode cX9_when 54 = .ok (.bipush (-9), 2) := by decide +kernel
theorem dX9_when_56 : decode cX9_when 56 = .ok (.ireturn, 1) := by decide +kernel
theorem dX9_gcd_0 : decode cX9_gcd 0 = .ok (.lload_n 0, 1) := by decide +kernel
theorem dX9_gcd_1 : decode cX9_gcd 1 = .ok (.lstore 4, 2) := by decide +kernel
theorem dX9_gcd_3 : decode cX9_gcd 3 = .ok (.lload_n 2, 1) := by decide +kernel
theorem dX9_gcd_4 : decode cX9_gcd 4 = .ok (.lstore 6, 2) := by decide +kernel
theorem dX9_gcd_6 : decode cX9_gcd 6 = .ok (.lload 6, 2) := by decide +kernel
theorem dX9_gcd_8 : decode cX9_gcd 8 = .ok (.lconst 0, 1) := by decide +kernel
theorem dX9_gcd_9 : decode cX9_gcd 9 = .ok (.lcmp, 1) := by decide +kernel
theorem dX9_gcd_10 : decode cX9_gcd 10 = .ok (.ifCond .eq 21, 3) := by decide +kernel
theorem dX9_gcd_13 : decode cX9_gcd 13 = .ok (.lload 4, 2) := by decide +kernel
theorem dX9_gcd_15 : decode cX9_gcd 15 = .ok (.lload 6, 2) := by decide +kernel
theorem dX9_gcd_17 : decode cX9_gcd 17 = .ok (.lrem, 1) := by decide +kernel
theorem dX9_gcd_18 : decode cX9_gcd 18 = .ok (.lstore 8, 2) := by decide +kernel
theorem dX9_gcd_20 : decode cX9_gcd 20 = .ok (.lload 6, 2) := by decide +kernel
theorem dX9_gcd_22 : decode cX9_gcd 22 = .ok (.lstore 4, 2) := by decide +kernel
theorem dX9_gcd_24 : decode cX9_gcd 24 = .ok (.lload 8, 2) := by decide +kernel
theorem dX9_gcd_26 : decode cX9_gcd 26 = .ok (.lstore 6, 2) := by decide +kernel
theorem dX9_gcd_28 : decode cX9_gcd 28 = .ok (.goto (-22), 3) := by decide +kernel
theorem dX9_gcd_31 : decode cX9_gcd 31 = .ok (.lload 4, 2) := by decide +kernel
theorem dX9_gcd_33 : decode cX9_gcd 33 = .ok (.lreturn, 1) := by decide +kernel
theorem dX9_odds_0 : decode cX9_odds 0 = .ok (.aload_n 0, 1) := by decide +kernel
theorem dX9_odds_1 : decode cX9_odds 1 = .ok (.iconst 0, 1) := by decide +kernel
theorem dX9_odds_2 : decode cX9_odds 2 = .ok (.putfield 77, 3) := by decide +kernel
theorem dX9_odds_5 : decode cX9_odds 5 = .ok (.aload_n 0, 1) := by decide +kernel
theorem dX9_odds_6 : decode cX9_odds 6 = .ok (.iload_n 1, 1) := by decide +kernel
theorem dX9_odds_7 : decode cX9_odds 7 = .ok (.iload_n 2, 1) := by decide +kernel
theorem dX9_odds_8 : decode cX9_odds 8 = .ok (.invokevirtual 156, 3) := by decide +kernel
theorem dX9_odds_11 : decode cX9_odds 11 = .ok (.ifCond .eq 31, 3) := by decide +kernel
theorem dX9_odds_14 : decode cX9_odds 14 = .ok (.iload_n 3, 1) := by decide +kernel
theorem dX9_odds_15 : decode cX9_odds 15 = .ok (.invokestatic 147, 3) := by decide +kernel
theorem dX9_odds_18 : decode cX9_odds 18 = .ok (.ifCond .eq 24, 3) := by decide +kernel
theorem dX9_odds_21 : decode cX9_odds 21 = .ok (.iload 4, 2) := by decide +kernel
theorem dX9_odds_23 : decode cX9_odds 23 = .ok (.iconst 0, 1) := by decide +kernel
theorem dX9_odds_24 : decode cX9_odds 24 = .ok (.bipush 10, 2) := by decide +kernel
theorem dX9_odds_26 : decode cX9_odds 26 = .ok (.invokestatic 81, 3) := by decide +kernel
theorem dX9_odds_29 : decode cX9_odds 29 = .ok (.ifCond .eq 13, 3) := by decide +kernel
theorem dX9_odds_32 : decode cX9_odds 32 = .ok (.iload 5, 2) := by decide +kernel
theorem dX9_odds_34 : decode cX9_odds 34 = .ok (.iconst 0, 1) := by decide +kernel
theorem dX9_odds_35 : decode cX9_odds 35 = .ok (.iconst 1, 1) := by decide +kernel
theorem dX9_odds_36 : decode cX9_odds 36 = .ok (.invokestatic 81, 3) := by decide +kernel
theorem dX9_odds_39 : decode cX9_odds 39 = .ok (.ifCond .ne 7, 3) := by decide +kernel
theorem dX9_odds_42 : decode cX9_odds 42 = .ok (.ldc2_w 220, 3) := by decide +kernel
theorem dX9_odds_45 : decode cX9_odds 45 = .ok (.lreturn, 1) := by decide +kernel
theorem dX9_odds_46 : decode cX9_odds 46 = .ok (.aload_n 0, 1) := by decide +kernel
theorem dX9_odds_47 : decode cX9_odds 47 = .ok (.getfield 28, 3) := by decide +kernel
theorem dX9_odds_50 : decode cX9_odds 50 = .ok (.iconst 1, 1) := by decide +kernel
theorem dX9_odds_51 : decode cX9_odds 51 = .ok (.iconst 4, 1) := by decide +kernel
theorem dX9_odds_52 : decode cX9_odds 52 = .ok (.iload_n 1, 1) := by decide +kernel
theorem dX9_odds_53 : decode cX9_odds 53 = .ok (.imul, 1) := by decide +kernel
theorem dX9_odds_54 : decode cX9_odds 54 = .ok (.iadd, 1) := by decide +kernel
theorem dX9_odds_55 : decode cX9_odds 55 = .ok (.iload_n 3, 1) := by decide +kernel
theorem dX9_odds_56 : decode cX9_odds 56 = .ok (.iadd, 1) := by decide +kernel
theorem dX9_odds_57 : decode cX9_odds 57 = .ok (.iaload, 1) := by decide +kernel
theorem dX9_odds_58 : decode cX9_odds 58 = .ok (.istore 6, 2) := by decide +kernel
theorem dX9_odds_60 : decode cX9_odds 60 = .ok (.aload_n 0, 1) := by decide +kernel
theorem dX9_odds_61 : decode cX9_odds 61 = .ok (.iload_n 1, 1) := by decide +kernel
theorem dX9_odds_62 : decode cX9_odds 62 = .ok (.invokevirtual 150, 3) := by decide +kernel
theorem dX9_odds_65 : decode cX9_odds 65 = .ok (.aload_n 0, 1) := by decide +kernel
theorem dX9_odds_66 : decode cX9_odds 66 = .ok (.iload_n 2, 1) := by decide +kernel
theorem dX9_odds_67 : decode cX9_odds 67 = .ok (.invokevirtual 150, 3) := by decide +kernel
theorem dX9_odds_70 : decode cX9_odds 70 = .ok (.isub, 1) := by decide +kernel
theorem dX9_odds_71 : decode cX9_odds 71 = .ok (.istore 7, 2) := by decide +kernel
theorem dX9_odds_73 : decode cX9_odds 73 = .ok (.lconst 0, 1) := by decide +kernel
theorem dX9_odds_74 : decode cX9_odds 74 = .ok (.lstore 8, 2) := by decide +kernel
theorem dX9_odds_76 : decode cX9_odds 76 = .ok (.lconst 1, 1) := by decide +kernel
theorem dX9_odds_77 : decode cX9_odds 77 = .ok (.lstore 10, 2) := by decide +kernel
theorem dX9_odds_79 : decode cX9_odds 79 = .ok (.iconst 0, 1) := by decide +kernel
theorem dX9_odds_80 : decode cX9_odds 80 = .ok (.istore 12, 2) := by decide +kernel
theorem dX9_odds_82 : decode cX9_odds 82 = .ok (.iload 12, 2) := by decide +kernel
theorem dX9_odds_84 : decode cX9_odds 84 = .ok (.iload 6, 2) := by decide +kernel
theorem dX9_odds_86 : decode cX9_odds 86 = .ok (.if_icmp .ge 17, 3) := by decide +kernel
theorem dX9_odds_89 : decode cX9_odds 89 = .ok (.lload 10, 2) := by decide +kernel
theorem dX9_odds_91 : decode cX9_odds 91 = .ok (.ldc2_w 222, 3) := by decide +kernel
theorem dX9_odds_94 : decode cX9_odds 94 = .ok (.lmul, 1) := by decide +kernel
theorem dX9_odds_95 : decode cX9_odds 95 = .ok (.lstore 10, 2) := by decide +kernel
theorem dX9_odds_97 : decode cX9_odds 97 = .ok (.iinc 12 1, 3) := by decide +kernel
theorem dX9_odds_100 : decode cX9_odds 100 = .ok (.goto (-18), 3) := by decide +kernel
theorem dX9_odds_103 : decode cX9_odds 103 = .ok (.iconst 0, 1) := by decide +kernel
theorem dX9_odds_104 : decode cX9_odds 104 = .ok (.istore 12, 2) := by decide +kernel
theorem dX9_odds_106 : decode cX9_odds 106 = .ok (.iload 12, 2) := by decide +kernel
theorem dX9_odds_108 : decode cX9_odds 108 = .ok (.iconst 1, 1) := by decide +kernel
theorem dX9_odds_109 : decode cX9_odds 109 = .ok (.iload 6, 2) := by decide +kernel
theorem dX9_odds_111 : decode cX9_odds 111 = .ok (.ishl, 1) := by decide +kernel
theorem dX9_odds_112 : decode cX9_odds 112 = .ok (.if_icmp .ge 97, 3) := by decide +kernel
theorem dX9_odds_115 : decode cX9_odds 115 = .ok (.lconst 1, 1) := by decide +kernel
theorem dX9_odds_116 : decode cX9_odds 116 = .ok (.lstore 13, 2) := by decide +kernel
theorem dX9_odds_118 : decode cX9_odds 118 = .ok (.iconst 0, 1) := by decide +kernel
theorem dX9_odds_119 : decode cX9_odds 119 = .ok (.istore 15, 2) := by decide +kernel
theorem dX9_odds_121 : decode cX9_odds 121 = .ok (.iconst 0, 1) := by decide +kernel
theorem dX9_odds_122 : decode cX9_odds 122 = .ok (.istore 16, 2) := by decide +kernel
theorem dX9_odds_124 : decode cX9_odds 124 = .ok (.iload 16, 2) := by decide +kernel
theorem dX9_odds_126 : decode cX9_odds 126 = .ok (.iload 6, 2) := by decide +kernel
theorem dX9_odds_128 : decode cX9_odds 128 = .ok (.if_icmp .ge 49, 3) := by decide +kernel
theorem dX9_odds_131 : decode cX9_odds 131 = .ok (.lload 13, 2) := by decide +kernel
theorem dX9_odds_133 : decode cX9_odds 133 = .ok (.iload 12, 2) := by decide +kernel
theorem dX9_odds_135 : decode cX9_odds 135 = .ok (.iload 16, 2) := by decide +kernel
theorem dX9_odds_137 : decode cX9_odds 137 = .ok (.ishr, 1) := by decide +kernel
theorem dX9_odds_138 : decode cX9_odds 138 = .ok (.iconst 1, 1) := by decide +kernel
theorem dX9_odds_139 : decode cX9_odds 139 = .ok (.iand, 1) := by decide +kernel
theorem dX9_odds_140 : decode cX9_odds 140 = .ok (.iconst 1, 1) := by decide +kernel
theorem dX9_odds_141 : decode cX9_odds 141 = .ok (.if_icmp .ne 9, 3) := by decide +kernel
theorem dX9_odds_144 : decode cX9_odds 144 = .ok (.iload 4, 2) := by decide +kernel
theorem dX9_odds_146 : decode cX9_odds 146 = .ok (.i2l, 1) := by decide +kernel
theorem dX9_odds_147 : decode cX9_odds 147 = .ok (.goto 9, 3) := by decide +kernel
theorem dX9_odds_150 : decode cX9_odds 150 = .ok (.bipush 10, 2) := by decide +kernel
theorem dX9_odds_152 : decode cX9_odds 152 = .ok (.iload 4, 2) := by decide +kernel
theorem dX9_odds_154 : decode cX9_odds 154 = .ok (.isub, 1) := by decide +kernel
theorem dX9_odds_155 : decode cX9_odds 155 = .ok (.i2l, 1) := by decide +kernel
theorem dX9_odds_156 : decode cX9_odds 156 = .ok (.lmul, 1) := by decide +kernel
theorem dX9_odds_157 : decode cX9_odds 157 = .ok (.lstore 13, 2) := by decide +kernel
theorem dX9_odds_159 : decode cX9_odds 159 = .ok (.iload 15, 2) := by decide +kernel
theorem dX9_odds_161 : decode cX9_odds 161 = .ok (.iload 12, 2) := by decide +kernel
theorem dX9_odds_163 : decode cX9_odds 163 = .ok (.iload 16, 2) := by decide +kernel
theorem dX9_odds_165 : decode cX9_odds 165 = .ok (.ishr, 1) := by decide +kernel
theorem dX9_odds_166 : decode cX9_odds 166 = .ok (.iconst 1, 1) := by decide +kernel
theorem dX9_odds_167 : decode cX9_odds 167 = .ok (.iand, 1) := by decide +kernel
theorem dX9_odds_168 : decode cX9_odds 168 = .ok (.iadd, 1) := by decide +kernel
theorem dX9_odds_169 : decode cX9_odds 169 = .ok (.istore 15, 2) := by decide +kernel
theorem dX9_odds_171 : decode cX9_odds 171 = .ok (.iinc 16 1, 3) := by decide +kernel
theorem dX9_odds_174 : decode cX9_odds 174 = .ok (.goto (-50), 3) := by decide +kernel
theorem dX9_odds_177 : decode cX9_odds 177 = .ok (.lload 8, 2) := by decide +kernel
theorem dX9_odds_179 : decode cX9_odds 179 = .ok (.iload 7, 2) := by decide +kernel
theorem dX9_odds_181 : decode cX9_odds 181 = .ok (.iload 15, 2) := by decide +kernel
theorem dX9_odds_183 : decode cX9_odds 183 = .ok (.aload_n 0, 1) := by decide +kernel
theorem dX9_odds_184 : decode cX9_odds 184 = .ok (.getfield 16, 3) := by decide +kernel
theorem dX9_odds_187 : decode cX9_odds 187 = .ok (.iload_n 3, 1) := by decide +kernel
theorem dX9_odds_188 : decode cX9_odds 188 = .ok (.iaload, 1) := by decide +kernel
theorem dX9_odds_189 : decode cX9_odds 189 = .ok (.imul, 1) := by decide +kernel
theorem dX9_odds_190 : decode cX9_odds 190 = .ok (.isub, 1) := by decide +kernel
theorem dX9_odds_191 : decode cX9_odds 191 = .ok (.ifCond .ge 8, 3) := by decide +kernel
theorem dX9_odds_194 : decode cX9_odds 194 = .ok (.lload 13, 2) := by decide +kernel
theorem dX9_odds_196 : decode cX9_odds 196 = .ok (.goto 4, 3) := by decide +kernel
theorem dX9_odds_199 : decode cX9_odds 199 = .ok (.lconst 0, 1) := by decide +kernel
theorem dX9_odds_200 : decode cX9_odds 200 = .ok (.ladd, 1) := by decide +kernel
theorem dX9_odds_201 : decode cX9_odds 201 = .ok (.lstore 8, 2) := by decide +kernel
theorem dX9_odds_203 : decode cX9_odds 203 = .ok (.iinc 12 1, 3) := by decide +kernel
theorem dX9_odds_206 : decode cX9_odds 206 = .ok (.goto (-100), 3) := by decide +kernel
theorem dX9_odds_209 : decode cX9_odds 209 = .ok (.lload 8, 2) := by decide +kernel
theorem dX9_odds_211 : decode cX9_odds 211 = .ok (.lload 10, 2) := by decide +kernel
theorem dX9_odds_213 : decode cX9_odds 213 = .ok (.invokestatic 224, 3) := by decide +kernel
theorem dX9_odds_216 : decode cX9_odds 216 = .ok (.lstore 12, 2) := by decide +kernel
theorem dX9_odds_218 : decode cX9_odds 218 = .ok (.iload 5, 2) := by decide +kernel
theorem dX9_odds_220 : decode cX9_odds 220 = .ok (.ifCond .ne 11, 3) := by decide +kernel
theorem dX9_odds_223 : decode cX9_odds 223 = .ok (.lload 8, 2) := by decide +kernel
theorem dX9_odds_225 : decode cX9_odds 225 = .ok (.lload 12, 2) := by decide +kernel
theorem dX9_odds_227 : decode cX9_odds 227 = .ok (.ldiv, 1) := by decide +kernel
theorem dX9_odds_228 : decode cX9_odds 228 = .ok (.goto 8, 3) := by decide +kernel
theorem dX9_odds_231 : decode cX9_odds 231 = .ok (.lload 10, 2) := by decide +kernel
theorem dX9_odds_233 : decode cX9_odds 233 = .ok (.lload 12, 2) := by decide +kernel
theorem dX9_odds_235 : decode cX9_odds 235 = .ok (.ldiv, 1) := by decide +kernel
theorem dX9_odds_236 : decode cX9_odds 236 = .ok (.lreturn, 1) := by decide +kernel
theorem dX9_sumOf_0 : decode cX9_sumOf 0 = .ok (.iconst 0, 1) := by decide +kernel
theorem dX9_sumOf_1 : decode cX9_sumOf 1 = .ok (.istore_n 2, 1) := by decide +kernel
theorem dX9_sumOf_2 : decode cX9_sumOf 2 = .ok (.iconst 0, 1) := by decide +kernel
theorem dX9_sumOf_3 : decode cX9_sumOf 3 = .ok (.istore_n 3, 1) := by decide +kernel
theorem dX9_sumOf_4 : decode cX9_sumOf 4 = .ok (.iload_n 3, 1) := by decide +kernel
theorem dX9_sumOf_5 : decode cX9_sumOf 5 = .ok (.aload_n 0, 1) := by decide +kernel
theorem dX9_sumOf_6 : decode cX9_sumOf 6 = .ok (.getfield 13, 3) := by decide +kernel
theorem dX9_sumOf_9 : decode cX9_sumOf 9 = .ok (.iconst 1, 1) := by decide +kernel
theorem dX9_sumOf_10 : decode cX9_sumOf 10 = .ok (.iaload, 1) := by decide +kernel
theorem dX9_sumOf_11 : decode cX9_sumOf 11 = .ok (.if_icmp .ge 31, 3) := by decide +kernel
theorem dX9_sumOf_14 : decode cX9_sumOf 14 = .ok (.iload_n 2, 1) := by decide +kernel
theorem dX9_sumOf_15 : decode cX9_sumOf 15 = .ok (.iload_n 1, 1) := by decide +kernel
theorem dX9_sumOf_16 : decode cX9_sumOf 16 = .ok (.iload_n 3, 1) := by decide +kernel
theorem dX9_sumOf_17 : decode cX9_sumOf 17 = .ok (.ishr, 1) := by decide +kernel
theorem dX9_sumOf_18 : decode cX9_sumOf 18 = .ok (.iconst 1, 1) := by decide +kernel
theorem dX9_sumOf_19 : decode cX9_sumOf 19 = .ok (.iand, 1) := by decide +kernel
theorem dX9_sumOf_20 : decode cX9_sumOf 20 = .ok (.iconst 1, 1) := by decide +kernel
theorem dX9_sumOf_21 : decode cX9_sumOf 21 = .ok (.if_icmp .ne 12, 3) := by decide +kernel
theorem dX9_sumOf_24 : decode cX9_sumOf 24 = .ok (.aload_n 0, 1) := by decide +kernel
theorem dX9_sumOf_25 : decode cX9_sumOf 25 = .ok (.getfield 25, 3) := by decide +kernel
theorem dX9_sumOf_28 : decode cX9_sumOf 28 = .ok (.iload_n 3, 1) := by decide +kernel
theorem dX9_sumOf_29 : decode cX9_sumOf 29 = .ok (.iaload, 1) := by decide +kernel
theorem dX9_sumOf_30 : decode cX9_sumOf 30 = .ok (.goto 4, 3) := by decide +kernel
theorem dX9_sumOf_33 : decode cX9_sumOf 33 = .ok (.iconst 0, 1) := by decide +kernel
theorem dX9_sumOf_34 : decode cX9_sumOf 34 = .ok (.iadd, 1) := by decide +kernel
theorem dX9_sumOf_35 : decode cX9_sumOf 35 = .ok (.istore_n 2, 1) := by decide +kernel
theorem dX9_sumOf_36 : decode cX9_sumOf 36 = .ok (.iinc 3 1, 3) := by decide +kernel
theorem dX9_sumOf_39 : decode cX9_sumOf 39 = .ok (.goto (-35), 3) := by decide +kernel
theorem dX9_sumOf_42 : decode cX9_sumOf 42 = .ok (.iload_n 2, 1) := by decide +kernel
theorem dX9_sumOf_43 : decode cX9_sumOf 43 = .ok (.ireturn, 1) := by decide +kernel
theorem dX9_pieces_0 : decode cX9_pieces 0 = .ok (.ldc 175, 2) := by decide +kernel
theorem dX9_pieces_2 : decode cX9_pieces 2 = .ok (.istore_n 2, 1) := by decide +kernel
theorem dX9_pieces_3 : decode cX9_pieces 3 = .ok (.iconst 0, 1) := by decide +kernel
theorem dX9_pieces_4 : decode cX9_pieces 4 = .ok (.istore_n 3, 1) := by decide +kernel
theorem dX9_pieces_5 : decode cX9_pieces 5 = .ok (.iload_n 3, 1) := by decide +kernel
theorem dX9_pieces_6 : decode cX9_pieces 6 = .ok (.iconst 1, 1) := by decide +kernel
theorem dX9_pieces_7 : decode cX9_pieces 7 = .ok (.aload_n 0, 1) := by decide +kernel
theorem dX9_pieces_8 : decode cX9_pieces 8 = .ok (.getfield 13, 3) := by decide +kernel
theorem dX9_pieces_11 : decode cX9_pieces 11 = .ok (.iconst 1, 1) := by decide +kernel
theorem dX9_pieces_12 : decode cX9_pieces 12 = .ok (.iaload, 1) := by decide +kernel
theorem dX9_pieces_13 : decode cX9_pieces 13 = .ok (.ishl, 1) := by decide +kernel
theorem dX9_pieces_14 : decode cX9_pieces 14 = .ok (.if_icmp .ge 136, 3) := by decide +kernel
theorem dX9_pieces_17 : decode cX9_pieces 17 = .ok (.iconst 0, 1) := by decide +kernel
theorem dX9_pieces_18 : decode cX9_pieces 18 = .ok (.istore 4, 2) := by decide +kernel
theorem dX9_pieces_20 : decode cX9_pieces 20 = .ok (.iload 4, 2) := by decide +kernel
theorem dX9_pieces_22 : decode cX9_pieces 22 = .ok (.iconst 1, 1) := by decide +kernel
theorem dX9_pieces_23 : decode cX9_pieces 23 = .ok (.aload_n 0, 1) := by decide +kernel
theorem dX9_pieces_24 : decode cX9_pieces 24 = .ok (.getfield 13, 3) := by decide +kernel
theorem dX9_pieces_27 : decode cX9_pieces 27 = .ok (.iconst 1, 1) := by decide +kernel
theorem dX9_pieces_28 : decode cX9_pieces 28 = .ok (.iaload, 1) := by decide +kernel
theorem dX9_pieces_29 : decode cX9_pieces 29 = .ok (.ishl, 1) := by decide +kernel
theorem dX9_pieces_30 : decode cX9_pieces 30 = .ok (.if_icmp .ge 114, 3) := by decide +kernel
theorem dX9_pieces_33 : decode cX9_pieces 33 = .ok (.iload_n 3, 1) := by decide +kernel
theorem dX9_pieces_34 : decode cX9_pieces 34 = .ok (.iload 4, 2) := by decide +kernel
theorem dX9_pieces_36 : decode cX9_pieces 36 = .ok (.iand, 1) := by decide +kernel
theorem dX9_pieces_37 : decode cX9_pieces 37 = .ok (.ifCond .ne 101, 3) := by decide +kernel
theorem dX9_pieces_40 : decode cX9_pieces 40 = .ok (.aload_n 0, 1) := by decide +kernel
theorem dX9_pieces_41 : decode cX9_pieces 41 = .ok (.iload_n 3, 1) := by decide +kernel
theorem dX9_pieces_42 : decode cX9_pieces 42 = .ok (.invokevirtual 183, 3) := by decide +kernel
theorem dX9_pieces_45 : decode cX9_pieces 45 = .ok (.aload_n 0, 1) := by decide +kernel
theorem dX9_pieces_46 : decode cX9_pieces 46 = .ok (.iload 4, 2) := by decide +kernel
theorem dX9_pieces_48 : decode cX9_pieces 48 = .ok (.invokevirtual 183, 3) := by decide +kernel
theorem dX9_pieces_51 : decode cX9_pieces 51 = .ok (.isub, 1) := by decide +kernel
theorem dX9_pieces_52 : decode cX9_pieces 52 = .ok (.iload_n 1, 1) := by decide +kernel
theorem dX9_pieces_53 : decode cX9_pieces 53 = .ok (.if_icmp .ne 85, 3) := by decide +kernel
theorem dX9_pieces_56 : decode cX9_pieces 56 = .ok (.iconst 0, 1) := by decide +kernel
theorem dX9_pieces_57 : decode cX9_pieces 57 = .ok (.istore 5, 2) := by decide +kernel
theorem dX9_pieces_59 : decode cX9_pieces 59 = .ok (.iconst 0, 1) := by decide +kernel
theorem dX9_pieces_60 : decode cX9_pieces 60 = .ok (.istore 6, 2) := by decide +kernel
theorem dX9_pieces_62 : decode cX9_pieces 62 = .ok (.iload 6, 2) := by decide +kernel
theorem dX9_pieces_64 : decode cX9_pieces 64 = .ok (.iconst 5, 1) := by decide +kernel
theorem dX9_pieces_65 : decode cX9_pieces 65 = .ok (.if_icmp .ge 23, 3) := by decide +kernel
theorem dX9_pieces_68 : decode cX9_pieces 68 = .ok (.iload 5, 2) := by decide +kernel
theorem dX9_pieces_70 : decode cX9_pieces 70 = .ok (.iload_n 3, 1) := by decide +kernel
theorem dX9_pieces_71 : decode cX9_pieces 71 = .ok (.iload 4, 2) := by decide +kernel
theorem dX9_pieces_73 : decode cX9_pieces 73 = .ok (.ior, 1) := by decide +kernel
theorem dX9_pieces_74 : decode cX9_pieces 74 = .ok (.iload 6, 2) := by decide +kernel
theorem dX9_pieces_76 : decode cX9_pieces 76 = .ok (.ishr, 1) := by decide +kernel
theorem dX9_pieces_77 : decode cX9_pieces 77 = .ok (.iconst 1, 1) := by decide +kernel
theorem dX9_pieces_78 : decode cX9_pieces 78 = .ok (.iand, 1) := by decide +kernel
theorem dX9_pieces_79 : decode cX9_pieces 79 = .ok (.iadd, 1) := by decide +kernel
theorem dX9_pieces_80 : decode cX9_pieces 80 = .ok (.istore 5, 2) := by decide +kernel
theorem dX9_pieces_82 : decode cX9_pieces 82 = .ok (.iinc 6 1, 3) := by decide +kernel
theorem dX9_pieces_85 : decode cX9_pieces 85 = .ok (.goto (-23), 3) := by decide +kernel
theorem dX9_pieces_88 : decode cX9_pieces 88 = .ok (.aload_n 0, 1) := by decide +kernel
theorem dX9_pieces_89 : decode cX9_pieces 89 = .ok (.iload 5, 2) := by decide +kernel
theorem dX9_pieces_91 : decode cX9_pieces 91 = .ok (.iload_n 2, 1) := by decide +kernel
theorem dX9_pieces_92 : decode cX9_pieces 92 = .ok (.if_icmp .ge 7, 3) := by decide +kernel
theorem dX9_pieces_95 : decode cX9_pieces 95 = .ok (.iload_n 3, 1) := by decide +kernel
theorem dX9_pieces_96 : decode cX9_pieces 96 = .ok (.goto 7, 3) := by decide +kernel
theorem dX9_pieces_99 : decode cX9_pieces 99 = .ok (.aload_n 0, 1) := by decide +kernel
theorem dX9_pieces_100 : decode cX9_pieces 100 = .ok (.getfield 228, 3) := by decide +kernel
theorem dX9_pieces_103 : decode cX9_pieces 103 = .ok (.putfield 228, 3) := by decide +kernel
theorem dX9_pieces_106 : decode cX9_pieces 106 = .ok (.aload_n 0, 1) := by decide +kernel
theorem dX9_pieces_107 : decode cX9_pieces 107 = .ok (.iload 5, 2) := by decide +kernel
theorem dX9_pieces_109 : decode cX9_pieces 109 = .ok (.iload_n 2, 1) := by decide +kernel
theorem dX9_pieces_110 : decode cX9_pieces 110 = .ok (.if_icmp .ge 8, 3) := by decide +kernel
theorem dX9_pieces_113 : decode cX9_pieces 113 = .ok (.iload 4, 2) := by decide +kernel
theorem dX9_pieces_115 : decode cX9_pieces 115 = .ok (.goto 7, 3) := by decide +kernel
theorem dX9_pieces_118 : decode cX9_pieces 118 = .ok (.aload_n 0, 1) := by decide +kernel
theorem dX9_pieces_119 : decode cX9_pieces 119 = .ok (.getfield 231, 3) := by decide +kernel
theorem dX9_pieces_122 : decode cX9_pieces 122 = .ok (.putfield 231, 3) := by decide +kernel
theorem dX9_pieces_125 : decode cX9_pieces 125 = .ok (.iload 5, 2) := by decide +kernel
theorem dX9_pieces_127 : decode cX9_pieces 127 = .ok (.iload_n 2, 1) := by decide +kernel
theorem dX9_pieces_128 : decode cX9_pieces 128 = .ok (.if_icmp .ge 8, 3) := by decide +kernel
theorem dX9_pieces_131 : decode cX9_pieces 131 = .ok (.iload 5, 2) := by decide +kernel
theorem dX9_pieces_133 : decode cX9_pieces 133 = .ok (.goto 4, 3) := by decide +kernel
theorem dX9_pieces_136 : decode cX9_pieces 136 = .ok (.iload_n 2, 1) := by decide +kernel
theorem dX9_pieces_137 : decode cX9_pieces 137 = .ok (.istore_n 2, 1) := by decide +kernel
theorem dX9_pieces_138 : decode cX9_pieces 138 = .ok (.iinc 4 1, 3) := by decide +kernel
theorem dX9_pieces_141 : decode cX9_pieces 141 = .ok (.goto (-121), 3) := by decide +kernel
theorem dX9_pieces_144 : decode cX9_pieces 144 = .ok (.iinc 3 1, 3) := by decide +kernel
theorem dX9_pieces_147 : decode cX9_pieces 147 = .ok (.goto (-142), 3) := by decide +kernel
theorem dX9_pieces_150 : decode cX9_pieces 150 = .ok (.iload_n 2, 1) := by decide +kernel
theorem dX9_pieces_151 : decode cX9_pieces 151 = .ok (.ireturn, 1) := by decide +kernel
theorem dX9_brass_0 : decode cX9_brass 0 = .ok (.aload_n 0, 1) := by decide +kernel
theorem dX9_brass_1 : decode cX9_brass 1 = .ok (.iconst 0, 1) := by decide +kernel
theorem dX9_brass_2 : decode cX9_brass 2 = .ok (.putfield 77, 3) := by decide +kernel
theorem dX9_brass_5 : decode cX9_brass 5 = .ok (.iload_n 1, 1) := by decide +kernel
theorem dX9_brass_6 : decode cX9_brass 6 = .ok (.iconst 0, 1) := by decide +kernel
theorem dX9_brass_7 : decode cX9_brass 7 = .ok (.sipush 300, 3) := by decide +kernel
theorem dX9_brass_10 : decode cX9_brass 10 = .ok (.invokestatic 81, 3) := by decide +kernel
theorem dX9_brass_13 : decode cX9_brass 13 = .ok (.ifCond .eq 12, 3) := by decide +kernel
theorem dX9_brass_16 : decode cX9_brass 16 = .ok (.iload_n 2, 1) := by decide +kernel
theorem dX9_brass_17 : decode cX9_brass 17 = .ok (.iconst 0, 1) := by decide +kernel
theorem dX9_brass_18 : decode cX9_brass 18 = .ok (.iconst 2, 1) := by decide +kernel
theorem dX9_brass_19 : decode cX9_brass 19 = .ok (.invokestatic 81, 3) := by decide +kernel
theorem dX9_brass_22 : decode cX9_brass 22 = .ok (.ifCond .ne 5, 3) := by decide +kernel
theorem dX9_brass_25 : decode cX9_brass 25 = .ok (.iconst (-1), 1) := by decide +kernel
theorem dX9_brass_26 : decode cX9_brass 26 = .ok (.ireturn, 1) := by decide +kernel
theorem dX9_brass_27 : decode cX9_brass 27 = .ok (.aload_n 0, 1) := by decide +kernel
theorem dX9_brass_28 : decode cX9_brass 28 = .ok (.iload_n 1, 1) := by decide +kernel
theorem dX9_brass_29 : decode cX9_brass 29 = .ok (.invokevirtual 234, 3) := by decide +kernel
theorem dX9_brass_32 : decode cX9_brass 32 = .ok (.istore_n 3, 1) := by decide +kernel
theorem dX9_brass_33 : decode cX9_brass 33 = .ok (.iload_n 3, 1) := by decide +kernel
theorem dX9_brass_34 : decode cX9_brass 34 = .ok (.ldc 175, 2) := by decide +kernel
theorem dX9_brass_36 : decode cX9_brass 36 = .ok (.if_icmp .ne 8, 3) := by decide +kernel
theorem dX9_brass_39 : decode cX9_brass 39 = .ok (.bipush (-9), 2) := by decide +kernel
theorem dX9_brass_41 : decode cX9_brass 41 = .ok (.goto 27, 3) := by decide +kernel
theorem dX9_brass_44 : decode cX9_brass 44 = .ok (.iload_n 2, 1) := by decide +kernel
theorem dX9_brass_45 : decode cX9_brass 45 = .ok (.ifCond .ne 7, 3) := by decide +kernel
theorem dX9_brass_48 : decode cX9_brass 48 = .ok (.iload_n 3, 1) := by decide +kernel
theorem dX9_brass_49 : decode cX9_brass 49 = .ok (.goto 19, 3) := by decide +kernel
theorem dX9_brass_52 : decode cX9_brass 52 = .ok (.iload_n 2, 1) := by decide +kernel
theorem dX9_brass_53 : decode cX9_brass 53 = .ok (.iconst 1, 1) := by decide +kernel
theorem dX9_brass_54 : decode cX9_brass 54 = .ok (.if_icmp .ne 10, 3) := by decide +kernel
theorem dX9_brass_57 : decode cX9_brass 57 = .ok (.aload_n 0, 1) := by decide +kernel
theorem dX9_brass_58 : decode cX9_brass 58 = .ok (.getfield 228, 3) := by decide +kernel
theorem dX9_brass_61 : decode cX9_brass 61 = .ok (.goto 7, 3) := by decide +kernel
theorem dX9_brass_64 : decode cX9_brass 64 = .ok (.aload_n 0, 1) := by decide +kernel
theorem dX9_brass_65 : decode cX9_brass 65 = .ok (.getfield 231, 3) := by decide +kernel
theorem dX9_brass_68 : decode cX9_brass 68 = .ok (.ireturn, 1) := by decide +kernel
theorem dX9_shows_0 : decode cX9_shows 0 = .ok (.aload_n 0, 1) := by decide +kernel
theorem dX9_shows_1 : decode cX9_shows 1 = .ok (.iconst 0, 1) := by decide +kernel
theorem dX9_shows_2 : decode cX9_shows 2 = .ok (.putfield 77, 3) := by decide +kernel
theorem dX9_shows_5 : decode cX9_shows 5 = .ok (.aload_n 0, 1) := by decide +kernel
theorem dX9_shows_6 : decode cX9_shows 6 = .ok (.iload_n 1, 1) := by decide +kernel
theorem dX9_shows_7 : decode cX9_shows 7 = .ok (.invokevirtual 143, 3) := by decide +kernel
theorem dX9_shows_10 : decode cX9_shows 10 = .ok (.ifCond .eq 23, 3) := by decide +kernel
theorem dX9_shows_13 : decode cX9_shows 13 = .ok (.iload_n 2, 1) := by decide +kernel
theorem dX9_shows_14 : decode cX9_shows 14 = .ok (.iconst 0, 1) := by decide +kernel
theorem dX9_shows_15 : decode cX9_shows 15 = .ok (.sipush 720, 3) := by decide +kernel
theorem dX9_shows_18 : decode cX9_shows 18 = .ok (.invokestatic 81, 3) := by decide +kernel
theorem dX9_shows_21 : decode cX9_shows 21 = .ok (.ifCond .eq 12, 3) := by decide +kernel
theorem dX9_shows_24 : decode cX9_shows 24 = .ok (.iload_n 3, 1) := by decide +kernel
theorem dX9_shows_25 : decode cX9_shows 25 = .ok (.iconst 0, 1) := by decide +kernel
theorem dX9_shows_26 : decode cX9_shows 26 = .ok (.iconst 2, 1) := by decide +kernel
theorem dX9_shows_27 : decode cX9_shows 27 = .ok (.invokestatic 81, 3) := by decide +kernel
theorem dX9_shows_30 : decode cX9_shows 30 = .ok (.ifCond .ne 5, 3) := by decide +kernel
theorem dX9_shows_33 : decode cX9_shows 33 = .ok (.iconst (-1), 1) := by decide +kernel
theorem dX9_shows_34 : decode cX9_shows 34 = .ok (.ireturn, 1) := by decide +kernel
theorem dX9_shows_35 : decode cX9_shows 35 = .ok (.aload_n 0, 1) := by decide +kernel
theorem dX9_shows_36 : decode cX9_shows 36 = .ok (.getfield 129, 3) := by decide +kernel
theorem dX9_shows_39 : decode cX9_shows 39 = .ok (.bipush 6, 2) := by decide +kernel
theorem dX9_shows_41 : decode cX9_shows 41 = .ok (.if_icmp .ne 6, 3) := by decide +kernel
theorem dX9_shows_44 : decode cX9_shows 44 = .ok (.bipush (-3), 2) := by decide +kernel
theorem dX9_shows_46 : decode cX9_shows 46 = .ok (.ireturn, 1) := by decide +kernel
theorem dX9_shows_47 : decode cX9_shows 47 = .ok (.aload_n 0, 1) := by decide +kernel
theorem dX9_shows_48 : decode cX9_shows 48 = .ok (.getfield 41, 3) := by decide +kernel
theorem dX9_shows_51 : decode cX9_shows 51 = .ok (.aload_n 0, 1) := by decide +kernel
theorem dX9_shows_52 : decode cX9_shows 52 = .ok (.getfield 129, 3) := by decide +kernel
theorem dX9_shows_55 : decode cX9_shows 55 = .ok (.iload_n 1, 1) := by decide +kernel
theorem dX9_shows_56 : decode cX9_shows 56 = .ok (.iastore, 1) := by decide +kernel
theorem dX9_shows_57 : decode cX9_shows 57 = .ok (.aload_n 0, 1) := by decide +kernel
theorem dX9_shows_58 : decode cX9_shows 58 = .ok (.getfield 44, 3) := by decide +kernel
theorem dX9_shows_61 : decode cX9_shows 61 = .ok (.aload_n 0, 1) := by decide +kernel
theorem dX9_shows_62 : decode cX9_shows 62 = .ok (.getfield 129, 3) := by decide +kernel
theorem dX9_shows_65 : decode cX9_shows 65 = .ok (.iload_n 2, 1) := by decide +kernel
theorem dX9_shows_66 : decode cX9_shows 66 = .ok (.iastore, 1) := by decide +kernel
theorem dX9_shows_67 : decode cX9_shows 67 = .ok (.aload_n 0, 1) := by decide +kernel
theorem dX9_shows_68 : decode cX9_shows 68 = .ok (.getfield 47, 3) := by decide +kernel
theorem dX9_shows_71 : decode cX9_shows 71 = .ok (.aload_n 0, 1) := by decide +kernel
theorem dX9_shows_72 : decode cX9_shows 72 = .ok (.getfield 129, 3) := by decide +kernel
theorem dX9_shows_75 : decode cX9_shows 75 = .ok (.iload_n 3, 1) := by decide +kernel
theorem dX9_shows_76 : decode cX9_shows 76 = .ok (.iastore, 1) := by decide +kernel
theorem dX9_shows_77 : decode cX9_shows 77 = .ok (.aload_n 0, 1) := by decide +kernel
theorem dX9_shows_78 : decode cX9_shows 78 = .ok (.dup, 1) := by decide +kernel
theorem dX9_shows_79 : decode cX9_shows 79 = .ok (.getfield 129, 3) := by decide +kernel
theorem dX9_shows_82 : decode cX9_shows 82 = .ok (.iconst 1, 1) := by decide +kernel
theorem dX9_shows_83 : decode cX9_shows 83 = .ok (.iadd, 1) := by decide +kernel
theorem dX9_shows_84 : decode cX9_shows 84 = .ok (.putfield 129, 3) := by decide +kernel
theorem dX9_shows_87 : decode cX9_shows 87 = .ok (.aload_n 0, 1) := by decide +kernel
theorem dX9_shows_88 : decode cX9_shows 88 = .ok (.getfield 129, 3) := by decide +kernel
theorem dX9_shows_91 : decode cX9_shows 91 = .ok (.ireturn, 1) := by decide +kernel
theorem dX9_isAsShown_0 : decode cX9_isAsShown 0 = .ok (.iconst 1, 1) := by decide +kernel
theorem dX9_isAsShown_1 : decode cX9_isAsShown 1 = .ok (.istore_n 3, 1) := by decide +kernel
theorem dX9_isAsShown_2 : decode cX9_isAsShown 2 = .ok (.iconst 0, 1) := by decide +kernel
theorem dX9_isAsShown_3 : decode cX9_isAsShown 3 = .ok (.istore 4, 2) := by decide +kernel
theorem dX9_isAsShown_5 : decode cX9_isAsShown 5 = .ok (.iload 4, 2) := by decide +kernel
theorem dX9_isAsShown_7 : decode cX9_isAsShown 7 = .ok (.aload_n 0, 1) := by decide +kernel
theorem dX9_isAsShown_8 : decode cX9_isAsShown 8 = .ok (.getfield 129, 3) := by decide +kernel
theorem dX9_isAsShown_11 : decode cX9_isAsShown 11 = .ok (.if_icmp .ge 70, 3) := by decide +kernel
theorem dX9_isAsShown_14 : decode cX9_isAsShown 14 = .ok (.iload_n 2, 1) := by decide +kernel
theorem dX9_isAsShown_15 : decode cX9_isAsShown 15 = .ok (.aload_n 0, 1) := by decide +kernel
theorem dX9_isAsShown_16 : decode cX9_isAsShown 16 = .ok (.getfield 44, 3) := by decide +kernel
theorem dX9_isAsShown_19 : decode cX9_isAsShown 19 = .ok (.iload 4, 2) := by decide +kernel
theorem dX9_isAsShown_21 : decode cX9_isAsShown 21 = .ok (.iaload, 1) := by decide +kernel
theorem dX9_isAsShown_22 : decode cX9_isAsShown 22 = .ok (.isub, 1) := by decide +kernel
theorem dX9_isAsShown_23 : decode cX9_isAsShown 23 = .ok (.istore 5, 2) := by decide +kernel
theorem dX9_isAsShown_25 : decode cX9_isAsShown 25 = .ok (.iload_n 3, 1) := by decide +kernel
theorem dX9_isAsShown_26 : decode cX9_isAsShown 26 = .ok (.ifCond .eq 47, 3) := by decide +kernel
theorem dX9_isAsShown_29 : decode cX9_isAsShown 29 = .ok (.aload_n 0, 1) := by decide +kernel
theorem dX9_isAsShown_30 : decode cX9_isAsShown 30 = .ok (.getfield 41, 3) := by decide +kernel
theorem dX9_isAsShown_33 : decode cX9_isAsShown 33 = .ok (.iload 4, 2) := by decide +kernel
theorem dX9_isAsShown_35 : decode cX9_isAsShown 35 = .ok (.iaload, 1) := by decide +kernel
theorem dX9_isAsShown_36 : decode cX9_isAsShown 36 = .ok (.iload_n 1, 1) := by decide +kernel
theorem dX9_isAsShown_37 : decode cX9_isAsShown 37 = .ok (.if_icmp .ne 32, 3) := by decide +kernel
theorem dX9_isAsShown_40 : decode cX9_isAsShown 40 = .ok (.aload_n 0, 1) := by decide +kernel
theorem dX9_isAsShown_41 : decode cX9_isAsShown 41 = .ok (.getfield 47, 3) := by decide +kernel
theorem dX9_isAsShown_44 : decode cX9_isAsShown 44 = .ok (.iload 4, 2) := by decide +kernel
theorem dX9_isAsShown_46 : decode cX9_isAsShown 46 = .ok (.iaload, 1) := by decide +kernel
theorem dX9_isAsShown_47 : decode cX9_isAsShown 47 = .ok (.iload 5, 2) := by decide +kernel
theorem dX9_isAsShown_49 : decode cX9_isAsShown 49 = .ok (.ifCond .le 7, 3) := by decide +kernel
theorem dX9_isAsShown_52 : decode cX9_isAsShown 52 = .ok (.iconst 1, 1) := by decide +kernel
theorem dX9_isAsShown_53 : decode cX9_isAsShown 53 = .ok (.goto 13, 3) := by decide +kernel
theorem dX9_isAsShown_56 : decode cX9_isAsShown 56 = .ok (.iload 5, 2) := by decide +kernel
theorem dX9_isAsShown_58 : decode cX9_isAsShown 58 = .ok (.ifCond .ge 7, 3) := by decide +kernel
theorem dX9_isAsShown_61 : decode cX9_isAsShown 61 = .ok (.iconst 2, 1) := by decide +kernel
theorem dX9_isAsShown_62 : decode cX9_isAsShown 62 = .ok (.goto 4, 3) := by decide +kernel
theorem dX9_isAsShown_65 : decode cX9_isAsShown 65 = .ok (.iconst 0, 1) := by decide +kernel
theorem dX9_isAsShown_66 : decode cX9_isAsShown 66 = .ok (.if_icmp .ne 7, 3) := by decide +kernel
theorem dX9_isAsShown_69 : decode cX9_isAsShown 69 = .ok (.iconst 1, 1) := by decide +kernel
theorem dX9_isAsShown_70 : decode cX9_isAsShown 70 = .ok (.goto 4, 3) := by decide +kernel
theorem dX9_isAsShown_73 : decode cX9_isAsShown 73 = .ok (.iconst 0, 1) := by decide +kernel
theorem dX9_isAsShown_74 : decode cX9_isAsShown 74 = .ok (.istore_n 3, 1) := by decide +kernel
theorem dX9_isAsShown_75 : decode cX9_isAsShown 75 = .ok (.iinc 4 1, 3) := by decide +kernel
theorem dX9_isAsShown_78 : decode cX9_isAsShown 78 = .ok (.goto (-73), 3) := by decide +kernel
theorem dX9_isAsShown_81 : decode cX9_isAsShown 81 = .ok (.iload_n 3, 1) := by decide +kernel
theorem dX9_isAsShown_82 : decode cX9_isAsShown 82 = .ok (.ireturn, 1) := by decide +kernel
theorem dX9_can_0 : decode cX9_can 0 = .ok (.aload_n 0, 1) := by decide +kernel
theorem dX9_can_1 : decode cX9_can 1 = .ok (.iconst 0, 1) := by decide +kernel
theorem dX9_can_2 : decode cX9_can 2 = .ok (.putfield 77, 3) := by decide +kernel
theorem dX9_can_5 : decode cX9_can 5 = .ok (.aload_n 0, 1) := by decide +kernel
theorem dX9_can_6 : decode cX9_can 6 = .ok (.iload_n 1, 1) := by decide +kernel
theorem dX9_can_7 : decode cX9_can 7 = .ok (.invokevirtual 143, 3) := by decide +kernel
theorem dX9_can_10 : decode cX9_can 10 = .ok (.ifCond .eq 12, 3) := by decide +kernel
theorem dX9_can_13 : decode cX9_can 13 = .ok (.iload_n 2, 1) := by decide +kernel
theorem dX9_can_14 : decode cX9_can 14 = .ok (.iconst 0, 1) := by decide +kernel
theorem dX9_can_15 : decode cX9_can 15 = .ok (.iconst 2, 1) := by decide +kernel
theorem dX9_can_16 : decode cX9_can 16 = .ok (.invokestatic 81, 3) := by decide +kernel
theorem dX9_can_19 : decode cX9_can 19 = .ok (.ifCond .ne 5, 3) := by decide +kernel
theorem dX9_can_22 : decode cX9_can 22 = .ok (.iconst (-1), 1) := by decide +kernel
theorem dX9_can_23 : decode cX9_can 23 = .ok (.ireturn, 1) := by decide +kernel
theorem dX9_can_24 : decode cX9_can 24 = .ok (.iconst 0, 1) := by decide +kernel
theorem dX9_can_25 : decode cX9_can 25 = .ok (.istore_n 3, 1) := by decide +kernel
theorem dX9_can_26 : decode cX9_can 26 = .ok (.bipush (-9), 2) := by decide +kernel
theorem dX9_can_28 : decode cX9_can 28 = .ok (.istore 4, 2) := by decide +kernel
theorem dX9_can_30 : decode cX9_can 30 = .ok (.bipush (-9), 2) := by decide +kernel
theorem dX9_can_32 : decode cX9_can 32 = .ok (.istore 5, 2) := by decide +kernel
theorem dX9_can_34 : decode cX9_can 34 = .ok (.iconst 0, 1) := by decide +kernel
theorem dX9_can_35 : decode cX9_can 35 = .ok (.istore 6, 2) := by decide +kernel
theorem dX9_can_37 : decode cX9_can 37 = .ok (.iload 6, 2) := by decide +kernel
theorem dX9_can_39 : decode cX9_can 39 = .ok (.sipush 10000, 3) := by decide +kernel
theorem dX9_can_42 : decode cX9_can 42 = .ok (.if_icmp .ge 66, 3) := by decide +kernel
theorem dX9_can_45 : decode cX9_can 45 = .ok (.aload_n 0, 1) := by decide +kernel
theorem dX9_can_46 : decode cX9_can 46 = .ok (.iload 6, 2) := by decide +kernel
theorem dX9_can_48 : decode cX9_can 48 = .ok (.invokevirtual 206, 3) := by decide +kernel
theorem dX9_can_51 : decode cX9_can 51 = .ok (.istore 7, 2) := by decide +kernel
theorem dX9_can_53 : decode cX9_can 53 = .ok (.aload_n 0, 1) := by decide +kernel
theorem dX9_can_54 : decode cX9_can 54 = .ok (.iload_n 1, 1) := by decide +kernel
theorem dX9_can_55 : decode cX9_can 55 = .ok (.iload 7, 2) := by decide +kernel
theorem dX9_can_57 : decode cX9_can 57 = .ok (.invokevirtual 237, 3) := by decide +kernel
theorem dX9_can_60 : decode cX9_can 60 = .ok (.ifCond .eq 42, 3) := by decide +kernel
theorem dX9_can_63 : decode cX9_can 63 = .ok (.iload_n 3, 1) := by decide +kernel
theorem dX9_can_64 : decode cX9_can 64 = .ok (.ifCond .eq 10, 3) := by decide +kernel
theorem dX9_can_67 : decode cX9_can 67 = .ok (.iload 7, 2) := by decide +kernel
theorem dX9_can_69 : decode cX9_can 69 = .ok (.iload 4, 2) := by decide +kernel
theorem dX9_can_71 : decode cX9_can 71 = .ok (.if_icmp .ge 8, 3) := by decide +kernel
theorem dX9_can_74 : decode cX9_can 74 = .ok (.iload 7, 2) := by decide +kernel
theorem dX9_can_76 : decode cX9_can 76 = .ok (.goto 5, 3) := by decide +kernel
theorem dX9_can_79 : decode cX9_can 79 = .ok (.iload 4, 2) := by decide +kernel
theorem dX9_can_81 : decode cX9_can 81 = .ok (.istore 4, 2) := by decide +kernel
theorem dX9_can_83 : decode cX9_can 83 = .ok (.iload 7, 2) := by decide +kernel
theorem dX9_can_85 : decode cX9_can 85 = .ok (.iload 5, 2) := by decide +kernel
theorem dX9_can_87 : decode cX9_can 87 = .ok (.if_icmp .le 8, 3) := by decide +kernel
theorem dX9_can_90 : decode cX9_can 90 = .ok (.iload 7, 2) := by decide +kernel
theorem dX9_can_92 : decode cX9_can 92 = .ok (.goto 5, 3) := by decide +kernel
theorem dX9_can_95 : decode cX9_can 95 = .ok (.iload 5, 2) := by decide +kernel
theorem dX9_can_97 : decode cX9_can 97 = .ok (.istore 5, 2) := by decide +kernel
theorem dX9_can_99 : decode cX9_can 99 = .ok (.iinc 3 1, 3) := by decide +kernel
theorem dX9_can_102 : decode cX9_can 102 = .ok (.iinc 6 1, 3) := by decide +kernel
theorem dX9_can_105 : decode cX9_can 105 = .ok (.goto (-68), 3) := by decide +kernel
theorem dX9_can_108 : decode cX9_can 108 = .ok (.iload_n 2, 1) := by decide +kernel
theorem dX9_can_109 : decode cX9_can 109 = .ok (.ifCond .ne 7, 3) := by decide +kernel
theorem dX9_can_112 : decode cX9_can 112 = .ok (.iload_n 3, 1) := by decide +kernel
theorem dX9_can_113 : decode cX9_can 113 = .ok (.goto 15, 3) := by decide +kernel
theorem dX9_can_116 : decode cX9_can 116 = .ok (.iload_n 2, 1) := by decide +kernel
theorem dX9_can_117 : decode cX9_can 117 = .ok (.iconst 1, 1) := by decide +kernel
theorem dX9_can_118 : decode cX9_can 118 = .ok (.if_icmp .ne 8, 3) := by decide +kernel
theorem dX9_can_121 : decode cX9_can 121 = .ok (.iload 4, 2) := by decide +kernel
theorem dX9_can_123 : decode cX9_can 123 = .ok (.goto 5, 3) := by decide +kernel
theorem dX9_can_126 : decode cX9_can 126 = .ok (.iload 5, 2) := by decide +kernel
theorem dX9_can_128 : decode cX9_can 128 = .ok (.ireturn, 1) := by decide +kernel
theorem dX9_saw_0 : decode cX9_saw 0 = .ok (.aload_n 0, 1) := by decide +kernel
theorem dX9_saw_1 : decode cX9_saw 1 = .ok (.iconst 0, 1) := by decide +kernel
theorem dX9_saw_2 : decode cX9_saw 2 = .ok (.putfield 77, 3) := by decide +kernel
theorem dX9_saw_5 : decode cX9_saw 5 = .ok (.aload_n 0, 1) := by decide +kernel
theorem dX9_saw_6 : decode cX9_saw 6 = .ok (.iload_n 1, 1) := by decide +kernel
theorem dX9_saw_7 : decode cX9_saw 7 = .ok (.invokevirtual 143, 3) := by decide +kernel
theorem dX9_saw_10 : decode cX9_saw 10 = .ok (.ifCond .eq 14, 3) := by decide +kernel
theorem dX9_saw_13 : decode cX9_saw 13 = .ok (.iload_n 2, 1) := by decide +kernel
theorem dX9_saw_14 : decode cX9_saw 14 = .ok (.iconst 0, 1) := by decide +kernel
theorem dX9_saw_15 : decode cX9_saw 15 = .ok (.sipush 240, 3) := by decide +kernel
theorem dX9_saw_18 : decode cX9_saw 18 = .ok (.invokestatic 81, 3) := by decide +kernel
theorem dX9_saw_21 : decode cX9_saw 21 = .ok (.ifCond .ne 5, 3) := by decide +kernel
theorem dX9_saw_24 : decode cX9_saw 24 = .ok (.iconst (-1), 1) := by decide +kernel
theorem dX9_saw_25 : decode cX9_saw 25 = .ok (.ireturn, 1) := by decide +kernel
theorem dX9_saw_26 : decode cX9_saw 26 = .ok (.aload_n 0, 1) := by decide +kernel
theorem dX9_saw_27 : decode cX9_saw 27 = .ok (.getfield 132, 3) := by decide +kernel
theorem dX9_saw_30 : decode cX9_saw 30 = .ok (.bipush 6, 2) := by decide +kernel
theorem dX9_saw_32 : decode cX9_saw 32 = .ok (.if_icmp .ne 6, 3) := by decide +kernel
theorem dX9_saw_35 : decode cX9_saw 35 = .ok (.bipush (-3), 2) := by decide +kernel
theorem dX9_saw_37 : decode cX9_saw 37 = .ok (.ireturn, 1) := by decide +kernel
theorem dX9_saw_38 : decode cX9_saw 38 = .ok (.aload_n 0, 1) := by decide +kernel
theorem dX9_saw_39 : decode cX9_saw 39 = .ok (.getfield 50, 3) := by decide +kernel
theorem dX9_saw_42 : decode cX9_saw 42 = .ok (.aload_n 0, 1) := by decide +kernel
theorem dX9_saw_43 : decode cX9_saw 43 = .ok (.getfield 132, 3) := by decide +kernel
theorem dX9_saw_46 : decode cX9_saw 46 = .ok (.iload_n 1, 1) := by decide +kernel
theorem dX9_saw_47 : decode cX9_saw 47 = .ok (.iastore, 1) := by decide +kernel
theorem dX9_saw_48 : decode cX9_saw 48 = .ok (.aload_n 0, 1) := by decide +kernel
theorem dX9_saw_49 : decode cX9_saw 49 = .ok (.getfield 53, 3) := by decide +kernel
theorem dX9_saw_52 : decode cX9_saw 52 = .ok (.aload_n 0, 1) := by decide +kernel
theorem dX9_saw_53 : decode cX9_saw 53 = .ok (.getfield 132, 3) := by decide +kernel
theorem dX9_saw_56 : decode cX9_saw 56 = .ok (.iload_n 2, 1) := by decide +kernel
theorem dX9_saw_57 : decode cX9_saw 57 = .ok (.iastore, 1) := by decide +kernel
theorem dX9_saw_58 : decode cX9_saw 58 = .ok (.aload_n 0, 1) := by decide +kernel
theorem dX9_saw_59 : decode cX9_saw 59 = .ok (.dup, 1) := by decide +kernel
theorem dX9_saw_60 : decode cX9_saw 60 = .ok (.getfield 132, 3) := by decide +kernel
theorem dX9_saw_63 : decode cX9_saw 63 = .ok (.iconst 1, 1) := by decide +kernel
theorem dX9_saw_64 : decode cX9_saw 64 = .ok (.iadd, 1) := by decide +kernel
theorem dX9_saw_65 : decode cX9_saw 65 = .ok (.putfield 132, 3) := by decide +kernel
theorem dX9_saw_68 : decode cX9_saw 68 = .ok (.aload_n 0, 1) := by decide +kernel
theorem dX9_saw_69 : decode cX9_saw 69 = .ok (.getfield 132, 3) := by decide +kernel
theorem dX9_saw_72 : decode cX9_saw 72 = .ok (.ireturn, 1) := by decide +kernel
theorem dX9_laws_0 : decode cX9_laws 0 = .ok (.aload_n 0, 1) := by decide +kernel
theorem dX9_laws_1 : decode cX9_laws 1 = .ok (.iconst 0, 1) := by decide +kernel
theorem dX9_laws_2 : decode cX9_laws 2 = .ok (.putfield 77, 3) := by decide +kernel
theorem dX9_laws_5 : decode cX9_laws 5 = .ok (.aload_n 0, 1) := by decide +kernel
theorem dX9_laws_6 : decode cX9_laws 6 = .ok (.iload_n 1, 1) := by decide +kernel
theorem dX9_laws_7 : decode cX9_laws 7 = .ok (.invokevirtual 143, 3) := by decide +kernel
theorem dX9_laws_10 : decode cX9_laws 10 = .ok (.ifCond .eq 12, 3) := by decide +kernel
theorem dX9_laws_13 : decode cX9_laws 13 = .ok (.iload_n 2, 1) := by decide +kernel
theorem dX9_laws_14 : decode cX9_laws 14 = .ok (.iconst 0, 1) := by decide +kernel
theorem dX9_laws_15 : decode cX9_laws 15 = .ok (.iconst 1, 1) := by decide +kernel
theorem dX9_laws_16 : decode cX9_laws 16 = .ok (.invokestatic 81, 3) := by decide +kernel
theorem dX9_laws_19 : decode cX9_laws 19 = .ok (.ifCond .ne 5, 3) := by decide +kernel
theorem dX9_laws_22 : decode cX9_laws 22 = .ok (.iconst (-1), 1) := by decide +kernel
theorem dX9_laws_23 : decode cX9_laws 23 = .ok (.ireturn, 1) := by decide +kernel
theorem dX9_laws_24 : decode cX9_laws 24 = .ok (.iconst 0, 1) := by decide +kernel
theorem dX9_laws_25 : decode cX9_laws 25 = .ok (.istore_n 3, 1) := by decide +kernel
theorem dX9_laws_26 : decode cX9_laws 26 = .ok (.bipush (-9), 2) := by decide +kernel
theorem dX9_laws_28 : decode cX9_laws 28 = .ok (.istore 4, 2) := by decide +kernel
theorem dX9_laws_30 : decode cX9_laws 30 = .ok (.iconst 0, 1) := by decide +kernel
theorem dX9_laws_31 : decode cX9_laws 31 = .ok (.istore 5, 2) := by decide +kernel
theorem dX9_laws_33 : decode cX9_laws 33 = .ok (.iload 5, 2) := by decide +kernel
theorem dX9_laws_35 : decode cX9_laws 35 = .ok (.sipush 256, 3) := by decide +kernel
theorem dX9_laws_38 : decode cX9_laws 38 = .ok (.if_icmp .ge 136, 3) := by decide +kernel
theorem dX9_laws_41 : decode cX9_laws 41 = .ok (.sipush 1000, 3) := by decide +kernel
theorem dX9_laws_44 : decode cX9_laws 44 = .ok (.iload 5, 2) := by decide +kernel
theorem dX9_laws_46 : decode cX9_laws 46 = .ok (.bipush 6, 2) := by decide +kernel
theorem dX9_laws_48 : decode cX9_laws 48 = .ok (.ishr, 1) := by decide +kernel
theorem dX9_laws_49 : decode cX9_laws 49 = .ok (.imul, 1) := by decide +kernel
theorem dX9_laws_50 : decode cX9_laws 50 = .ok (.bipush 100, 2) := by decide +kernel
theorem dX9_laws_52 : decode cX9_laws 52 = .ok (.iload 5, 2) := by decide +kernel
theorem dX9_laws_54 : decode cX9_laws 54 = .ok (.iconst 4, 1) := by decide +kernel
theorem dX9_laws_55 : decode cX9_laws 55 = .ok (.ishr, 1) := by decide +kernel
theorem dX9_laws_56 : decode cX9_laws 56 = .ok (.iconst 3, 1) := by decide +kernel
theorem dX9_laws_57 : decode cX9_laws 57 = .ok (.iand, 1) := by decide +kernel
theorem dX9_laws_58 : decode cX9_laws 58 = .ok (.imul, 1) := by decide +kernel
theorem dX9_laws_59 : decode cX9_laws 59 = .ok (.iadd, 1) := by decide +kernel
theorem dX9_laws_60 : decode cX9_laws 60 = .ok (.bipush 10, 2) := by decide +kernel
theorem dX9_laws_62 : decode cX9_laws 62 = .ok (.iload 5, 2) := by decide +kernel
theorem dX9_laws_64 : decode cX9_laws 64 = .ok (.iconst 2, 1) := by decide +kernel
theorem dX9_laws_65 : decode cX9_laws 65 = .ok (.ishr, 1) := by decide +kernel
theorem dX9_laws_66 : decode cX9_laws 66 = .ok (.iconst 3, 1) := by decide +kernel
theorem dX9_laws_67 : decode cX9_laws 67 = .ok (.iand, 1) := by decide +kernel
theorem dX9_laws_68 : decode cX9_laws 68 = .ok (.imul, 1) := by decide +kernel
theorem dX9_laws_69 : decode cX9_laws 69 = .ok (.iadd, 1) := by decide +kernel
theorem dX9_laws_70 : decode cX9_laws 70 = .ok (.iload 5, 2) := by decide +kernel
theorem dX9_laws_72 : decode cX9_laws 72 = .ok (.iconst 3, 1) := by decide +kernel
theorem dX9_laws_73 : decode cX9_laws 73 = .ok (.iand, 1) := by decide +kernel
theorem dX9_laws_74 : decode cX9_laws 74 = .ok (.iadd, 1) := by decide +kernel
theorem dX9_laws_75 : decode cX9_laws 75 = .ok (.istore 6, 2) := by decide +kernel
theorem dX9_laws_77 : decode cX9_laws 77 = .ok (.iconst 1, 1) := by decide +kernel
theorem dX9_laws_78 : decode cX9_laws 78 = .ok (.istore 7, 2) := by decide +kernel
theorem dX9_laws_80 : decode cX9_laws 80 = .ok (.iconst 0, 1) := by decide +kernel
theorem dX9_laws_81 : decode cX9_laws 81 = .ok (.istore 8, 2) := by decide +kernel
theorem dX9_laws_83 : decode cX9_laws 83 = .ok (.iload 8, 2) := by decide +kernel
theorem dX9_laws_85 : decode cX9_laws 85 = .ok (.aload_n 0, 1) := by decide +kernel
theorem dX9_laws_86 : decode cX9_laws 86 = .ok (.getfield 132, 3) := by decide +kernel
theorem dX9_laws_89 : decode cX9_laws 89 = .ok (.if_icmp .ge 48, 3) := by decide +kernel
theorem dX9_laws_92 : decode cX9_laws 92 = .ok (.iload 7, 2) := by decide +kernel
theorem dX9_laws_94 : decode cX9_laws 94 = .ok (.ifCond .eq 34, 3) := by decide +kernel
theorem dX9_laws_97 : decode cX9_laws 97 = .ok (.aload_n 0, 1) := by decide +kernel
theorem dX9_laws_98 : decode cX9_laws 98 = .ok (.getfield 50, 3) := by decide +kernel
theorem dX9_laws_101 : decode cX9_laws 101 = .ok (.iload 8, 2) := by decide +kernel
theorem dX9_laws_103 : decode cX9_laws 103 = .ok (.iaload, 1) := by decide +kernel
theorem dX9_laws_104 : decode cX9_laws 104 = .ok (.iload_n 1, 1) := by decide +kernel
theorem dX9_laws_105 : decode cX9_laws 105 = .ok (.if_icmp .ne 19, 3) := by decide +kernel
theorem dX9_laws_108 : decode cX9_laws 108 = .ok (.aload_n 0, 1) := by decide +kernel
theorem dX9_laws_109 : decode cX9_laws 109 = .ok (.getfield 53, 3) := by decide +kernel
theorem dX9_laws_112 : decode cX9_laws 112 = .ok (.iload 8, 2) := by decide +kernel
theorem dX9_laws_114 : decode cX9_laws 114 = .ok (.iaload, 1) := by decide +kernel
theorem dX9_laws_115 : decode cX9_laws 115 = .ok (.aload_n 0, 1) := by decide +kernel
theorem dX9_laws_116 : decode cX9_laws 116 = .ok (.iload 6, 2) := by decide +kernel
theorem dX9_laws_118 : decode cX9_laws 118 = .ok (.invokevirtual 206, 3) := by decide +kernel
theorem dX9_laws_121 : decode cX9_laws 121 = .ok (.if_icmp .ne 7, 3) := by decide +kernel
theorem dX9_laws_124 : decode cX9_laws 124 = .ok (.iconst 1, 1) := by decide +kernel
theorem dX9_laws_125 : decode cX9_laws 125 = .ok (.goto 4, 3) := by decide +kernel
theorem dX9_laws_128 : decode cX9_laws 128 = .ok (.iconst 0, 1) := by decide +kernel
theorem dX9_laws_129 : decode cX9_laws 129 = .ok (.istore 7, 2) := by decide +kernel
theorem dX9_laws_131 : decode cX9_laws 131 = .ok (.iinc 8 1, 3) := by decide +kernel
theorem dX9_laws_134 : decode cX9_laws 134 = .ok (.goto (-51), 3) := by decide +kernel
theorem dX9_laws_137 : decode cX9_laws 137 = .ok (.iload 7, 2) := by decide +kernel
theorem dX9_laws_139 : decode cX9_laws 139 = .ok (.ifCond .eq 12, 3) := by decide +kernel
theorem dX9_laws_142 : decode cX9_laws 142 = .ok (.iload_n 3, 1) := by decide +kernel
theorem dX9_laws_143 : decode cX9_laws 143 = .ok (.ifCond .ne 8, 3) := by decide +kernel
theorem dX9_laws_146 : decode cX9_laws 146 = .ok (.iload 6, 2) := by decide +kernel
theorem dX9_laws_148 : decode cX9_laws 148 = .ok (.goto 5, 3) := by decide +kernel
theorem dX9_laws_151 : decode cX9_laws 151 = .ok (.iload 4, 2) := by decide +kernel
theorem dX9_laws_153 : decode cX9_laws 153 = .ok (.istore 4, 2) := by decide +kernel
theorem dX9_laws_155 : decode cX9_laws 155 = .ok (.iload_n 3, 1) := by decide +kernel
theorem dX9_laws_156 : decode cX9_laws 156 = .ok (.iload 7, 2) := by decide +kernel
theorem dX9_laws_158 : decode cX9_laws 158 = .ok (.ifCond .eq 7, 3) := by decide +kernel
theorem dX9_laws_161 : decode cX9_laws 161 = .ok (.iconst 1, 1) := by decide +kernel
theorem dX9_laws_162 : decode cX9_laws 162 = .ok (.goto 4, 3) := by decide +kernel
theorem dX9_laws_165 : decode cX9_laws 165 = .ok (.iconst 0, 1) := by decide +kernel
theorem dX9_laws_166 : decode cX9_laws 166 = .ok (.iadd, 1) := by decide +kernel
theorem dX9_laws_167 : decode cX9_laws 167 = .ok (.istore_n 3, 1) := by decide +kernel
theorem dX9_laws_168 : decode cX9_laws 168 = .ok (.iinc 5 1, 3) := by decide +kernel
theorem dX9_laws_171 : decode cX9_laws 171 = .ok (.goto (-138), 3) := by decide +kernel
theorem dX9_laws_174 : decode cX9_laws 174 = .ok (.iload_n 2, 1) := by decide +kernel
theorem dX9_laws_175 : decode cX9_laws 175 = .ok (.ifCond .ne 7, 3) := by decide +kernel
theorem dX9_laws_178 : decode cX9_laws 178 = .ok (.iload_n 3, 1) := by decide +kernel
theorem dX9_laws_179 : decode cX9_laws 179 = .ok (.goto 5, 3) := by decide +kernel
theorem dX9_laws_182 : decode cX9_laws 182 = .ok (.iload 4, 2) := by decide +kernel
theorem dX9_laws_184 : decode cX9_laws 184 = .ok (.ireturn, 1) := by decide +kernel
theorem dX9_clean_0 : decode cX9_clean 0 = .ok (.aload_n 0, 1) := by decide +kernel
theorem dX9_clean_1 : decode cX9_clean 1 = .ok (.iconst 0, 1) := by decide +kernel
theorem dX9_clean_2 : decode cX9_clean 2 = .ok (.putfield 77, 3) := by decide +kernel
theorem dX9_clean_5 : decode cX9_clean 5 = .ok (.aload_n 0, 1) := by decide +kernel
theorem dX9_clean_6 : decode cX9_clean 6 = .ok (.getfield 129, 3) := by decide +kernel
theorem dX9_clean_9 : decode cX9_clean 9 = .ok (.aload_n 0, 1) := by decide +kernel
theorem dX9_clean_10 : decode cX9_clean 10 = .ok (.getfield 132, 3) := by decide +kernel
theorem dX9_clean_13 : decode cX9_clean 13 = .ok (.iadd, 1) := by decide +kernel
theorem dX9_clean_14 : decode cX9_clean 14 = .ok (.istore_n 1, 1) := by decide +kernel
theorem dX9_clean_15 : decode cX9_clean 15 = .ok (.aload_n 0, 1) := by decide +kernel
theorem dX9_clean_16 : decode cX9_clean 16 = .ok (.iconst 0, 1) := by decide +kernel
theorem dX9_clean_17 : decode cX9_clean 17 = .ok (.putfield 129, 3) := by decide +kernel
theorem dX9_clean_20 : decode cX9_clean 20 = .ok (.aload_n 0, 1) := by decide +kernel
theorem dX9_clean_21 : decode cX9_clean 21 = .ok (.iconst 0, 1) := by decide +kernel
theorem dX9_clean_22 : decode cX9_clean 22 = .ok (.putfield 132, 3) := by decide +kernel
theorem dX9_clean_25 : decode cX9_clean 25 = .ok (.iload_n 1, 1) := by decide +kernel
theorem dX9_clean_26 : decode cX9_clean 26 = .ok (.ireturn, 1) := by decide +kernel
theorem dX9_rate_0 : decode cX9_rate 0 = .ok (.aload_n 0, 1) := by decide +kernel
theorem dX9_rate_1 : decode cX9_rate 1 = .ok (.iconst 0, 1) := by decide +kernel
theorem dX9_rate_2 : decode cX9_rate 2 = .ok (.putfield 77, 3) := by decide +kernel
theorem dX9_rate_5 : decode cX9_rate 5 = .ok (.iload_n 1, 1) := by decide +kernel
theorem dX9_rate_6 : decode cX9_rate 6 = .ok (.iconst 0, 1) := by decide +kernel
theorem dX9_rate_7 : decode cX9_rate 7 = .ok (.iconst 5, 1) := by decide +kernel
theorem dX9_rate_8 : decode cX9_rate 8 = .ok (.invokestatic 81, 3) := by decide +kernel
theorem dX9_rate_11 : decode cX9_rate 11 = .ok (.ifCond .eq 11, 3) := by decide +kernel
theorem dX9_rate_14 : decode cX9_rate 14 = .ok (.aload_n 0, 1) := by decide +kernel
theorem dX9_rate_15 : decode cX9_rate 15 = .ok (.iload_n 2, 1) := by decide +kernel
theorem dX9_rate_16 : decode cX9_rate 16 = .ok (.invokevirtual 143, 3) := by decide +kernel
theorem dX9_rate_19 : decode cX9_rate 19 = .ok (.ifCond .ne 6, 3) := by decide +kernel
theorem dX9_rate_22 : decode cX9_rate 22 = .ok (.ldc 202, 2) := by decide +kernel
theorem dX9_rate_24 : decode cX9_rate 24 = .ok (.ireturn, 1) := by decide +kernel
theorem dX9_rate_25 : decode cX9_rate 25 = .ok (.aload_n 0, 1) := by decide +kernel
theorem dX9_rate_26 : decode cX9_rate 26 = .ok (.iload_n 2, 1) := by decide +kernel
theorem dX9_rate_27 : decode cX9_rate 27 = .ok (.invokevirtual 150, 3) := by decide +kernel
theorem dX9_rate_30 : decode cX9_rate 30 = .ok (.istore_n 3, 1) := by decide +kernel
theorem dX9_rate_31 : decode cX9_rate 31 = .ok (.iload_n 3, 1) := by decide +kernel
theorem dX9_rate_32 : decode cX9_rate 32 = .ok (.istore 4, 2) := by decide +kernel
theorem dX9_rate_34 : decode cX9_rate 34 = .ok (.iload_n 3, 1) := by decide +kernel
theorem dX9_rate_35 : decode cX9_rate 35 = .ok (.istore 5, 2) := by decide +kernel
theorem dX9_rate_37 : decode cX9_rate 37 = .ok (.iconst 0, 1) := by decide +kernel
theorem dX9_rate_38 : decode cX9_rate 38 = .ok (.istore 6, 2) := by decide +kernel
theorem dX9_rate_40 : decode cX9_rate 40 = .ok (.iload 6, 2) := by decide +kernel
theorem dX9_rate_42 : decode cX9_rate 42 = .ok (.iconst 4, 1) := by decide +kernel
theorem dX9_rate_43 : decode cX9_rate 43 = .ok (.if_icmp .ge 43, 3) := by decide +kernel
theorem dX9_rate_46 : decode cX9_rate 46 = .ok (.iload 4, 2) := by decide +kernel
theorem dX9_rate_48 : decode cX9_rate 48 = .ok (.aload_n 0, 1) := by decide +kernel
theorem dX9_rate_49 : decode cX9_rate 49 = .ok (.getfield 28, 3) := by decide +kernel
theorem dX9_rate_52 : decode cX9_rate 52 = .ok (.iconst 1, 1) := by decide +kernel
theorem dX9_rate_53 : decode cX9_rate 53 = .ok (.iconst 4, 1) := by decide +kernel
theorem dX9_rate_54 : decode cX9_rate 54 = .ok (.iload_n 2, 1) := by decide +kernel
theorem dX9_rate_55 : decode cX9_rate 55 = .ok (.imul, 1) := by decide +kernel
theorem dX9_rate_56 : decode cX9_rate 56 = .ok (.iadd, 1) := by decide +kernel
theorem dX9_rate_57 : decode cX9_rate 57 = .ok (.iload 6, 2) := by decide +kernel
theorem dX9_rate_59 : decode cX9_rate 59 = .ok (.iadd, 1) := by decide +kernel
theorem dX9_rate_60 : decode cX9_rate 60 = .ok (.iaload, 1) := by decide +kernel
theorem dX9_rate_61 : decode cX9_rate 61 = .ok (.iadd, 1) := by decide +kernel
theorem dX9_rate_62 : decode cX9_rate 62 = .ok (.istore 4, 2) := by decide +kernel
theorem dX9_rate_64 : decode cX9_rate 64 = .ok (.iload 5, 2) := by decide +kernel
theorem dX9_rate_66 : decode cX9_rate 66 = .ok (.aload_n 0, 1) := by decide +kernel
theorem dX9_rate_67 : decode cX9_rate 67 = .ok (.getfield 22, 3) := by decide +kernel
theorem dX9_rate_70 : decode cX9_rate 70 = .ok (.iconst 4, 1) := by decide +kernel
theorem dX9_rate_71 : decode cX9_rate 71 = .ok (.iload_n 2, 1) := by decide +kernel
theorem dX9_rate_72 : decode cX9_rate 72 = .ok (.imul, 1) := by decide +kernel
theorem dX9_rate_73 : decode cX9_rate 73 = .ok (.iload 6, 2) := by decide +kernel
theorem dX9_rate_75 : decode cX9_rate 75 = .ok (.iadd, 1) := by decide +kernel
theorem dX9_rate_76 : decode cX9_rate 76 = .ok (.iaload, 1) := by decide +kernel
theorem dX9_rate_77 : decode cX9_rate 77 = .ok (.isub, 1) := by decide +kernel
theorem dX9_rate_78 : decode cX9_rate 78 = .ok (.istore 5, 2) := by decide +kernel
theorem dX9_rate_80 : decode cX9_rate 80 = .ok (.iinc 6 1, 3) := by decide +kernel
theorem dX9_rate_83 : decode cX9_rate 83 = .ok (.goto (-43), 3) := by decide +kernel
theorem dX9_rate_86 : decode cX9_rate 86 = .ok (.aload_n 0, 1) := by decide +kernel
theorem dX9_rate_87 : decode cX9_rate 87 = .ok (.dup, 1) := by decide +kernel
theorem dX9_rate_88 : decode cX9_rate 88 = .ok (.getfield 240, 3) := by decide +kernel
theorem dX9_rate_91 : decode cX9_rate 91 = .ok (.iload_n 1, 1) := by decide +kernel
theorem dX9_rate_92 : decode cX9_rate 92 = .ok (.ifCond .ne 7, 3) := by decide +kernel
theorem dX9_rate_95 : decode cX9_rate 95 = .ok (.lconst 1, 1) := by decide +kernel
theorem dX9_rate_96 : decode cX9_rate 96 = .ok (.goto 50, 3) := by decide +kernel
theorem dX9_rate_99 : decode cX9_rate 99 = .ok (.iload_n 1, 1) := by decide +kernel
theorem dX9_rate_100 : decode cX9_rate 100 = .ok (.iconst 1, 1) := by decide +kernel
theorem dX9_rate_101 : decode cX9_rate 101 = .ok (.if_icmp .ne 9, 3) := by decide +kernel
theorem dX9_rate_104 : decode cX9_rate 104 = .ok (.ldc2_w 244, 3) := by decide +kernel
theorem dX9_rate_107 : decode cX9_rate 107 = .ok (.goto 39, 3) := by decide +kernel
theorem dX9_rate_110 : decode cX9_rate 110 = .ok (.iload_n 1, 1) := by decide +kernel
theorem dX9_rate_111 : decode cX9_rate 111 = .ok (.iconst 2, 1) := by decide +kernel
theorem dX9_rate_112 : decode cX9_rate 112 = .ok (.if_icmp .ne 9, 3) := by decide +kernel
theorem dX9_rate_115 : decode cX9_rate 115 = .ok (.ldc2_w 246, 3) := by decide +kernel
theorem dX9_rate_118 : decode cX9_rate 118 = .ok (.goto 28, 3) := by decide +kernel
theorem dX9_rate_121 : decode cX9_rate 121 = .ok (.iload_n 1, 1) := by decide +kernel
theorem dX9_rate_122 : decode cX9_rate 122 = .ok (.iconst 3, 1) := by decide +kernel
theorem dX9_rate_123 : decode cX9_rate 123 = .ok (.if_icmp .ne 9, 3) := by decide +kernel
theorem dX9_rate_126 : decode cX9_rate 126 = .ok (.ldc2_w 248, 3) := by decide +kernel
theorem dX9_rate_129 : decode cX9_rate 129 = .ok (.goto 17, 3) := by decide +kernel
theorem dX9_rate_132 : decode cX9_rate 132 = .ok (.iload_n 1, 1) := by decide +kernel
theorem dX9_rate_133 : decode cX9_rate 133 = .ok (.iconst 4, 1) := by decide +kernel
theorem dX9_rate_134 : decode cX9_rate 134 = .ok (.if_icmp .ne 9, 3) := by decide +kernel
theorem dX9_rate_137 : decode cX9_rate 137 = .ok (.ldc2_w 250, 3) := by decide +kernel
theorem dX9_rate_140 : decode cX9_rate 140 = .ok (.goto 6, 3) := by decide +kernel
theorem dX9_rate_143 : decode cX9_rate 143 = .ok (.ldc2_w 252, 3) := by decide +kernel
theorem dX9_rate_146 : decode cX9_rate 146 = .ok (.ladd, 1) := by decide +kernel
theorem dX9_rate_147 : decode cX9_rate 147 = .ok (.putfield 240, 3) := by decide +kernel
theorem dX9_rate_150 : decode cX9_rate 150 = .ok (.iload_n 1, 1) := by decide +kernel
theorem dX9_rate_151 : decode cX9_rate 151 = .ok (.ifCond .ne 7, 3) := by decide +kernel
theorem dX9_rate_154 : decode cX9_rate 154 = .ok (.iload_n 3, 1) := by decide +kernel
theorem dX9_rate_155 : decode cX9_rate 155 = .ok (.goto 55, 3) := by decide +kernel
theorem dX9_rate_158 : decode cX9_rate 158 = .ok (.iload_n 1, 1) := by decide +kernel
theorem dX9_rate_159 : decode cX9_rate 159 = .ok (.iconst 1, 1) := by decide +kernel
theorem dX9_rate_160 : decode cX9_rate 160 = .ok (.if_icmp .ne 8, 3) := by decide +kernel
theorem dX9_rate_163 : decode cX9_rate 163 = .ok (.iload 4, 2) := by decide +kernel
theorem dX9_rate_165 : decode cX9_rate 165 = .ok (.goto 45, 3) := by decide +kernel
theorem dX9_rate_168 : decode cX9_rate 168 = .ok (.iload_n 1, 1) := by decide +kernel
theorem dX9_rate_169 : decode cX9_rate 169 = .ok (.iconst 2, 1) := by decide +kernel
theorem dX9_rate_170 : decode cX9_rate 170 = .ok (.if_icmp .ne 8, 3) := by decide +kernel
theorem dX9_rate_173 : decode cX9_rate 173 = .ok (.iload 5, 2) := by decide +kernel
theorem dX9_rate_175 : decode cX9_rate 175 = .ok (.goto 35, 3) := by decide +kernel
theorem dX9_rate_178 : decode cX9_rate 178 = .ok (.iload_n 1, 1) := by decide +kernel
theorem dX9_rate_179 : decode cX9_rate 179 = .ok (.iconst 3, 1) := by decide +kernel
theorem dX9_rate_180 : decode cX9_rate 180 = .ok (.if_icmp .ne 10, 3) := by decide +kernel
theorem dX9_rate_183 : decode cX9_rate 183 = .ok (.iconst 2, 1) := by decide +kernel
theorem dX9_rate_184 : decode cX9_rate 184 = .ok (.iload 4, 2) := by decide +kernel
theorem dX9_rate_186 : decode cX9_rate 186 = .ok (.imul, 1) := by decide +kernel
theorem dX9_rate_187 : decode cX9_rate 187 = .ok (.goto 23, 3) := by decide +kernel
theorem dX9_rate_190 : decode cX9_rate 190 = .ok (.iload_n 1, 1) := by decide +kernel
theorem dX9_rate_191 : decode cX9_rate 191 = .ok (.iconst 4, 1) := by decide +kernel
theorem dX9_rate_192 : decode cX9_rate 192 = .ok (.if_icmp .ne 10, 3) := by decide +kernel
theorem dX9_rate_195 : decode cX9_rate 195 = .ok (.iload 5, 2) := by decide +kernel
theorem dX9_rate_197 : decode cX9_rate 197 = .ok (.iload_n 2, 1) := by decide +kernel
theorem dX9_rate_198 : decode cX9_rate 198 = .ok (.iadd, 1) := by decide +kernel
theorem dX9_rate_199 : decode cX9_rate 199 = .ok (.goto 11, 3) := by decide +kernel
theorem dX9_rate_202 : decode cX9_rate 202 = .ok (.iload_n 3, 1) := by decide +kernel
theorem dX9_rate_203 : decode cX9_rate 203 = .ok (.aload_n 0, 1) := by decide +kernel
theorem dX9_rate_204 : decode cX9_rate 204 = .ok (.getfield 28, 3) := by decide +kernel
theorem dX9_rate_207 : decode cX9_rate 207 = .ok (.iconst 0, 1) := by decide +kernel
theorem dX9_rate_208 : decode cX9_rate 208 = .ok (.iaload, 1) := by decide +kernel
theorem dX9_rate_209 : decode cX9_rate 209 = .ok (.iadd, 1) := by decide +kernel
theorem dX9_rate_210 : decode cX9_rate 210 = .ok (.ireturn, 1) := by decide +kernel
theorem dX9_keep_0 : decode cX9_keep 0 = .ok (.aload_n 0, 1) := by decide +kernel
theorem dX9_keep_1 : decode cX9_keep 1 = .ok (.iconst 0, 1) := by decide +kernel
theorem dX9_keep_2 : decode cX9_keep 2 = .ok (.putfield 77, 3) := by decide +kernel
theorem dX9_keep_5 : decode cX9_keep 5 = .ok (.iload_n 1, 1) := by decide +kernel
theorem dX9_keep_6 : decode cX9_keep 6 = .ok (.iconst 0, 1) := by decide +kernel
theorem dX9_keep_7 : decode cX9_keep 7 = .ok (.iconst 1, 1) := by decide +kernel
theorem dX9_keep_8 : decode cX9_keep 8 = .ok (.invokestatic 81, 3) := by decide +kernel
theorem dX9_keep_11 : decode cX9_keep 11 = .ok (.ifCond .ne 5, 3) := by decide +kernel
theorem dX9_keep_14 : decode cX9_keep 14 = .ok (.iconst (-1), 1) := by decide +kernel
theorem dX9_keep_15 : decode cX9_keep 15 = .ok (.ireturn, 1) := by decide +kernel
theorem dX9_keep_16 : decode cX9_keep 16 = .ok (.iconst 0, 1) := by decide +kernel
theorem dX9_keep_17 : decode cX9_keep 17 = .ok (.istore_n 2, 1) := by decide +kernel
theorem dX9_keep_18 : decode cX9_keep 18 = .ok (.iload_n 2, 1) := by decide +kernel
theorem dX9_keep_19 : decode cX9_keep 19 = .ok (.bipush 23, 2) := by decide +kernel
theorem dX9_keep_21 : decode cX9_keep 21 = .ok (.if_icmp .ge 26, 3) := by decide +kernel
theorem dX9_keep_24 : decode cX9_keep 24 = .ok (.aload_n 0, 1) := by decide +kernel
theorem dX9_keep_25 : decode cX9_keep 25 = .ok (.getfield 31, 3) := by decide +kernel
theorem dX9_keep_28 : decode cX9_keep 28 = .ok (.bipush 23, 2) := by decide +kernel
theorem dX9_keep_30 : decode cX9_keep 30 = .ok (.iload_n 1, 1) := by decide +kernel
theorem dX9_keep_31 : decode cX9_keep 31 = .ok (.imul, 1) := by decide +kernel
theorem dX9_keep_32 : decode cX9_keep 32 = .ok (.iload_n 2, 1) := by decide +kernel
theorem dX9_keep_33 : decode cX9_keep 33 = .ok (.iadd, 1) := by decide +kernel
theorem dX9_keep_34 : decode cX9_keep 34 = .ok (.aload_n 0, 1) := by decide +kernel
theorem dX9_keep_35 : decode cX9_keep 35 = .ok (.getfield 28, 3) := by decide +kernel
theorem dX9_keep_38 : decode cX9_keep 38 = .ok (.iload_n 2, 1) := by decide +kernel
theorem dX9_keep_39 : decode cX9_keep 39 = .ok (.iaload, 1) := by decide +kernel
theorem dX9_keep_40 : decode cX9_keep 40 = .ok (.iastore, 1) := by decide +kernel
theorem dX9_keep_41 : decode cX9_keep 41 = .ok (.iinc 2 1, 3) := by decide +kernel
theorem dX9_keep_44 : decode cX9_keep 44 = .ok (.goto (-26), 3) := by decide +kernel
theorem dX9_keep_47 : decode cX9_keep 47 = .ok (.aload_n 0, 1) := by decide +kernel
theorem dX9_keep_48 : decode cX9_keep 48 = .ok (.getfield 34, 3) := by decide +kernel
theorem dX9_keep_51 : decode cX9_keep 51 = .ok (.iload_n 1, 1) := by decide +kernel
theorem dX9_keep_52 : decode cX9_keep 52 = .ok (.iconst 1, 1) := by decide +kernel
theorem dX9_keep_53 : decode cX9_keep 53 = .ok (.bastore, 1) := by decide +kernel
theorem dX9_keep_54 : decode cX9_keep 54 = .ok (.aload_n 0, 1) := by decide +kernel
theorem dX9_keep_55 : decode cX9_keep 55 = .ok (.getfield 28, 3) := by decide +kernel
theorem dX9_keep_58 : decode cX9_keep 58 = .ok (.iconst 0, 1) := by decide +kernel
theorem dX9_keep_59 : decode cX9_keep 59 = .ok (.iaload, 1) := by decide +kernel
theorem dX9_keep_60 : decode cX9_keep 60 = .ok (.ireturn, 1) := by decide +kernel
theorem dX9_back_0 : decode cX9_back 0 = .ok (.aload_n 0, 1) := by decide +kernel
theorem dX9_back_1 : decode cX9_back 1 = .ok (.iconst 0, 1) := by decide +kernel
theorem dX9_back_2 : decode cX9_back 2 = .ok (.putfield 77, 3) := by decide +kernel
theorem dX9_back_5 : decode cX9_back 5 = .ok (.iload_n 1, 1) := by decide +kernel
theorem dX9_back_6 : decode cX9_back 6 = .ok (.iconst 0, 1) := by decide +kernel
theorem dX9_back_7 : decode cX9_back 7 = .ok (.iconst 1, 1) := by decide +kernel
theorem dX9_back_8 : decode cX9_back 8 = .ok (.invokestatic 81, 3) := by decide +kernel
theorem dX9_back_11 : decode cX9_back 11 = .ok (.ifCond .ne 5, 3) := by decide +kernel
theorem dX9_back_14 : decode cX9_back 14 = .ok (.iconst (-1), 1) := by decide +kernel
theorem dX9_back_15 : decode cX9_back 15 = .ok (.ireturn, 1) := by decide +kernel
theorem dX9_back_16 : decode cX9_back 16 = .ok (.aload_n 0, 1) := by decide +kernel
theorem dX9_back_17 : decode cX9_back 17 = .ok (.getfield 34, 3) := by decide +kernel
theorem dX9_back_20 : decode cX9_back 20 = .ok (.iload_n 1, 1) := by decide +kernel
theorem dX9_back_21 : decode cX9_back 21 = .ok (.baload, 1) := by decide +kernel
theorem dX9_back_22 : decode cX9_back 22 = .ok (.ifCond .ne 6, 3) := by decide +kernel
theorem dX9_back_25 : decode cX9_back 25 = .ok (.bipush (-2), 2) := by decide +kernel
theorem dX9_back_27 : decode cX9_back 27 = .ok (.ireturn, 1) := by decide +kernel
theorem dX9_back_28 : decode cX9_back 28 = .ok (.iconst 0, 1) := by decide +kernel
theorem dX9_back_29 : decode cX9_back 29 = .ok (.istore_n 2, 1) := by decide +kernel
theorem dX9_back_30 : decode cX9_back 30 = .ok (.iload_n 2, 1) := by decide +kernel
theorem dX9_back_31 : decode cX9_back 31 = .ok (.bipush 23, 2) := by decide +kernel
theorem dX9_back_33 : decode cX9_back 33 = .ok (.if_icmp .ge 26, 3) := by decide +kernel
theorem dX9_back_36 : decode cX9_back 36 = .ok (.aload_n 0, 1) := by decide +kernel
theorem dX9_back_37 : decode cX9_back 37 = .ok (.getfield 28, 3) := by decide +kernel
theorem dX9_back_40 : decode cX9_back 40 = .ok (.iload_n 2, 1) := by decide +kernel
theorem dX9_back_41 : decode cX9_back 41 = .ok (.aload_n 0, 1) := by decide +kernel
theorem dX9_back_42 : decode cX9_back 42 = .ok (.getfield 31, 3) := by decide +kernel
theorem dX9_back_45 : decode cX9_back 45 = .ok (.bipush 23, 2) := by decide +kernel
theorem dX9_back_47 : decode cX9_back 47 = .ok (.iload_n 1, 1) := by decide +kernel
theorem dX9_back_48 : decode cX9_back 48 = .ok (.imul, 1) := by decide +kernel
theorem dX9_back_49 : decode cX9_back 49 = .ok (.iload_n 2, 1) := by decide +kernel
theorem dX9_back_50 : decode cX9_back 50 = .ok (.iadd, 1) := by decide +kernel
theorem dX9_back_51 : decode cX9_back 51 = .ok (.iaload, 1) := by decide +kernel
theorem dX9_back_52 : decode cX9_back 52 = .ok (.iastore, 1) := by decide +kernel
theorem dX9_back_53 : decode cX9_back 53 = .ok (.iinc 2 1, 3) := by decide +kernel
theorem dX9_back_56 : decode cX9_back 56 = .ok (.goto (-26), 3) := by decide +kernel
theorem dX9_back_59 : decode cX9_back 59 = .ok (.aload_n 0, 1) := by decide +kernel
theorem dX9_back_60 : decode cX9_back 60 = .ok (.iconst 0, 1) := by decide +kernel
theorem dX9_back_61 : decode cX9_back 61 = .ok (.putfield 135, 3) := by decide +kernel
theorem dX9_back_64 : decode cX9_back 64 = .ok (.aload_n 0, 1) := by decide +kernel
theorem dX9_back_65 : decode cX9_back 65 = .ok (.getfield 28, 3) := by decide +kernel
theorem dX9_back_68 : decode cX9_back 68 = .ok (.iconst 0, 1) := by decide +kernel
theorem dX9_back_69 : decode cX9_back 69 = .ok (.iaload, 1) := by decide +kernel
theorem dX9_back_70 : decode cX9_back 70 = .ok (.ireturn, 1) := by decide +kernel
theorem dX9_count_0 : decode cX9_count 0 = .ok (.aload_n 0, 1) := by decide +kernel
theorem dX9_count_1 : decode cX9_count 1 = .ok (.iconst 0, 1) := by decide +kernel
theorem dX9_count_2 : decode cX9_count 2 = .ok (.putfield 77, 3) := by decide +kernel
theorem dX9_count_5 : decode cX9_count 5 = .ok (.iload_n 1, 1) := by decide +kernel
theorem dX9_count_6 : decode cX9_count 6 = .ok (.iconst 0, 1) := by decide +kernel
theorem dX9_count_7 : decode cX9_count 7 = .ok (.iconst 1, 1) := by decide +kernel
theorem dX9_count_8 : decode cX9_count 8 = .ok (.invokestatic 81, 3) := by decide +kernel
theorem dX9_count_11 : decode cX9_count 11 = .ok (.ifCond .eq 12, 3) := by decide +kernel
theorem dX9_count_14 : decode cX9_count 14 = .ok (.aload_n 0, 1) := by decide +kernel
theorem dX9_count_15 : decode cX9_count 15 = .ok (.getfield 13, 3) := by decide +kernel
theorem dX9_count_18 : decode cX9_count 18 = .ok (.iload_n 1, 1) := by decide +kernel
theorem dX9_count_19 : decode cX9_count 19 = .ok (.iaload, 1) := by decide +kernel
theorem dX9_count_20 : decode cX9_count 20 = .ok (.goto 40, 3) := by decide +kernel
theorem dX9_count_23 : decode cX9_count 23 = .ok (.iload_n 1, 1) := by decide +kernel
theorem dX9_count_24 : decode cX9_count 24 = .ok (.iconst 2, 1) := by decide +kernel
theorem dX9_count_25 : decode cX9_count 25 = .ok (.if_icmp .ne 10, 3) := by decide +kernel
theorem dX9_count_28 : decode cX9_count 28 = .ok (.aload_n 0, 1) := by decide +kernel
theorem dX9_count_29 : decode cX9_count 29 = .ok (.getfield 129, 3) := by decide +kernel
theorem dX9_count_32 : decode cX9_count 32 = .ok (.goto 28, 3) := by decide +kernel
theorem dX9_count_35 : decode cX9_count 35 = .ok (.iload_n 1, 1) := by decide +kernel
theorem dX9_count_36 : decode cX9_count 36 = .ok (.iconst 3, 1) := by decide +kernel
theorem dX9_count_37 : decode cX9_count 37 = .ok (.if_icmp .ne 10, 3) := by decide +kernel
theorem dX9_count_40 : decode cX9_count 40 = .ok (.aload_n 0, 1) := by decide +kernel
theorem dX9_count_41 : decode cX9_count 41 = .ok (.getfield 132, 3) := by decide +kernel
theorem dX9_count_44 : decode cX9_count 44 = .ok (.goto 16, 3) := by decide +kernel
theorem dX9_count_47 : decode cX9_count 47 = .ok (.iload_n 1, 1) := by decide +kernel
theorem dX9_count_48 : decode cX9_count 48 = .ok (.iconst 4, 1) := by decide +kernel
theorem dX9_count_49 : decode cX9_count 49 = .ok (.if_icmp .ne 10, 3) := by decide +kernel
theorem dX9_count_52 : decode cX9_count 52 = .ok (.aload_n 0, 1) := by decide +kernel
theorem dX9_count_53 : decode cX9_count 53 = .ok (.getfield 85, 3) := by decide +kernel
theorem dX9_count_56 : decode cX9_count 56 = .ok (.goto 4, 3) := by decide +kernel
theorem dX9_count_59 : decode cX9_count 59 = .ok (.iconst (-1), 1) := by decide +kernel
theorem dX9_count_60 : decode cX9_count 60 = .ok (.ireturn, 1) := by decide +kernel
theorem dX9_trace_0 : decode cX9_trace 0 = .ok (.aload_n 0, 1) := by decide +kernel
theorem dX9_trace_1 : decode cX9_trace 1 = .ok (.iconst 0, 1) := by decide +kernel
theorem dX9_trace_2 : decode cX9_trace 2 = .ok (.putfield 77, 3) := by decide +kernel
theorem dX9_trace_5 : decode cX9_trace 5 = .ok (.aload_n 0, 1) := by decide +kernel
theorem dX9_trace_6 : decode cX9_trace 6 = .ok (.getfield 240, 3) := by decide +kernel
theorem dX9_trace_9 : decode cX9_trace 9 = .ok (.lreturn, 1) := by decide +kernel
theorem dJ6_bitCount_0f7a4_0 : decode cJ6_bitCount_0f7a4 0 = .ok (.iload_n 0, 1) := by decide +kernel
theorem dJ6_bitCount_0f7a4_1 : decode cJ6_bitCount_0f7a4 1 = .ok (.iload_n 0, 1) := by decide +kernel
theorem dJ6_bitCount_0f7a4_2 : decode cJ6_bitCount_0f7a4 2 = .ok (.iconst 1, 1) := by decide +kernel
theorem dJ6_bitCount_0f7a4_3 : decode cJ6_bitCount_0f7a4 3 = .ok (.iushr, 1) := by decide +kernel
theorem dJ6_bitCount_0f7a4_4 : decode cJ6_bitCount_0f7a4 4 = .ok (.ldc_w 265, 3) := by decide +kernel
theorem dJ6_bitCount_0f7a4_7 : decode cJ6_bitCount_0f7a4 7 = .ok (.iand, 1) := by decide +kernel
theorem dJ6_bitCount_0f7a4_8 : decode cJ6_bitCount_0f7a4 8 = .ok (.isub, 1) := by decide +kernel
theorem dJ6_bitCount_0f7a4_9 : decode cJ6_bitCount_0f7a4 9 = .ok (.istore_n 0, 1) := by decide +kernel
theorem dJ6_bitCount_0f7a4_10 : decode cJ6_bitCount_0f7a4 10 = .ok (.iload_n 0, 1) := by decide +kernel
theorem dJ6_bitCount_0f7a4_11 : decode cJ6_bitCount_0f7a4 11 = .ok (.ldc_w 266, 3) := by decide +kernel
theorem dJ6_bitCount_0f7a4_14 : decode cJ6_bitCount_0f7a4 14 = .ok (.iand, 1) := by decide +kernel
theorem dJ6_bitCount_0f7a4_15 : decode cJ6_bitCount_0f7a4 15 = .ok (.iload_n 0, 1) := by decide +kernel
theorem dJ6_bitCount_0f7a4_16 : decode cJ6_bitCount_0f7a4 16 = .ok (.iconst 2, 1) := by decide +kernel
theorem dJ6_bitCount_0f7a4_17 : decode cJ6_bitCount_0f7a4 17 = .ok (.iushr, 1) := by decide +kernel
theorem dJ6_bitCount_0f7a4_18 : decode cJ6_bitCount_0f7a4 18 = .ok (.ldc_w 266, 3) := by decide +kernel
theorem dJ6_bitCount_0f7a4_21 : decode cJ6_bitCount_0f7a4 21 = .ok (.iand, 1) := by decide +kernel
theorem dJ6_bitCount_0f7a4_22 : decode cJ6_bitCount_0f7a4 22 = .ok (.iadd, 1) := by decide +kernel
theorem dJ6_bitCount_0f7a4_23 : decode cJ6_bitCount_0f7a4 23 = .ok (.istore_n 0, 1) := by decide +kernel
theorem dJ6_bitCount_0f7a4_24 : decode cJ6_bitCount_0f7a4 24 = .ok (.iload_n 0, 1) := by decide +kernel
theorem dJ6_bitCount_0f7a4_25 : decode cJ6_bitCount_0f7a4 25 = .ok (.iload_n 0, 1) := by decide +kernel
theorem dJ6_bitCount_0f7a4_26 : decode cJ6_bitCount_0f7a4 26 = .ok (.iconst 4, 1) := by decide +kernel
theorem dJ6_bitCount_0f7a4_27 : decode cJ6_bitCount_0f7a4 27 = .ok (.iushr, 1) := by decide +kernel
theorem dJ6_bitCount_0f7a4_28 : decode cJ6_bitCount_0f7a4 28 = .ok (.iadd, 1) := by decide +kernel
theorem dJ6_bitCount_0f7a4_29 : decode cJ6_bitCount_0f7a4 29 = .ok (.ldc_w 267, 3) := by decide +kernel
theorem dJ6_bitCount_0f7a4_32 : decode cJ6_bitCount_0f7a4 32 = .ok (.iand, 1) := by decide +kernel
theorem dJ6_bitCount_0f7a4_33 : decode cJ6_bitCount_0f7a4 33 = .ok (.istore_n 0, 1) := by decide +kernel
theorem dJ6_bitCount_0f7a4_34 : decode cJ6_bitCount_0f7a4 34 = .ok (.iload_n 0, 1) := by decide +kernel
theorem dJ6_bitCount_0f7a4_35 : decode cJ6_bitCount_0f7a4 35 = .ok (.iload_n 0, 1) := by decide +kernel
theorem dJ6_bitCount_0f7a4_36 : decode cJ6_bitCount_0f7a4 36 = .ok (.bipush 8, 2) := by decide +kernel
theorem dJ6_bitCount_0f7a4_38 : decode cJ6_bitCount_0f7a4 38 = .ok (.iushr, 1) := by decide +kernel
theorem dJ6_bitCount_0f7a4_39 : decode cJ6_bitCount_0f7a4 39 = .ok (.iadd, 1) := by decide +kernel
theorem dJ6_bitCount_0f7a4_40 : decode cJ6_bitCount_0f7a4 40 = .ok (.istore_n 0, 1) := by decide +kernel
theorem dJ6_bitCount_0f7a4_41 : decode cJ6_bitCount_0f7a4 41 = .ok (.iload_n 0, 1) := by decide +kernel
theorem dJ6_bitCount_0f7a4_42 : decode cJ6_bitCount_0f7a4 42 = .ok (.iload_n 0, 1) := by decide +kernel
theorem dJ6_bitCount_0f7a4_43 : decode cJ6_bitCount_0f7a4 43 = .ok (.bipush 16, 2) := by decide +kernel
theorem dJ6_bitCount_0f7a4_45 : decode cJ6_bitCount_0f7a4 45 = .ok (.iushr, 1) := by decide +kernel
theorem dJ6_bitCount_0f7a4_46 : decode cJ6_bitCount_0f7a4 46 = .ok (.iadd, 1) := by decide +kernel
theorem dJ6_bitCount_0f7a4_47 : decode cJ6_bitCount_0f7a4 47 = .ok (.istore_n 0, 1) := by decide +kernel
theorem dJ6_bitCount_0f7a4_48 : decode cJ6_bitCount_0f7a4 48 = .ok (.iload_n 0, 1) := by decide +kernel
theorem dJ6_bitCount_0f7a4_49 : decode cJ6_bitCount_0f7a4 49 = .ok (.bipush 63, 2) := by decide +kernel
theorem dJ6_bitCount_0f7a4_51 : decode cJ6_bitCount_0f7a4 51 = .ok (.iand, 1) := by decide +kernel
theorem dJ6_bitCount_0f7a4_52 : decode cJ6_bitCount_0f7a4 52 = .ok (.ireturn, 1) := by decide +kernel
theorem dJ9_max_7cf53_0 : decode cJ9_max_7cf53 0 = .ok (.iload_n 0, 1) := by decide +kernel
theorem dJ9_max_7cf53_1 : decode cJ9_max_7cf53 1 = .ok (.iload_n 1, 1) := by decide +kernel
theorem dJ9_max_7cf53_2 : decode cJ9_max_7cf53 2 = .ok (.if_icmp .lt 7, 3) := by decide +kernel
theorem dJ9_max_7cf53_5 : decode cJ9_max_7cf53 5 = .ok (.iload_n 0, 1) := by decide +kernel
theorem dJ9_max_7cf53_6 : decode cJ9_max_7cf53 6 = .ok (.goto 4, 3) := by decide +kernel
theorem dJ9_max_7cf53_9 : decode cJ9_max_7cf53 9 = .ok (.iload_n 1, 1) := by decide +kernel
theorem dJ9_max_7cf53_10 : decode cJ9_max_7cf53 10 = .ok (.ireturn, 1) := by decide +kernel
theorem dJ9_min_7cf53_0 : decode cJ9_min_7cf53 0 = .ok (.iload_n 0, 1) := by decide +kernel
theorem dJ9_min_7cf53_1 : decode cJ9_min_7cf53 1 = .ok (.iload_n 1, 1) := by decide +kernel
theorem dJ9_min_7cf53_2 : decode cJ9_min_7cf53 2 = .ok (.if_icmp .gt 7, 3) := by decide +kernel
theorem dJ9_min_7cf53_5 : decode cJ9_min_7cf53 5 = .ok (.iload_n 0, 1) := by decide +kernel
theorem dJ9_min_7cf53_6 : decode cJ9_min_7cf53 6 = .ok (.goto 4, 3) := by decide +kernel
theorem dJ9_min_7cf53_9 : decode cJ9_min_7cf53 9 = .ok (.iload_n 1, 1) := by decide +kernel
theorem dJ9_min_7cf53_10 : decode cJ9_min_7cf53 10 = .ok (.ireturn, 1) := by decide +kernel
theorem dJ7_fill_53178_0 : decode cJ7_fill_53178 0 = .ok (.iconst 0, 1) := by decide +kernel
theorem dJ7_fill_53178_1 : decode cJ7_fill_53178 1 = .ok (.istore_n 2, 1) := by decide +kernel
theorem dJ7_fill_53178_2 : decode cJ7_fill_53178 2 = .ok (.aload_n 0, 1) := by decide +kernel
theorem dJ7_fill_53178_3 : decode cJ7_fill_53178 3 = .ok (.arraylength, 1) := by decide +kernel
theorem dJ7_fill_53178_4 : decode cJ7_fill_53178 4 = .ok (.istore_n 3, 1) := by decide +kernel
theorem dJ7_fill_53178_5 : decode cJ7_fill_53178 5 = .ok (.iload_n 2, 1) := by decide +kernel
theorem dJ7_fill_53178_6 : decode cJ7_fill_53178 6 = .ok (.iload_n 3, 1) := by decide +kernel
theorem dJ7_fill_53178_7 : decode cJ7_fill_53178 7 = .ok (.if_icmp .ge 13, 3) := by decide +kernel
theorem dJ7_fill_53178_10 : decode cJ7_fill_53178 10 = .ok (.aload_n 0, 1) := by decide +kernel
theorem dJ7_fill_53178_11 : decode cJ7_fill_53178 11 = .ok (.iload_n 2, 1) := by decide +kernel
theorem dJ7_fill_53178_12 : decode cJ7_fill_53178 12 = .ok (.iload_n 1, 1) := by decide +kernel
theorem dJ7_fill_53178_13 : decode cJ7_fill_53178 13 = .ok (.iastore, 1) := by decide +kernel
theorem dJ7_fill_53178_14 : decode cJ7_fill_53178 14 = .ok (.iinc 2 1, 3) := by decide +kernel
theorem dJ7_fill_53178_17 : decode cJ7_fill_53178 17 = .ok (.goto (-12), 3) := by decide +kernel
theorem dJ7_fill_53178_20 : decode cJ7_fill_53178 20 = .ok (.return_, 1) := by decide +kernel
end
section
section LAST
variable {Γ : Gm} {p : Program} {l : Launch} {e : Env} {R : Room} {s : State} {m : MethodId} {args : Array Value} {below : List Frame} {meth : Method} {c : Code} {own : String} {cc : ByteArray} {nL : Nat} {rt : Option FieldType} {n0 : Nat} {Q : State → Prop} {pc : Nat} {L : List (Option aV)} {st : List aV} {n : Nat} {g : aG} {h : aH}
theorem ok_fI {idx ci j k : Nat} (jI : Int) (a : Ac Γ p s m args meth c own cc nL rt) (d : decode cc pc = .ok (.getfield idx, 3)) (f : Lf own idx ci j) (hk : k < n) (hc : (kd k).1 = ci) (ht : tyOf ci j = .int) (hj : (j : Int) = jI) (kk : OK Γ p l e R s m args below meth c n0 Q (pc + 3) L (vI (h k jI) :: st) n g h) : OK Γ p l e R s m args below meth c n0 Q pc L (vR k :: st) n g h := by
  subst hj
  exact ok_getI a d f hk hc (Or.inl ht) kk
theorem ok_fZ {idx ci j k : Nat} (jI : Int) (a : Ac Γ p s m args meth c own cc nL rt) (d : decode cc pc = .ok (.getfield idx, 3)) (f : Lf own idx ci j) (hk : k < n) (hc : (kd k).1 = ci) (ht : tyOf ci j = .boolean) (hj : (j : Int) = jI) (kk : OK Γ p l e R s m args below meth c n0 Q (pc + 3) L (vI (h k jI) :: st) n g h) : OK Γ p l e R s m args below meth c n0 Q pc L (vR k :: st) n g h := by
  subst hj
  exact ok_getI a d f hk hc (Or.inr ht) kk
theorem ok_fJ {idx ci j k : Nat} (jI : Int) (a : Ac Γ p s m args meth c own cc nL rt) (d : decode cc pc = .ok (.getfield idx, 3)) (f : Lf own idx ci j) (hk : k < n) (hc : (kd k).1 = ci) (ht : tyOf ci j = .long) (hj : (j : Int) = jI) (kk : OK Γ p l e R s m args below meth c n0 Q (pc + 3) L (vL (h k jI) :: st) n g h) : OK Γ p l e R s m args below meth c n0 Q pc L (vR k :: st) n g h := by
  subst hj
  exact ok_getL a d f hk hc ht kk
theorem ok_pI {idx ci j k : Nat} {x : Int} (jI : Int) (a : Ac Γ p s m args meth c own cc nL rt) (d : decode cc pc = .ok (.putfield idx, 3)) (f : Lf own idx ci j) (hfin : (cT ci j).2.2.2 = false) (hk : k < n) (hc : (kd k).1 = ci) (ht : tyOf ci j = .int) (hj : (j : Int) = jI) (kk : ∀ h1, h1 = up h k jI x → OK Γ p l e R s m args below meth c n0 Q (pc + 3) L st n g h1) : OK Γ p l e R s m args below meth c n0 Q pc L (vI x :: vR k :: st) n g h := by
  subst hj
  exact ok_putI a d f hfin hk hc ht (kk _ rfl)
theorem ok_pJ {idx ci j k : Nat} {x : Int} (jI : Int) (a : Ac Γ p s m args meth c own cc nL rt) (d : decode cc pc = .ok (.putfield idx, 3)) (f : Lf own idx ci j) (hfin : (cT ci j).2.2.2 = false) (hk : k < n) (hc : (kd k).1 = ci) (ht : tyOf ci j = .long) (hj : (j : Int) = jI) (kk : ∀ h1, h1 = up h k jI x → OK Γ p l e R s m args below meth c n0 Q (pc + 3) L st n g h1) : OK Γ p l e R s m args below meth c n0 Q pc L (vL x :: vR k :: st) n g h := by
  subst hj
  exact ok_putL a d f hfin hk hc ht (kk _ rfl)
theorem ok_pZ {idx ci j k : Nat} {x : Int} (jI : Int) (a : Ac Γ p s m args meth c own cc nL rt) (d : decode cc pc = .ok (.putfield idx, 3)) (f : Lf own idx ci j) (hfin : (cT ci j).2.2.2 = false) (hk : k < n) (hc : (kd k).1 = ci) (ht : tyOf ci j = .boolean) (hj : (j : Int) = jI) (hx : x = 0 ∨ x = 1) (kk : ∀ h1, h1 = up h k jI x → OK Γ p l e R s m args below meth c n0 Q (pc + 3) L st n g h1) : OK Γ p l e R s m args below meth c n0 Q pc L (vI x :: vR k :: st) n g h := by
  subst hj
  exact ok_putZ a d f hfin hk hc ht hx (kk _ rfl)
theorem ok_al {k len : Nat} (lI : Int) (a : Ac Γ p s m args meth c own cc nL rt) (d : decode cc pc = .ok (.arraylength, 1)) (hk : k < n) (hc : kd k = (10, len)) (h4 : 0 < 4) (hl : (len : Int) = lI) (kk : OK Γ p l e R s m args below meth c n0 Q (pc + 1) L (vI lI :: st) n g h) : OK Γ p l e R s m args below meth c n0 Q pc L (vR k :: st) n g h := by
  subst hl
  exact ok_alen (t := 0) a d hk hc h4 kk
end LAST

abbrev mX0_weigh : MI := (yX0_weigh, cX0_weigh, 4, some .int, 0)
abbrev mJ7_fill_53178 : MI := (yJ7_fill_53178, cJ7_fill_53178, 4, none, 0)
abbrev mX8_within : MI := (yX8_within, cX8_within, 3, some .boolean, 0)
abbrev mX0_canWeigh : MI := (yX0_canWeigh, cX0_canWeigh, 2, some .boolean, 0)
abbrev mJ6_bitCount_0f7a4 : MI := (yJ6_bitCount_0f7a4, cJ6_bitCount_0f7a4, 1, some .int, 0)
abbrev mX0_fewestPieces : MI := (yX0_fewestPieces, cX0_fewestPieces, 2, some .int, 1)
abbrev mX0_offer : MI := (yX0_offer, cX0_offer, 5, none, 2)
abbrev mX0_layOut : MI := (yX0_layOut, cX0_layOut, 5, none, 3)
abbrev mX0_heavierPan : MI := (yX0_heavierPan, cX0_heavierPan, 2, some .int, 0)
abbrev mX0_otherPan : MI := (yX0_otherPan, cX0_otherPan, 2, some .int, 0)
abbrev mX0_range : MI := (yX0_range, cX0_range, 2, some .int, 1)
abbrev mX1_dropRecords : MI := (yX1_dropRecords, cX1_dropRecords, 1, none, 0)
abbrev mX1_begin : MI := (yX1_begin, cX1_begin, 1, none, 1)
abbrev mX1_addShown : MI := (yX1_addShown, cX1_addShown, 4, some .boolean, 0)
abbrev mX1_addSeen : MI := (yX1_addSeen, cX1_addSeen, 3, some .boolean, 0)
abbrev mX1_prepareWays : MI := (yX1_prepareWays, cX1_prepareWays, 7, none, 1)
abbrev mJ9_max_7cf53 : MI := (yJ9_max_7cf53, cJ9_max_7cf53, 2, some .int, 0)
abbrev mX1_lowestOf : MI := (yX1_lowestOf, cX1_lowestOf, 5, some .int, 1)
abbrev mJ9_min_7cf53 : MI := (yJ9_min_7cf53, cJ9_min_7cf53, 2, some .int, 0)
abbrev mX1_highestOf : MI := (yX1_highestOf, cX1_highestOf, 5, some .int, 1)
abbrev mX1_waysBetween : MI := (yX1_waysBetween, cX1_waysBetween, 5, some .int, 0)
abbrev mX1_leastBetween : MI := (yX1_leastBetween, cX1_leastBetween, 4, some .int, 0)
abbrev mX1_greatestBetween : MI := (yX1_greatestBetween, cX1_greatestBetween, 4, some .int, 0)
abbrev mX1_gainOf : MI := (yX1_gainOf, cX1_gainOf, 5, some .int, 0)
abbrev mX1_fits : MI := (yX1_fits, cX1_fits, 4, some .boolean, 0)
abbrev mX1_lawsOf : MI := (yX1_lawsOf, cX1_lawsOf, 5, some .int, 1)
abbrev mX1_figuresOf : MI := (yX1_figuresOf, cX1_figuresOf, 5, some .int, 0)
abbrev mX1_firstLawOf : MI := (yX1_firstLawOf, cX1_firstLawOf, 4, some .int, 1)
abbrev mX4_copyFrom : MI := (yX4_copyFrom, cX4_copyFrom, 2, none, 1)
abbrev mX2_push : MI := (yX2_push, cX2_push, 2, none, 2)
abbrev mX2_popInto : MI := (yX2_popInto, cX2_popInto, 2, none, 2)
abbrev mX3_offerBundle : MI := (yX3_offerBundle, cX3_offerBundle, 6, none, 0)
abbrev mX3_countFewest : MI := (yX3_countFewest, cX3_countFewest, 9, some .int, 1)
abbrev mX3_find : MI := (yX3_find, cX3_find, 9, none, 2)
abbrev mX3_firstWay : MI := (yX3_firstWay, cX3_firstWay, 11, some .int, 1)
abbrev mX3_figureOf : MI := (yX3_figureOf, cX3_figureOf, 4, some .int, 0)
abbrev mX3_firstSays : MI := (yX3_firstSays, cX3_firstSays, 6, some .int, 2)
abbrev mX3_secondSays : MI := (yX3_secondSays, cX3_secondSays, 6, some .int, 2)
abbrev mX4_begin : MI := (yX4_begin, cX4_begin, 2, none, 1)
abbrev mX4_add : MI := (yX4_add, cX4_add, 3, none, 1)
abbrev mX8_foundOf : MI := (yX8_foundOf, cX8_foundOf, 2, some .int, 0)
abbrev mX8_withFound : MI := (yX8_withFound, cX8_withFound, 4, some .int, 0)
abbrev mX5_ordersLeft : MI := (yX5_ordersLeft, cX5_ordersLeft, 2, some .int, 0)
abbrev mX5_countHeavierOnes : MI := (yX5_countHeavierOnes, cX5_countHeavierOnes, 6, none, 1)
abbrev mX5_dueFinding : MI := (yX5_dueFinding, cX5_dueFinding, 2, some .int, 0)
abbrev mX5_isOrder : MI := (yX5_isOrder, cX5_isOrder, 6, some .boolean, 2)
abbrev mX5_countOrders : MI := (yX5_countOrders, cX5_countOrders, 3, some .int, 3)
abbrev mX5_worstOf : MI := (yX5_worstOf, cX5_worstOf, 2, some .int, 0)
abbrev mX5_worstBehind : MI := (yX5_worstBehind, cX5_worstBehind, 6, some .int, 1)
abbrev mX5_leastBehind : MI := (yX5_leastBehind, cX5_leastBehind, 4, some .int, 2)
abbrev mX5_prepare : MI := (yX5_prepare, cX5_prepare, 5, none, 4)
abbrev mX8_pairOf : MI := (yX8_pairOf, cX8_pairOf, 4, some .int, 1)
abbrev mX5_nextPair : MI := (yX5_nextPair, cX5_nextPair, 6, some .int, 2)
abbrev mX6_append : MI := (yX6_append, cX6_append, 2, some .boolean, 0)
abbrev mX6_hasFault : MI := (yX6_hasFault, cX6_hasFault, 1, some .boolean, 0)
abbrev mX7_makeEmpty : MI := (yX7_makeEmpty, cX7_makeEmpty, 1, none, 1)
abbrev mX6_skipBlanks : MI := (yX6_skipBlanks, cX6_skipBlanks, 1, none, 0)
abbrev mX6_isFigure : MI := (yX6_isFigure, cX6_isFigure, 1, some .boolean, 0)
abbrev mX6_readNumber : MI := (yX6_readNumber, cX6_readNumber, 7, some .int, 1)
abbrev mX6_readEnd : MI := (yX6_readEnd, cX6_readEnd, 1, none, 1)
abbrev mX6_readWeight : MI := (yX6_readWeight, cX6_readWeight, 4, none, 2)
abbrev mX6_readPerson : MI := (yX6_readPerson, cX6_readPerson, 4, none, 2)
abbrev mX6_readGrowth : MI := (yX6_readGrowth, cX6_readGrowth, 5, none, 2)
abbrev mX6_readPiece : MI := (yX6_readPiece, cX6_readPiece, 3, none, 2)
abbrev mX6_readItem : MI := (yX6_readItem, cX6_readItem, 4, none, 3)
abbrev mX6_readInto : MI := (yX6_readInto, cX6_readInto, 3, some .int, 4)
abbrev mX7_copyFrom : MI := (yX7_copyFrom, cX7_copyFrom, 2, none, 1)
abbrev mX8_type : MI := (yX8_type, cX8_type, 2, some .int, 1)
abbrev mX8_clear : MI := (yX8_clear, cX8_clear, 2, some .int, 0)
abbrev mX8_beginAnew : MI := (yX8_beginAnew, cX8_beginAnew, 2, none, 4)
abbrev mX8_shop : MI := (yX8_shop, cX8_shop, 2, some .int, 5)
abbrev mX8_isPerson : MI := (yX8_isPerson, cX8_isPerson, 2, some .boolean, 1)
abbrev mX8_isSort : MI := (yX8_isSort, cX8_isSort, 1, some .boolean, 1)
abbrev mX8_holds : MI := (yX8_holds, cX8_holds, 3, some .int, 2)
abbrev mX8_grows : MI := (yX8_grows, cX8_grows, 3, some .int, 2)
abbrev mX8_weight : MI := (yX8_weight, cX8_weight, 3, some .int, 2)
abbrev mX8_heavinessAhead : MI := (yX8_heavinessAhead, cX8_heavinessAhead, 7, some .int, 1)
abbrev mX8_heavinessOf : MI := (yX8_heavinessOf, cX8_heavinessOf, 2, some .int, 2)
abbrev mX8_heavy : MI := (yX8_heavy, cX8_heavy, 2, some .int, 3)
abbrev mX8_isPair : MI := (yX8_isPair, cX8_isPair, 3, some .boolean, 2)
abbrev mX8_knownOf : MI := (yX8_knownOf, cX8_knownOf, 4, some .int, 2)
abbrev mX8_known : MI := (yX8_known, cX8_known, 3, some .int, 3)
abbrev mX8_knownPairs : MI := (yX8_knownPairs, cX8_knownPairs, 3, some .int, 1)
abbrev mX8_planned : MI := (yX8_planned, cX8_planned, 2, some .int, 5)
abbrev mX8_now : MI := (yX8_now, cX8_now, 2, some .int, 6)
abbrev mX8_tells : MI := (yX8_tells, cX8_tells, 5, some .int, 3)
abbrev mX8_keeps : MI := (yX8_keeps, cX8_keeps, 4, some .int, 3)
abbrev mX8_day : MI := (yX8_day, cX8_day, 2, some .int, 3)
abbrev mX8_compareLower : MI := (yX8_compareLower, cX8_compareLower, 4, some .int, 3)
abbrev mX8_weighs : MI := (yX8_weighs, cX8_weighs, 3, some .int, 4)
abbrev mX8_forgets : MI := (yX8_forgets, cX8_forgets, 2, some .int, 3)
abbrev mX8_undo : MI := (yX8_undo, cX8_undo, 1, some .int, 3)
abbrev mX8_beam : MI := (yX8_beam, cX8_beam, 3, some .int, 3)
abbrev mX8_level : MI := (yX8_level, cX8_level, 4, some .int, 3)
abbrev mX8_when : MI := (yX8_when, cX8_when, 4, some .int, 3)
abbrev mX8_power : MI := (yX8_power, cX8_power, 5, some .long, 0)
abbrev mX8_lighterWays : MI := (yX8_lighterWays, cX8_lighterWays, 12, some .long, 3)
abbrev mX8_commonDivisor : MI := (yX8_commonDivisor, cX8_commonDivisor, 11, some .long, 0)
abbrev mX8_odds : MI := (yX8_odds, cX8_odds, 12, some .long, 4)
abbrev mX8_brass : MI := (yX8_brass, cX8_brass, 3, some .int, 2)
abbrev mX8_shows : MI := (yX8_shows, cX8_shows, 4, some .int, 2)
abbrev mX8_can : MI := (yX8_can, cX8_can, 5, some .int, 2)
abbrev mX8_saw : MI := (yX8_saw, cX8_saw, 3, some .int, 2)
abbrev mX8_laws : MI := (yX8_laws, cX8_laws, 3, some .int, 2)
abbrev mX8_clean : MI := (yX8_clean, cX8_clean, 2, some .int, 1)
abbrev mX8_asPerson : MI := (yX8_asPerson, cX8_asPerson, 2, some .int, 3)
abbrev mX8_sumOfSorts : MI := (yX8_sumOfSorts, cX8_sumOfSorts, 4, some .int, 0)
abbrev mX8_asBride : MI := (yX8_asBride, cX8_asBride, 2, some .int, 4)
abbrev mX8_asPartner : MI := (yX8_asPartner, cX8_asPartner, 2, some .int, 4)
abbrev mX8_asBrother : MI := (yX8_asBrother, cX8_asBrother, 2, some .int, 5)
abbrev mX8_asBankrupt : MI := (yX8_asBankrupt, cX8_asBankrupt, 2, some .int, 5)
abbrev mX8_asStranger : MI := (yX8_asStranger, cX8_asStranger, 2, some .int, 4)
abbrev mX8_rate : MI := (yX8_rate, cX8_rate, 3, some .int, 6)
abbrev mX8_keep : MI := (yX8_keep, cX8_keep, 2, some .int, 2)
abbrev mX8_back : MI := (yX8_back, cX8_back, 2, some .int, 2)
abbrev mX8_count : MI := (yX8_count, cX8_count, 2, some .int, 0)
abbrev mX8_trace : MI := (yX8_trace, cX8_trace, 1, some .long, 0)
abbrev mX9_in : MI := (yX9_in, cX9_in, 3, some .boolean, 0)
abbrev mX9_type : MI := (yX9_type, cX9_type, 2, some .int, 1)
abbrev mX9_clear : MI := (yX9_clear, cX9_clear, 2, some .int, 0)
abbrev mX9_letterAt : MI := (yX9_letterAt, cX9_letterAt, 2, some .int, 0)
abbrev mX9_advances : MI := (yX9_advances, cX9_advances, 2, none, 1)
abbrev mX9_isWell : MI := (yX9_isWell, cX9_isWell, 1, some .boolean, 0)
abbrev mX9_takes : MI := (yX9_takes, cX9_takes, 3, some .int, 2)
abbrev mX9_number : MI := (yX9_number, cX9_number, 3, some .int, 3)
abbrev mX9_begins : MI := (yX9_begins, cX9_begins, 2, none, 0)
abbrev mX9_readsItem : MI := (yX9_readsItem, cX9_readsItem, 5, none, 4)
abbrev mX9_mayBegin : MI := (yX9_mayBegin, cX9_mayBegin, 1, some .boolean, 0)
abbrev mX9_lowerOf : MI := (yX9_lowerOf, cX9_lowerOf, 1, some .int, 0)
abbrev mX9_upperOf : MI := (yX9_upperOf, cX9_upperOf, 1, some .int, 0)
abbrev mX9_isPairNumber : MI := (yX9_isPairNumber, cX9_isPairNumber, 2, some .boolean, 1)
abbrev mX9_orders : MI := (yX9_orders, cX9_orders, 10, none, 2)
abbrev mX9_worstBehind : MI := (yX9_worstBehind, cX9_worstBehind, 6, some .int, 2)
abbrev mX9_worsts : MI := (yX9_worsts, cX9_worsts, 7, none, 3)
abbrev mX9_settles : MI := (yX9_settles, cX9_settles, 2, none, 4)
abbrev mX9_shop : MI := (yX9_shop, cX9_shop, 3, some .int, 5)
abbrev mX9_isPerson : MI := (yX9_isPerson, cX9_isPerson, 2, some .boolean, 1)
abbrev mX9_isSort : MI := (yX9_isSort, cX9_isSort, 1, some .boolean, 1)
abbrev mX9_isPair : MI := (yX9_isPair, cX9_isPair, 3, some .boolean, 2)
abbrev mX9_heaviness : MI := (yX9_heaviness, cX9_heaviness, 4, some .int, 0)
abbrev mX9_holds : MI := (yX9_holds, cX9_holds, 3, some .int, 2)
abbrev mX9_grows : MI := (yX9_grows, cX9_grows, 3, some .int, 2)
abbrev mX9_weight : MI := (yX9_weight, cX9_weight, 2, some .int, 1)
abbrev mX9_heavy : MI := (yX9_heavy, cX9_heavy, 2, some .int, 2)
abbrev mX9_pairOf : MI := (yX9_pairOf, cX9_pairOf, 4, some .int, 0)
abbrev mX9_turned : MI := (yX9_turned, cX9_turned, 1, some .int, 0)
abbrev mX9_known : MI := (yX9_known, cX9_known, 4, some .int, 3)
abbrev mX9_codeNow : MI := (yX9_codeNow, cX9_codeNow, 3, some .int, 0)
abbrev mX9_nextPair : MI := (yX9_nextPair, cX9_nextPair, 6, some .int, 3)
abbrev mX9_knownMany : MI := (yX9_knownMany, cX9_knownMany, 3, some .int, 0)
abbrev mX9_sumOf : MI := (yX9_sumOf, cX9_sumOf, 4, some .int, 0)
abbrev mX9_range : MI := (yX9_range, cX9_range, 4, some .int, 1)
abbrev mX9_now : MI := (yX9_now, cX9_now, 2, some .int, 4)
abbrev mX9_notes : MI := (yX9_notes, cX9_notes, 2, none, 0)
abbrev mX9_gets : MI := (yX9_gets, cX9_gets, 5, none, 0)
abbrev mX9_tells : MI := (yX9_tells, cX9_tells, 4, some .int, 3)
abbrev mX9_keeps : MI := (yX9_keeps, cX9_keeps, 3, some .int, 2)
abbrev mX9_day : MI := (yX9_day, cX9_day, 2, some .int, 1)
abbrev mX9_weighs : MI := (yX9_weighs, cX9_weighs, 5, some .int, 3)
abbrev mX9_forgets : MI := (yX9_forgets, cX9_forgets, 3, some .int, 1)
abbrev mX9_undo : MI := (yX9_undo, cX9_undo, 2, some .int, 0)
abbrev mX9_beam : MI := (yX9_beam, cX9_beam, 3, some .int, 3)
abbrev mX9_canSay : MI := (yX9_canSay, cX9_canSay, 4, some .boolean, 0)
abbrev mX9_weighsOf : MI := (yX9_weighsOf, cX9_weighsOf, 2, some .int, 0)
abbrev mX9_sheds : MI := (yX9_sheds, cX9_sheds, 7, none, 1)
abbrev mX9_wayOf : MI := (yX9_wayOf, cX9_wayOf, 6, some .int, 1)
abbrev mX9_level : MI := (yX9_level, cX9_level, 7, some .int, 3)
abbrev mX9_heavinessThen : MI := (yX9_heavinessThen, cX9_heavinessThen, 6, some .int, 0)
abbrev mX9_when : MI := (yX9_when, cX9_when, 4, some .int, 3)
abbrev mX9_gcd : MI := (yX9_gcd, cX9_gcd, 10, some .long, 0)
abbrev mX9_odds : MI := (yX9_odds, cX9_odds, 17, some .long, 3)
abbrev mX9_pieces : MI := (yX9_pieces, cX9_pieces, 7, some .int, 1)
abbrev mX9_brass : MI := (yX9_brass, cX9_brass, 4, some .int, 2)
abbrev mX9_shows : MI := (yX9_shows, cX9_shows, 4, some .int, 2)
abbrev mX9_isAsShown : MI := (yX9_isAsShown, cX9_isAsShown, 6, some .boolean, 0)
abbrev mX9_can : MI := (yX9_can, cX9_can, 8, some .int, 2)
abbrev mX9_saw : MI := (yX9_saw, cX9_saw, 3, some .int, 2)
abbrev mX9_laws : MI := (yX9_laws, cX9_laws, 9, some .int, 2)
abbrev mX9_clean : MI := (yX9_clean, cX9_clean, 2, some .int, 0)
abbrev mX9_rate : MI := (yX9_rate, cX9_rate, 7, some .int, 2)
abbrev mX9_keep : MI := (yX9_keep, cX9_keep, 3, some .int, 1)
abbrev mX9_back : MI := (yX9_back, cX9_back, 3, some .int, 1)
abbrev mX9_count : MI := (yX9_count, cX9_count, 2, some .int, 1)
abbrev mX9_trace : MI := (yX9_trace, cX9_trace, 1, some .long, 0)
theorem kq0 : (kd 0).1 = 8 := by decide +kernel
theorem kq1 : (kd 1).1 = 6 := by decide +kernel
theorem kq2 : kd 2 = (11, 150) := by decide +kernel
theorem kq3 : (kd 3).1 = 7 := by decide +kernel
theorem kq4 : kd 4 = (10, 4) := by decide +kernel
theorem kq5 : kd 5 = (10, 16) := by decide +kernel
theorem kq6 : kd 6 = (10, 16) := by decide +kernel
theorem kq7 : kd 7 = (10, 5) := by decide +kernel
theorem kq8 : (kd 8).1 = 7 := by decide +kernel
theorem kq9 : kd 9 = (10, 4) := by decide +kernel
theorem kq10 : kd 10 = (10, 16) := by decide +kernel
theorem kq11 : kd 11 = (10, 16) := by decide +kernel
theorem kq12 : kd 12 = (10, 5) := by decide +kernel
theorem kq13 : (kd 13).1 = 4 := by decide +kernel
theorem kq14 : kd 14 = (10, 16) := by decide +kernel
theorem kq15 : (kd 15).1 = 2 := by decide +kernel
theorem kq16 : kd 16 = (14, 10) := by decide +kernel
theorem kq37 : kd 37 = (14, 2) := by decide +kernel
theorem kq42 : kd 42 = (13, 2) := by decide +kernel
theorem kq43 : (kd 43).1 = 5 := by decide +kernel
theorem kq44 : kd 44 = (12, 4096) := by decide +kernel
theorem kq45 : kd 45 = (10, 4) := by decide +kernel
theorem kq46 : (kd 46).1 = 0 := by decide +kernel
theorem kq47 : kd 47 = (10, 32) := by decide +kernel
theorem kq48 : kd 48 = (10, 301) := by decide +kernel
theorem kq49 : (kd 49).1 = 3 := by decide +kernel
theorem kq50 : kd 50 = (10, 721) := by decide +kernel
theorem kq51 : kd 51 = (10, 721) := by decide +kernel
theorem kq52 : (kd 52).1 = 1 := by decide +kernel
theorem kq53 : kd 53 = (10, 6) := by decide +kernel
theorem kq54 : kd 54 = (10, 6) := by decide +kernel
theorem kq55 : kd 55 = (10, 6) := by decide +kernel
theorem kq56 : kd 56 = (10, 6) := by decide +kernel
theorem kq57 : kd 57 = (10, 6) := by decide +kernel
theorem kq58 : kd 58 = (10, 721) := by decide +kernel
theorem kq59 : (kd 59).1 = 9 := by decide +kernel
theorem kq60 : kd 60 = (10, 150) := by decide +kernel
theorem kq61 : kd 61 = (10, 4) := by decide +kernel
theorem kq62 : kd 62 = (10, 8) := by decide +kernel
theorem kq63 : kd 63 = (10, 16) := by decide +kernel
theorem kq64 : kd 64 = (10, 32) := by decide +kernel
theorem kq65 : kd 65 = (10, 10) := by decide +kernel
theorem kq66 : kd 66 = (10, 23) := by decide +kernel
theorem kq67 : kd 67 = (10, 46) := by decide +kernel
theorem kq68 : kd 68 = (13, 2) := by decide +kernel
theorem kq69 : kd 69 = (10, 230) := by decide +kernel
theorem kq70 : kd 70 = (10, 6) := by decide +kernel
theorem kq71 : kd 71 = (10, 6) := by decide +kernel
theorem kq72 : kd 72 = (10, 6) := by decide +kernel
theorem kq73 : kd 73 = (10, 6) := by decide +kernel
theorem kq74 : kd 74 = (10, 6) := by decide +kernel
theorem kq75 : kd 75 = (10, 75) := by decide +kernel
theorem kq76 : kd 76 = (10, 4096) := by decide +kernel
theorem kq77 : kd 77 = (10, 4096) := by decide +kernel
theorem kq78 : kd 78 = (10, 1442) := by decide +kernel
theorem kq79 : kd 79 = (13, 301) := by decide +kernel
theorem ty_1_6 : tyOf 1 6 = .boolean := rfl
theorem fi_1_6 : (cT 1 6).2.2.2 = false := rfl
theorem ty_1_7 : tyOf 1 7 = .int := rfl
theorem fi_1_7 : (cT 1 7).2.2.2 = false := rfl
theorem ty_1_8 : tyOf 1 8 = .int := rfl
theorem fi_1_8 : (cT 1 8).2.2.2 = false := rfl
theorem ty_2_1 : tyOf 2 1 = .int := rfl
theorem fi_2_1 : (cT 2 1).2.2.2 = false := rfl
theorem ty_2_2 : tyOf 2 2 = .int := rfl
theorem fi_2_2 : (cT 2 2).2.2.2 = false := rfl
theorem ty_3_2 : tyOf 3 2 = .int := rfl
theorem fi_3_2 : (cT 3 2).2.2.2 = false := rfl
theorem ty_3_3 : tyOf 3 3 = .int := rfl
theorem fi_3_3 : (cT 3 3).2.2.2 = false := rfl
theorem ty_3_4 : tyOf 3 4 = .int := rfl
theorem fi_3_4 : (cT 3 4).2.2.2 = false := rfl
theorem ty_3_5 : tyOf 3 5 = .int := rfl
theorem fi_3_5 : (cT 3 5).2.2.2 = false := rfl
theorem ty_4_1 : tyOf 4 1 = .int := rfl
theorem fi_4_1 : (cT 4 1).2.2.2 = false := rfl
theorem ty_4_2 : tyOf 4 2 = .int := rfl
theorem fi_4_2 : (cT 4 2).2.2.2 = false := rfl
theorem ty_5_2 : tyOf 5 2 = .int := rfl
theorem fi_5_2 : (cT 5 2).2.2.2 = false := rfl
theorem ty_5_3 : tyOf 5 3 = .int := rfl
theorem fi_5_3 : (cT 5 3).2.2.2 = false := rfl
theorem ty_6_1 : tyOf 6 1 = .int := rfl
theorem fi_6_1 : (cT 6 1).2.2.2 = false := rfl
theorem ty_6_2 : tyOf 6 2 = .int := rfl
theorem fi_6_2 : (cT 6 2).2.2.2 = false := rfl
theorem ty_6_3 : tyOf 6 3 = .int := rfl
theorem fi_6_3 : (cT 6 3).2.2.2 = false := rfl
theorem ty_7_4 : tyOf 7 4 = .int := rfl
theorem fi_7_4 : (cT 7 4).2.2.2 = false := rfl
theorem ty_7_5 : tyOf 7 5 = .int := rfl
theorem fi_7_5 : (cT 7 5).2.2.2 = false := rfl
theorem ty_8_11 : tyOf 8 11 = .long := rfl
theorem fi_8_11 : (cT 8 11).2.2.2 = false := rfl
theorem ty_9_0 : tyOf 9 0 = .int := rfl
theorem fi_9_0 : (cT 9 0).2.2.2 = false := rfl
theorem ty_9_1 : tyOf 9 1 = .long := rfl
theorem fi_9_1 : (cT 9 1).2.2.2 = false := rfl
theorem ty_9_3 : tyOf 9 3 = .int := rfl
theorem fi_9_3 : (cT 9 3).2.2.2 = false := rfl
theorem ty_9_4 : tyOf 9 4 = .int := rfl
theorem fi_9_4 : (cT 9 4).2.2.2 = false := rfl
theorem ty_9_5 : tyOf 9 5 = .int := rfl
theorem fi_9_5 : (cT 9 5).2.2.2 = false := rfl
theorem ty_9_6 : tyOf 9 6 = .int := rfl
theorem fi_9_6 : (cT 9 6).2.2.2 = false := rfl
theorem ty_9_7 : tyOf 9 7 = .int := rfl
theorem fi_9_7 : (cT 9 7).2.2.2 = false := rfl
theorem ty_9_8 : tyOf 9 8 = .int := rfl
theorem fi_9_8 : (cT 9 8).2.2.2 = false := rfl
theorem ty_9_18 : tyOf 9 18 = .int := rfl
theorem fi_9_18 : (cT 9 18).2.2.2 = false := rfl
theorem ty_9_22 : tyOf 9 22 = .int := rfl
theorem fi_9_22 : (cT 9 22).2.2.2 = false := rfl
theorem ty_9_25 : tyOf 9 25 = .int := rfl
theorem fi_9_25 : (cT 9 25).2.2.2 = false := rfl
theorem ty_9_27 : tyOf 9 27 = .int := rfl
theorem fi_9_27 : (cT 9 27).2.2.2 = false := rfl
theorem ty_9_32 : tyOf 9 32 = .int := rfl
theorem fi_9_32 : (cT 9 32).2.2.2 = false := rfl
theorem ty_9_33 : tyOf 9 33 = .int := rfl
theorem fi_9_33 : (cT 9 33).2.2.2 = false := rfl
theorem lfRX8_12 : Lf RX8 12 8 0 := ⟨by decide, by decide, Or.inl (List.mem_filter.mpr ⟨List.mem_of_getElem? (i := 340) (by decide +kernel), by decide +kernel⟩)⟩
theorem lfRX8_19 : Lf RX8 19 8 1 := ⟨by decide, by decide, Or.inl (List.mem_filter.mpr ⟨List.mem_of_getElem? (i := 341) (by decide +kernel), by decide +kernel⟩)⟩
theorem lfRX8_23 : Lf RX8 23 8 2 := ⟨by decide, by decide, Or.inl (List.mem_filter.mpr ⟨List.mem_of_getElem? (i := 342) (by decide +kernel), by decide +kernel⟩)⟩
theorem lfRX8_29 : Lf RX8 29 8 3 := ⟨by decide, by decide, Or.inl (List.mem_filter.mpr ⟨List.mem_of_getElem? (i := 343) (by decide +kernel), by decide +kernel⟩)⟩
theorem lfRX8_36 : Lf RX8 36 8 4 := ⟨by decide, by decide, Or.inl (List.mem_filter.mpr ⟨List.mem_of_getElem? (i := 344) (by decide +kernel), by decide +kernel⟩)⟩
theorem lfRX8_40 : Lf RX8 40 8 5 := ⟨by decide, by decide, Or.inl (List.mem_filter.mpr ⟨List.mem_of_getElem? (i := 345) (by decide +kernel), by decide +kernel⟩)⟩
theorem lfRX8_44 : Lf RX8 44 8 6 := ⟨by decide, by decide, Or.inl (List.mem_filter.mpr ⟨List.mem_of_getElem? (i := 346) (by decide +kernel), by decide +kernel⟩)⟩
theorem lfRX8_51 : Lf RX8 51 8 7 := ⟨by decide, by decide, Or.inl (List.mem_filter.mpr ⟨List.mem_of_getElem? (i := 347) (by decide +kernel), by decide +kernel⟩)⟩
theorem lfRX8_58 : Lf RX8 58 8 8 := ⟨by decide, by decide, Or.inl (List.mem_filter.mpr ⟨List.mem_of_getElem? (i := 348) (by decide +kernel), by decide +kernel⟩)⟩
theorem lfRX8_65 : Lf RX8 65 8 9 := ⟨by decide, by decide, Or.inl (List.mem_filter.mpr ⟨List.mem_of_getElem? (i := 349) (by decide +kernel), by decide +kernel⟩)⟩
theorem lfRX8_72 : Lf RX8 72 8 10 := ⟨by decide, by decide, Or.inl (List.mem_filter.mpr ⟨List.mem_of_getElem? (i := 350) (by decide +kernel), by decide +kernel⟩)⟩
theorem lfRX8_90 : Lf RX8 90 6 1 := ⟨by decide, by decide, Or.inr ⟨"UnsaidScales", (List.mem_of_getElem? (i := 92) (by decide +kernel))⟩⟩
theorem lfRX8_102 : Lf RX8 102 6 3 := ⟨by decide, by decide, Or.inr ⟨"UnsaidScales", (List.mem_of_getElem? (i := 95) (by decide +kernel))⟩⟩
theorem lfRX8_116 : Lf RX8 116 4 0 := ⟨by decide, by decide, Or.inl (List.mem_filter.mpr ⟨List.mem_of_getElem? (i := 153) (by decide +kernel), by decide +kernel⟩)⟩
theorem lfRX8_120 : Lf RX8 120 7 2 := ⟨by decide, by decide, Or.inl (List.mem_filter.mpr ⟨List.mem_of_getElem? (i := 119) (by decide +kernel), by decide +kernel⟩)⟩
theorem lfRX8_123 : Lf RX8 123 7 0 := ⟨by decide, by decide, Or.inl (List.mem_filter.mpr ⟨List.mem_of_getElem? (i := 114) (by decide +kernel), by decide +kernel⟩)⟩
theorem lfRX8_126 : Lf RX8 126 7 5 := ⟨by decide, by decide, Or.inl (List.mem_filter.mpr ⟨List.mem_of_getElem? (i := 131) (by decide +kernel), by decide +kernel⟩)⟩
theorem lfRX8_129 : Lf RX8 129 7 3 := ⟨by decide, by decide, Or.inl (List.mem_filter.mpr ⟨List.mem_of_getElem? (i := 122) (by decide +kernel), by decide +kernel⟩)⟩
theorem lfRX8_144 : Lf RX8 144 4 1 := ⟨by decide, by decide, Or.inl (List.mem_filter.mpr ⟨List.mem_of_getElem? (i := 155) (by decide +kernel), by decide +kernel⟩)⟩
theorem lfRX8_157 : Lf RX8 157 2 2 := ⟨by decide, by decide, Or.inr ⟨"UnsaidScales", (List.mem_of_getElem? (i := 177) (by decide +kernel))⟩⟩
theorem lfRX8_168 : Lf RX8 168 7 4 := ⟨by decide, by decide, Or.inl (List.mem_filter.mpr ⟨List.mem_of_getElem? (i := 127) (by decide +kernel), by decide +kernel⟩)⟩
theorem lfRX8_171 : Lf RX8 171 4 2 := ⟨by decide, by decide, Or.inl (List.mem_filter.mpr ⟨List.mem_of_getElem? (i := 157) (by decide +kernel), by decide +kernel⟩)⟩
theorem lfRX8_192 : Lf RX8 192 3 2 := ⟨by decide, by decide, Or.inr ⟨"UnsaidScales", (List.mem_of_getElem? (i := 228) (by decide +kernel))⟩⟩
theorem lfRX8_195 : Lf RX8 195 3 3 := ⟨by decide, by decide, Or.inr ⟨"UnsaidScales", (List.mem_of_getElem? (i := 230) (by decide +kernel))⟩⟩
theorem lfRX8_237 : Lf RX8 237 1 7 := ⟨by decide, by decide, Or.inr ⟨"UnsaidScales", (List.mem_of_getElem? (i := 260) (by decide +kernel))⟩⟩
theorem lfRX8_262 : Lf RX8 262 1 8 := ⟨by decide, by decide, Or.inr ⟨"UnsaidScales", (List.mem_of_getElem? (i := 262) (by decide +kernel))⟩⟩
theorem lfRX8_295 : Lf RX8 295 8 11 := ⟨by decide, by decide, Or.inl (List.mem_filter.mpr ⟨List.mem_of_getElem? (i := 351) (by decide +kernel), by decide +kernel⟩)⟩
theorem lfRX0_11 : Lf RX0 11 0 0 := ⟨by decide, by decide, Or.inl (List.mem_filter.mpr ⟨List.mem_of_getElem? (i := 212) (by decide +kernel), by decide +kernel⟩)⟩
theorem lfRX0_15 : Lf RX0 15 0 1 := ⟨by decide, by decide, Or.inl (List.mem_filter.mpr ⟨List.mem_of_getElem? (i := 213) (by decide +kernel), by decide +kernel⟩)⟩
theorem lfRX0_18 : Lf RX0 18 7 5 := ⟨by decide, by decide, Or.inl (List.mem_filter.mpr ⟨List.mem_of_getElem? (i := 128) (by decide +kernel), by decide +kernel⟩)⟩
theorem lfRX0_55 : Lf RX0 55 7 3 := ⟨by decide, by decide, Or.inl (List.mem_filter.mpr ⟨List.mem_of_getElem? (i := 124) (by decide +kernel), by decide +kernel⟩)⟩
theorem lfRX1_11 : Lf RX1 11 1 0 := ⟨by decide, by decide, Or.inl (List.mem_filter.mpr ⟨List.mem_of_getElem? (i := 252) (by decide +kernel), by decide +kernel⟩)⟩
theorem lfRX1_15 : Lf RX1 15 1 1 := ⟨by decide, by decide, Or.inl (List.mem_filter.mpr ⟨List.mem_of_getElem? (i := 253) (by decide +kernel), by decide +kernel⟩)⟩
theorem lfRX1_18 : Lf RX1 18 1 2 := ⟨by decide, by decide, Or.inl (List.mem_filter.mpr ⟨List.mem_of_getElem? (i := 254) (by decide +kernel), by decide +kernel⟩)⟩
theorem lfRX1_21 : Lf RX1 21 1 3 := ⟨by decide, by decide, Or.inl (List.mem_filter.mpr ⟨List.mem_of_getElem? (i := 255) (by decide +kernel), by decide +kernel⟩)⟩
theorem lfRX1_24 : Lf RX1 24 1 4 := ⟨by decide, by decide, Or.inl (List.mem_filter.mpr ⟨List.mem_of_getElem? (i := 256) (by decide +kernel), by decide +kernel⟩)⟩
theorem lfRX1_27 : Lf RX1 27 1 5 := ⟨by decide, by decide, Or.inl (List.mem_filter.mpr ⟨List.mem_of_getElem? (i := 257) (by decide +kernel), by decide +kernel⟩)⟩
theorem lfRX1_33 : Lf RX1 33 1 6 := ⟨by decide, by decide, Or.inl (List.mem_filter.mpr ⟨List.mem_of_getElem? (i := 258) (by decide +kernel), by decide +kernel⟩)⟩
theorem lfRX1_37 : Lf RX1 37 1 7 := ⟨by decide, by decide, Or.inl (List.mem_filter.mpr ⟨List.mem_of_getElem? (i := 259) (by decide +kernel), by decide +kernel⟩)⟩
theorem lfRX1_41 : Lf RX1 41 1 8 := ⟨by decide, by decide, Or.inl (List.mem_filter.mpr ⟨List.mem_of_getElem? (i := 261) (by decide +kernel), by decide +kernel⟩)⟩
theorem lfRX2_11 : Lf RX2 11 2 0 := ⟨by decide, by decide, Or.inl (List.mem_filter.mpr ⟨List.mem_of_getElem? (i := 174) (by decide +kernel), by decide +kernel⟩)⟩
theorem lfRX2_18 : Lf RX2 18 2 1 := ⟨by decide, by decide, Or.inl (List.mem_filter.mpr ⟨List.mem_of_getElem? (i := 175) (by decide +kernel), by decide +kernel⟩)⟩
theorem lfRX2_26 : Lf RX2 26 2 2 := ⟨by decide, by decide, Or.inl (List.mem_filter.mpr ⟨List.mem_of_getElem? (i := 176) (by decide +kernel), by decide +kernel⟩)⟩
theorem lfRX3_9 : Lf RX3 9 3 0 := ⟨by decide, by decide, Or.inl (List.mem_filter.mpr ⟨List.mem_of_getElem? (i := 225) (by decide +kernel), by decide +kernel⟩)⟩
theorem lfRX3_15 : Lf RX3 15 3 1 := ⟨by decide, by decide, Or.inl (List.mem_filter.mpr ⟨List.mem_of_getElem? (i := 226) (by decide +kernel), by decide +kernel⟩)⟩
theorem lfRX3_22 : Lf RX3 22 3 2 := ⟨by decide, by decide, Or.inl (List.mem_filter.mpr ⟨List.mem_of_getElem? (i := 227) (by decide +kernel), by decide +kernel⟩)⟩
theorem lfRX3_26 : Lf RX3 26 3 3 := ⟨by decide, by decide, Or.inl (List.mem_filter.mpr ⟨List.mem_of_getElem? (i := 229) (by decide +kernel), by decide +kernel⟩)⟩
theorem lfRX3_35 : Lf RX3 35 3 4 := ⟨by decide, by decide, Or.inl (List.mem_filter.mpr ⟨List.mem_of_getElem? (i := 231) (by decide +kernel), by decide +kernel⟩)⟩
theorem lfRX3_38 : Lf RX3 38 3 5 := ⟨by decide, by decide, Or.inl (List.mem_filter.mpr ⟨List.mem_of_getElem? (i := 232) (by decide +kernel), by decide +kernel⟩)⟩
theorem lfRX4_9 : Lf RX4 9 4 0 := ⟨by decide, by decide, Or.inl (List.mem_filter.mpr ⟨List.mem_of_getElem? (i := 152) (by decide +kernel), by decide +kernel⟩)⟩
theorem lfRX4_15 : Lf RX4 15 7 1 := ⟨by decide, by decide, Or.inl (List.mem_filter.mpr ⟨List.mem_of_getElem? (i := 116) (by decide +kernel), by decide +kernel⟩)⟩
theorem lfRX4_26 : Lf RX4 26 4 1 := ⟨by decide, by decide, Or.inl (List.mem_filter.mpr ⟨List.mem_of_getElem? (i := 154) (by decide +kernel), by decide +kernel⟩)⟩
theorem lfRX4_30 : Lf RX4 30 4 2 := ⟨by decide, by decide, Or.inl (List.mem_filter.mpr ⟨List.mem_of_getElem? (i := 156) (by decide +kernel), by decide +kernel⟩)⟩
theorem lfRX5_9 : Lf RX5 9 5 0 := ⟨by decide, by decide, Or.inl (List.mem_filter.mpr ⟨List.mem_of_getElem? (i := 191) (by decide +kernel), by decide +kernel⟩)⟩
theorem lfRX5_15 : Lf RX5 15 5 1 := ⟨by decide, by decide, Or.inl (List.mem_filter.mpr ⟨List.mem_of_getElem? (i := 192) (by decide +kernel), by decide +kernel⟩)⟩
theorem lfRX5_19 : Lf RX5 19 5 2 := ⟨by decide, by decide, Or.inl (List.mem_filter.mpr ⟨List.mem_of_getElem? (i := 193) (by decide +kernel), by decide +kernel⟩)⟩
theorem lfRX5_23 : Lf RX5 23 5 3 := ⟨by decide, by decide, Or.inl (List.mem_filter.mpr ⟨List.mem_of_getElem? (i := 194) (by decide +kernel), by decide +kernel⟩)⟩
theorem lfRX6_9 : Lf RX6 9 6 0 := ⟨by decide, by decide, Or.inl (List.mem_filter.mpr ⟨List.mem_of_getElem? (i := 90) (by decide +kernel), by decide +kernel⟩)⟩
theorem lfRX6_15 : Lf RX6 15 6 3 := ⟨by decide, by decide, Or.inl (List.mem_filter.mpr ⟨List.mem_of_getElem? (i := 94) (by decide +kernel), by decide +kernel⟩)⟩
theorem lfRX6_19 : Lf RX6 19 6 1 := ⟨by decide, by decide, Or.inl (List.mem_filter.mpr ⟨List.mem_of_getElem? (i := 91) (by decide +kernel), by decide +kernel⟩)⟩
theorem lfRX6_27 : Lf RX6 27 6 2 := ⟨by decide, by decide, Or.inl (List.mem_filter.mpr ⟨List.mem_of_getElem? (i := 93) (by decide +kernel), by decide +kernel⟩)⟩
theorem lfRX6_41 : Lf RX6 41 7 4 := ⟨by decide, by decide, Or.inl (List.mem_filter.mpr ⟨List.mem_of_getElem? (i := 126) (by decide +kernel), by decide +kernel⟩)⟩
theorem lfRX6_44 : Lf RX6 44 7 5 := ⟨by decide, by decide, Or.inl (List.mem_filter.mpr ⟨List.mem_of_getElem? (i := 130) (by decide +kernel), by decide +kernel⟩)⟩
theorem lfRX6_66 : Lf RX6 66 7 0 := ⟨by decide, by decide, Or.inl (List.mem_filter.mpr ⟨List.mem_of_getElem? (i := 113) (by decide +kernel), by decide +kernel⟩)⟩
theorem lfRX6_70 : Lf RX6 70 7 1 := ⟨by decide, by decide, Or.inl (List.mem_filter.mpr ⟨List.mem_of_getElem? (i := 117) (by decide +kernel), by decide +kernel⟩)⟩
theorem lfRX6_73 : Lf RX6 73 7 2 := ⟨by decide, by decide, Or.inl (List.mem_filter.mpr ⟨List.mem_of_getElem? (i := 120) (by decide +kernel), by decide +kernel⟩)⟩
theorem lfRX6_76 : Lf RX6 76 7 3 := ⟨by decide, by decide, Or.inl (List.mem_filter.mpr ⟨List.mem_of_getElem? (i := 123) (by decide +kernel), by decide +kernel⟩)⟩
theorem lfRX7_9 : Lf RX7 9 7 0 := ⟨by decide, by decide, Or.inl (List.mem_filter.mpr ⟨List.mem_of_getElem? (i := 112) (by decide +kernel), by decide +kernel⟩)⟩
theorem lfRX7_15 : Lf RX7 15 7 1 := ⟨by decide, by decide, Or.inl (List.mem_filter.mpr ⟨List.mem_of_getElem? (i := 115) (by decide +kernel), by decide +kernel⟩)⟩
theorem lfRX7_18 : Lf RX7 18 7 2 := ⟨by decide, by decide, Or.inl (List.mem_filter.mpr ⟨List.mem_of_getElem? (i := 118) (by decide +kernel), by decide +kernel⟩)⟩
theorem lfRX7_21 : Lf RX7 21 7 3 := ⟨by decide, by decide, Or.inl (List.mem_filter.mpr ⟨List.mem_of_getElem? (i := 121) (by decide +kernel), by decide +kernel⟩)⟩
theorem lfRX7_39 : Lf RX7 39 7 4 := ⟨by decide, by decide, Or.inl (List.mem_filter.mpr ⟨List.mem_of_getElem? (i := 125) (by decide +kernel), by decide +kernel⟩)⟩
theorem lfRX7_43 : Lf RX7 43 7 5 := ⟨by decide, by decide, Or.inl (List.mem_filter.mpr ⟨List.mem_of_getElem? (i := 129) (by decide +kernel), by decide +kernel⟩)⟩
theorem lfRX9_7 : Lf RX9 7 9 2 := ⟨by decide, by decide, Or.inl (List.mem_filter.mpr ⟨List.mem_of_getElem? (i := 846) (by decide +kernel), by decide +kernel⟩)⟩
theorem lfRX9_13 : Lf RX9 13 9 9 := ⟨by decide, by decide, Or.inl (List.mem_filter.mpr ⟨List.mem_of_getElem? (i := 853) (by decide +kernel), by decide +kernel⟩)⟩
theorem lfRX9_16 : Lf RX9 16 9 10 := ⟨by decide, by decide, Or.inl (List.mem_filter.mpr ⟨List.mem_of_getElem? (i := 854) (by decide +kernel), by decide +kernel⟩)⟩
theorem lfRX9_19 : Lf RX9 19 9 11 := ⟨by decide, by decide, Or.inl (List.mem_filter.mpr ⟨List.mem_of_getElem? (i := 855) (by decide +kernel), by decide +kernel⟩)⟩
theorem lfRX9_22 : Lf RX9 22 9 12 := ⟨by decide, by decide, Or.inl (List.mem_filter.mpr ⟨List.mem_of_getElem? (i := 856) (by decide +kernel), by decide +kernel⟩)⟩
theorem lfRX9_25 : Lf RX9 25 9 13 := ⟨by decide, by decide, Or.inl (List.mem_filter.mpr ⟨List.mem_of_getElem? (i := 857) (by decide +kernel), by decide +kernel⟩)⟩
theorem lfRX9_28 : Lf RX9 28 9 14 := ⟨by decide, by decide, Or.inl (List.mem_filter.mpr ⟨List.mem_of_getElem? (i := 858) (by decide +kernel), by decide +kernel⟩)⟩
theorem lfRX9_31 : Lf RX9 31 9 15 := ⟨by decide, by decide, Or.inl (List.mem_filter.mpr ⟨List.mem_of_getElem? (i := 859) (by decide +kernel), by decide +kernel⟩)⟩
theorem lfRX9_34 : Lf RX9 34 9 16 := ⟨by decide, by decide, Or.inl (List.mem_filter.mpr ⟨List.mem_of_getElem? (i := 860) (by decide +kernel), by decide +kernel⟩)⟩
theorem lfRX9_38 : Lf RX9 38 9 17 := ⟨by decide, by decide, Or.inl (List.mem_filter.mpr ⟨List.mem_of_getElem? (i := 861) (by decide +kernel), by decide +kernel⟩)⟩
theorem lfRX9_41 : Lf RX9 41 9 19 := ⟨by decide, by decide, Or.inl (List.mem_filter.mpr ⟨List.mem_of_getElem? (i := 863) (by decide +kernel), by decide +kernel⟩)⟩
theorem lfRX9_44 : Lf RX9 44 9 20 := ⟨by decide, by decide, Or.inl (List.mem_filter.mpr ⟨List.mem_of_getElem? (i := 864) (by decide +kernel), by decide +kernel⟩)⟩
theorem lfRX9_47 : Lf RX9 47 9 21 := ⟨by decide, by decide, Or.inl (List.mem_filter.mpr ⟨List.mem_of_getElem? (i := 865) (by decide +kernel), by decide +kernel⟩)⟩
theorem lfRX9_50 : Lf RX9 50 9 23 := ⟨by decide, by decide, Or.inl (List.mem_filter.mpr ⟨List.mem_of_getElem? (i := 867) (by decide +kernel), by decide +kernel⟩)⟩
theorem lfRX9_53 : Lf RX9 53 9 24 := ⟨by decide, by decide, Or.inl (List.mem_filter.mpr ⟨List.mem_of_getElem? (i := 868) (by decide +kernel), by decide +kernel⟩)⟩
theorem lfRX9_56 : Lf RX9 56 9 26 := ⟨by decide, by decide, Or.inl (List.mem_filter.mpr ⟨List.mem_of_getElem? (i := 870) (by decide +kernel), by decide +kernel⟩)⟩
theorem lfRX9_59 : Lf RX9 59 9 28 := ⟨by decide, by decide, Or.inl (List.mem_filter.mpr ⟨List.mem_of_getElem? (i := 872) (by decide +kernel), by decide +kernel⟩)⟩
theorem lfRX9_62 : Lf RX9 62 9 29 := ⟨by decide, by decide, Or.inl (List.mem_filter.mpr ⟨List.mem_of_getElem? (i := 873) (by decide +kernel), by decide +kernel⟩)⟩
theorem lfRX9_65 : Lf RX9 65 9 30 := ⟨by decide, by decide, Or.inl (List.mem_filter.mpr ⟨List.mem_of_getElem? (i := 874) (by decide +kernel), by decide +kernel⟩)⟩
theorem lfRX9_68 : Lf RX9 68 9 31 := ⟨by decide, by decide, Or.inl (List.mem_filter.mpr ⟨List.mem_of_getElem? (i := 875) (by decide +kernel), by decide +kernel⟩)⟩
theorem lfRX9_77 : Lf RX9 77 9 0 := ⟨by decide, by decide, Or.inl (List.mem_filter.mpr ⟨List.mem_of_getElem? (i := 844) (by decide +kernel), by decide +kernel⟩)⟩
theorem lfRX9_85 : Lf RX9 85 9 3 := ⟨by decide, by decide, Or.inl (List.mem_filter.mpr ⟨List.mem_of_getElem? (i := 847) (by decide +kernel), by decide +kernel⟩)⟩
theorem lfRX9_88 : Lf RX9 88 9 4 := ⟨by decide, by decide, Or.inl (List.mem_filter.mpr ⟨List.mem_of_getElem? (i := 848) (by decide +kernel), by decide +kernel⟩)⟩
theorem lfRX9_95 : Lf RX9 95 9 6 := ⟨by decide, by decide, Or.inl (List.mem_filter.mpr ⟨List.mem_of_getElem? (i := 850) (by decide +kernel), by decide +kernel⟩)⟩
theorem lfRX9_98 : Lf RX9 98 9 5 := ⟨by decide, by decide, Or.inl (List.mem_filter.mpr ⟨List.mem_of_getElem? (i := 849) (by decide +kernel), by decide +kernel⟩)⟩
theorem lfRX9_101 : Lf RX9 101 9 7 := ⟨by decide, by decide, Or.inl (List.mem_filter.mpr ⟨List.mem_of_getElem? (i := 851) (by decide +kernel), by decide +kernel⟩)⟩
theorem lfRX9_104 : Lf RX9 104 9 8 := ⟨by decide, by decide, Or.inl (List.mem_filter.mpr ⟨List.mem_of_getElem? (i := 852) (by decide +kernel), by decide +kernel⟩)⟩
theorem lfRX9_129 : Lf RX9 129 9 22 := ⟨by decide, by decide, Or.inl (List.mem_filter.mpr ⟨List.mem_of_getElem? (i := 866) (by decide +kernel), by decide +kernel⟩)⟩
theorem lfRX9_132 : Lf RX9 132 9 25 := ⟨by decide, by decide, Or.inl (List.mem_filter.mpr ⟨List.mem_of_getElem? (i := 869) (by decide +kernel), by decide +kernel⟩)⟩
theorem lfRX9_135 : Lf RX9 135 9 18 := ⟨by decide, by decide, Or.inl (List.mem_filter.mpr ⟨List.mem_of_getElem? (i := 862) (by decide +kernel), by decide +kernel⟩)⟩
theorem lfRX9_166 : Lf RX9 166 9 27 := ⟨by decide, by decide, Or.inl (List.mem_filter.mpr ⟨List.mem_of_getElem? (i := 871) (by decide +kernel), by decide +kernel⟩)⟩
theorem lfRX9_228 : Lf RX9 228 9 32 := ⟨by decide, by decide, Or.inl (List.mem_filter.mpr ⟨List.mem_of_getElem? (i := 876) (by decide +kernel), by decide +kernel⟩)⟩
theorem lfRX9_231 : Lf RX9 231 9 33 := ⟨by decide, by decide, Or.inl (List.mem_filter.mpr ⟨List.mem_of_getElem? (i := 877) (by decide +kernel), by decide +kernel⟩)⟩
theorem lfRX9_240 : Lf RX9 240 9 1 := ⟨by decide, by decide, Or.inl (List.mem_filter.mpr ⟨List.mem_of_getElem? (i := 845) (by decide +kernel), by decide +kernel⟩)⟩
theorem ctRX8_187 : Cond.constant RX8 187 (-1000000) ∈ gtb := (List.mem_filter.mpr ⟨List.mem_of_getElem? (i := 615) (by decide +kernel), by decide +kernel⟩)
theorem ctRX8_208 : Cond.constantLong RX8 208 (-1) ∈ gtb := (List.mem_filter.mpr ⟨List.mem_of_getElem? (i := 655) (by decide +kernel), by decide +kernel⟩)
theorem ctRX8_331 : Cond.constantLong RX8 331 10 ∈ gtb := (List.mem_filter.mpr ⟨List.mem_of_getElem? (i := 766) (by decide +kernel), by decide +kernel⟩)
theorem ctRX8_337 : Cond.constantLong RX8 337 100 ∈ gtb := (List.mem_filter.mpr ⟨List.mem_of_getElem? (i := 774) (by decide +kernel), by decide +kernel⟩)
theorem ctRX8_339 : Cond.constantLong RX8 339 1000 ∈ gtb := (List.mem_filter.mpr ⟨List.mem_of_getElem? (i := 779) (by decide +kernel), by decide +kernel⟩)
theorem ctRX8_341 : Cond.constantLong RX8 341 10000 ∈ gtb := (List.mem_filter.mpr ⟨List.mem_of_getElem? (i := 784) (by decide +kernel), by decide +kernel⟩)
theorem ctRX8_343 : Cond.constantLong RX8 343 100000 ∈ gtb := (List.mem_filter.mpr ⟨List.mem_of_getElem? (i := 789) (by decide +kernel), by decide +kernel⟩)
theorem ctRX9_175 : Cond.constant RX9 175 1000000 ∈ gtb := (List.mem_filter.mpr ⟨List.mem_of_getElem? (i := 839) (by decide +kernel), by decide +kernel⟩)
theorem ctRX9_202 : Cond.constant RX9 202 (-1000000) ∈ gtb := (List.mem_filter.mpr ⟨List.mem_of_getElem? (i := 1091) (by decide +kernel), by decide +kernel⟩)
theorem ctRX9_220 : Cond.constantLong RX9 220 (-1) ∈ gtb := (List.mem_filter.mpr ⟨List.mem_of_getElem? (i := 1124) (by decide +kernel), by decide +kernel⟩)
theorem ctRX9_222 : Cond.constantLong RX9 222 10 ∈ gtb := (List.mem_filter.mpr ⟨List.mem_of_getElem? (i := 1125) (by decide +kernel), by decide +kernel⟩)
theorem ctRX9_244 : Cond.constantLong RX9 244 11 ∈ gtb := (List.mem_filter.mpr ⟨List.mem_of_getElem? (i := 1165) (by decide +kernel), by decide +kernel⟩)
theorem ctRX9_246 : Cond.constantLong RX9 246 101 ∈ gtb := (List.mem_filter.mpr ⟨List.mem_of_getElem? (i := 1166) (by decide +kernel), by decide +kernel⟩)
theorem ctRX9_248 : Cond.constantLong RX9 248 1011 ∈ gtb := (List.mem_filter.mpr ⟨List.mem_of_getElem? (i := 1167) (by decide +kernel), by decide +kernel⟩)
theorem ctRX9_250 : Cond.constantLong RX9 250 10101 ∈ gtb := (List.mem_filter.mpr ⟨List.mem_of_getElem? (i := 1168) (by decide +kernel), by decide +kernel⟩)
theorem ctRX9_252 : Cond.constantLong RX9 252 100001 ∈ gtb := (List.mem_filter.mpr ⟨List.mem_of_getElem? (i := 1169) (by decide +kernel), by decide +kernel⟩)
theorem ctRJ6_265 : Cond.constant RJ6 265 1431655765 ∈ gtb := (List.mem_filter.mpr ⟨List.mem_of_getElem? (i := 325) (by decide +kernel), by decide +kernel⟩)
theorem ctRJ6_266 : Cond.constant RJ6 266 858993459 ∈ gtb := (List.mem_filter.mpr ⟨List.mem_of_getElem? (i := 326) (by decide +kernel), by decide +kernel⟩)
theorem ctRJ6_267 : Cond.constant RJ6 267 252645135 ∈ gtb := (List.mem_filter.mpr ⟨List.mem_of_getElem? (i := 327) (by decide +kernel), by decide +kernel⟩)
theorem lcRX4_20 : LkC RX4 20 := ⟨(List.mem_filter.mpr ⟨List.mem_of_getElem? (i := 302) (by decide +kernel), by decide +kernel⟩), (List.mem_filter.mpr ⟨List.mem_of_getElem? (i := 290) (by decide +kernel), by decide +kernel⟩), (List.mem_filter.mpr ⟨List.mem_of_getElem? (i := 289) (by decide +kernel), by decide +kernel⟩), (List.mem_filter.mpr ⟨List.mem_of_getElem? (i := 71) (by decide +kernel), by decide +kernel⟩)⟩
theorem lcRX7_27 : LkC RX7 27 := ⟨(List.mem_filter.mpr ⟨List.mem_of_getElem? (i := 288) (by decide +kernel), by decide +kernel⟩), (List.mem_filter.mpr ⟨List.mem_of_getElem? (i := 290) (by decide +kernel), by decide +kernel⟩), (List.mem_filter.mpr ⟨List.mem_of_getElem? (i := 289) (by decide +kernel), by decide +kernel⟩), (List.mem_filter.mpr ⟨List.mem_of_getElem? (i := 71) (by decide +kernel), by decide +kernel⟩)⟩
theorem gsRX7_24 : Cond.fieldLinkNest RX7 24 RX8 "FIRST_WEIGHTS" "[I" "UnsaidScales" ∈ lw_tbl := (List.mem_of_getElem? (i := 286) (by decide +kernel))
theorem lb_X8_beginAnew : LkB mX8_beginAnew 0 := ⟨(List.mem_filter.mpr ⟨List.mem_of_getElem? (i := 62) (by decide +kernel), by decide +kernel⟩), (List.mem_filter.mpr ⟨List.mem_of_getElem? (i := 297) (by decide +kernel), by decide +kernel⟩), by decide, by decide, by decide +kernel⟩
theorem lkRX8_79 : LkV RX8 79 mX8_beginAnew 0 := ⟨lb_X8_beginAnew, Or.inl (List.mem_filter.mpr ⟨List.mem_of_getElem? (i := 294) (by decide +kernel), by decide +kernel⟩), (List.mem_filter.mpr ⟨List.mem_of_getElem? (i := 296) (by decide +kernel), by decide +kernel⟩), (List.mem_filter.mpr ⟨List.mem_of_getElem? (i := 0) (by decide +kernel), by decide +kernel⟩)⟩
theorem lb_X8_within : LkB mX8_within 3 := ⟨(List.mem_filter.mpr ⟨List.mem_of_getElem? (i := 62) (by decide +kernel), by decide +kernel⟩), (List.mem_filter.mpr ⟨List.mem_of_getElem? (i := 317) (by decide +kernel), by decide +kernel⟩), by decide, by decide, by decide +kernel⟩
theorem lkRX8_82 : LkS RX8 82 mX8_within 3 := ⟨lb_X8_within, Or.inl (List.mem_filter.mpr ⟨List.mem_of_getElem? (i := 381) (by decide +kernel), by decide +kernel⟩), (List.mem_filter.mpr ⟨List.mem_of_getElem? (i := 316) (by decide +kernel), by decide +kernel⟩)⟩
theorem lb_X6_append : LkB mX6_append 1 := ⟨(List.mem_filter.mpr ⟨List.mem_of_getElem? (i := 63) (by decide +kernel), by decide +kernel⟩), (List.mem_filter.mpr ⟨List.mem_of_getElem? (i := 385) (by decide +kernel), by decide +kernel⟩), by decide, by decide, by decide +kernel⟩
theorem lkRX8_86 : LkV RX8 86 mX6_append 1 := ⟨lb_X6_append, Or.inl (List.mem_filter.mpr ⟨List.mem_of_getElem? (i := 382) (by decide +kernel), by decide +kernel⟩), (List.mem_filter.mpr ⟨List.mem_of_getElem? (i := 383) (by decide +kernel), by decide +kernel⟩), (List.mem_filter.mpr ⟨List.mem_of_getElem? (i := 384) (by decide +kernel), by decide +kernel⟩)⟩
theorem lb_X6_readInto : LkB mX6_readInto 1 := ⟨(List.mem_filter.mpr ⟨List.mem_of_getElem? (i := 63) (by decide +kernel), by decide +kernel⟩), (List.mem_filter.mpr ⟨List.mem_of_getElem? (i := 397) (by decide +kernel), by decide +kernel⟩), by decide, by decide, by decide +kernel⟩
theorem lkRX8_94 : LkV RX8 94 mX6_readInto 1 := ⟨lb_X6_readInto, Or.inl (List.mem_filter.mpr ⟨List.mem_of_getElem? (i := 394) (by decide +kernel), by decide +kernel⟩), (List.mem_filter.mpr ⟨List.mem_of_getElem? (i := 395) (by decide +kernel), by decide +kernel⟩), (List.mem_filter.mpr ⟨List.mem_of_getElem? (i := 396) (by decide +kernel), by decide +kernel⟩)⟩
theorem lb_X6_hasFault : LkB mX6_hasFault 0 := ⟨(List.mem_filter.mpr ⟨List.mem_of_getElem? (i := 63) (by decide +kernel), by decide +kernel⟩), (List.mem_filter.mpr ⟨List.mem_of_getElem? (i := 406) (by decide +kernel), by decide +kernel⟩), by decide, by decide, by decide +kernel⟩
theorem lkRX8_98 : LkV RX8 98 mX6_hasFault 0 := ⟨lb_X6_hasFault, Or.inl (List.mem_filter.mpr ⟨List.mem_of_getElem? (i := 439) (by decide +kernel), by decide +kernel⟩), (List.mem_filter.mpr ⟨List.mem_of_getElem? (i := 404) (by decide +kernel), by decide +kernel⟩), (List.mem_filter.mpr ⟨List.mem_of_getElem? (i := 405) (by decide +kernel), by decide +kernel⟩)⟩
theorem lb_X7_copyFrom : LkB mX7_copyFrom 1 := ⟨(List.mem_filter.mpr ⟨List.mem_of_getElem? (i := 64) (by decide +kernel), by decide +kernel⟩), (List.mem_filter.mpr ⟨List.mem_of_getElem? (i := 443) (by decide +kernel), by decide +kernel⟩), by decide, by decide, by decide +kernel⟩
theorem lkRX8_105 : LkV RX8 105 mX7_copyFrom 1 := ⟨lb_X7_copyFrom, Or.inl (List.mem_filter.mpr ⟨List.mem_of_getElem? (i := 440) (by decide +kernel), by decide +kernel⟩), (List.mem_filter.mpr ⟨List.mem_of_getElem? (i := 441) (by decide +kernel), by decide +kernel⟩), (List.mem_filter.mpr ⟨List.mem_of_getElem? (i := 442) (by decide +kernel), by decide +kernel⟩)⟩
theorem lb_X8_isPerson : LkB mX8_isPerson 1 := ⟨(List.mem_filter.mpr ⟨List.mem_of_getElem? (i := 62) (by decide +kernel), by decide +kernel⟩), (List.mem_filter.mpr ⟨List.mem_of_getElem? (i := 451) (by decide +kernel), by decide +kernel⟩), by decide, by decide, by decide +kernel⟩
theorem lkRX8_109 : LkV RX8 109 mX8_isPerson 1 := ⟨lb_X8_isPerson, Or.inl (List.mem_filter.mpr ⟨List.mem_of_getElem? (i := 448) (by decide +kernel), by decide +kernel⟩), (List.mem_filter.mpr ⟨List.mem_of_getElem? (i := 450) (by decide +kernel), by decide +kernel⟩), (List.mem_filter.mpr ⟨List.mem_of_getElem? (i := 10) (by decide +kernel), by decide +kernel⟩)⟩
theorem lb_X8_isSort : LkB mX8_isSort 1 := ⟨(List.mem_filter.mpr ⟨List.mem_of_getElem? (i := 62) (by decide +kernel), by decide +kernel⟩), (List.mem_filter.mpr ⟨List.mem_of_getElem? (i := 454) (by decide +kernel), by decide +kernel⟩), by decide, by decide, by decide +kernel⟩
theorem lkRX8_113 : LkS RX8 113 mX8_isSort 1 := ⟨lb_X8_isSort, Or.inl (List.mem_filter.mpr ⟨List.mem_of_getElem? (i := 452) (by decide +kernel), by decide +kernel⟩), (List.mem_filter.mpr ⟨List.mem_of_getElem? (i := 453) (by decide +kernel), by decide +kernel⟩)⟩
theorem lb_X8_heavinessOf : LkB mX8_heavinessOf 1 := ⟨(List.mem_filter.mpr ⟨List.mem_of_getElem? (i := 62) (by decide +kernel), by decide +kernel⟩), (List.mem_filter.mpr ⟨List.mem_of_getElem? (i := 470) (by decide +kernel), by decide +kernel⟩), by decide, by decide, by decide +kernel⟩
theorem lkRX8_132 : LkV RX8 132 mX8_heavinessOf 1 := ⟨lb_X8_heavinessOf, Or.inl (List.mem_filter.mpr ⟨List.mem_of_getElem? (i := 467) (by decide +kernel), by decide +kernel⟩), (List.mem_filter.mpr ⟨List.mem_of_getElem? (i := 469) (by decide +kernel), by decide +kernel⟩), (List.mem_filter.mpr ⟨List.mem_of_getElem? (i := 11) (by decide +kernel), by decide +kernel⟩)⟩
theorem lb_X8_isPair : LkB mX8_isPair 2 := ⟨(List.mem_filter.mpr ⟨List.mem_of_getElem? (i := 62) (by decide +kernel), by decide +kernel⟩), (List.mem_filter.mpr ⟨List.mem_of_getElem? (i := 485) (by decide +kernel), by decide +kernel⟩), by decide, by decide, by decide +kernel⟩
theorem lkRX8_136 : LkV RX8 136 mX8_isPair 2 := ⟨lb_X8_isPair, Or.inl (List.mem_filter.mpr ⟨List.mem_of_getElem? (i := 482) (by decide +kernel), by decide +kernel⟩), (List.mem_filter.mpr ⟨List.mem_of_getElem? (i := 484) (by decide +kernel), by decide +kernel⟩), (List.mem_filter.mpr ⟨List.mem_of_getElem? (i := 13) (by decide +kernel), by decide +kernel⟩)⟩
theorem lb_X8_knownOf : LkB mX8_knownOf 2 := ⟨(List.mem_filter.mpr ⟨List.mem_of_getElem? (i := 62) (by decide +kernel), by decide +kernel⟩), (List.mem_filter.mpr ⟨List.mem_of_getElem? (i := 489) (by decide +kernel), by decide +kernel⟩), by decide, by decide, by decide +kernel⟩
theorem lkRX8_140 : LkV RX8 140 mX8_knownOf 2 := ⟨lb_X8_knownOf, Or.inl (List.mem_filter.mpr ⟨List.mem_of_getElem? (i := 486) (by decide +kernel), by decide +kernel⟩), (List.mem_filter.mpr ⟨List.mem_of_getElem? (i := 488) (by decide +kernel), by decide +kernel⟩), (List.mem_filter.mpr ⟨List.mem_of_getElem? (i := 14) (by decide +kernel), by decide +kernel⟩)⟩
theorem lb_X8_knownPairs : LkB mX8_knownPairs 0 := ⟨(List.mem_filter.mpr ⟨List.mem_of_getElem? (i := 62) (by decide +kernel), by decide +kernel⟩), (List.mem_filter.mpr ⟨List.mem_of_getElem? (i := 506) (by decide +kernel), by decide +kernel⟩), by decide, by decide, by decide +kernel⟩
theorem lkRX8_147 : LkV RX8 147 mX8_knownPairs 0 := ⟨lb_X8_knownPairs, Or.inl (List.mem_filter.mpr ⟨List.mem_of_getElem? (i := 503) (by decide +kernel), by decide +kernel⟩), (List.mem_filter.mpr ⟨List.mem_of_getElem? (i := 505) (by decide +kernel), by decide +kernel⟩), (List.mem_filter.mpr ⟨List.mem_of_getElem? (i := 15) (by decide +kernel), by decide +kernel⟩)⟩
theorem lb_X8_planned : LkB mX8_planned 1 := ⟨(List.mem_filter.mpr ⟨List.mem_of_getElem? (i := 62) (by decide +kernel), by decide +kernel⟩), (List.mem_filter.mpr ⟨List.mem_of_getElem? (i := 510) (by decide +kernel), by decide +kernel⟩), by decide, by decide, by decide +kernel⟩
theorem lkRX8_151 : LkV RX8 151 mX8_planned 1 := ⟨lb_X8_planned, Or.inl (List.mem_filter.mpr ⟨List.mem_of_getElem? (i := 507) (by decide +kernel), by decide +kernel⟩), (List.mem_filter.mpr ⟨List.mem_of_getElem? (i := 509) (by decide +kernel), by decide +kernel⟩), (List.mem_filter.mpr ⟨List.mem_of_getElem? (i := 16) (by decide +kernel), by decide +kernel⟩)⟩
theorem lb_X0_range : LkB mX0_range 0 := ⟨(List.mem_filter.mpr ⟨List.mem_of_getElem? (i := 68) (by decide +kernel), by decide +kernel⟩), (List.mem_filter.mpr ⟨List.mem_of_getElem? (i := 563) (by decide +kernel), by decide +kernel⟩), by decide, by decide, by decide +kernel⟩
theorem lkRX8_154 : LkV RX8 154 mX0_range 0 := ⟨lb_X0_range, Or.inl (List.mem_filter.mpr ⟨List.mem_of_getElem? (i := 560) (by decide +kernel), by decide +kernel⟩), (List.mem_filter.mpr ⟨List.mem_of_getElem? (i := 561) (by decide +kernel), by decide +kernel⟩), (List.mem_filter.mpr ⟨List.mem_of_getElem? (i := 562) (by decide +kernel), by decide +kernel⟩)⟩
theorem lb_X2_push : LkB mX2_push 1 := ⟨(List.mem_filter.mpr ⟨List.mem_of_getElem? (i := 66) (by decide +kernel), by decide +kernel⟩), (List.mem_filter.mpr ⟨List.mem_of_getElem? (i := 571) (by decide +kernel), by decide +kernel⟩), by decide, by decide, by decide +kernel⟩
theorem lkRX8_160 : LkV RX8 160 mX2_push 1 := ⟨lb_X2_push, Or.inl (List.mem_filter.mpr ⟨List.mem_of_getElem? (i := 568) (by decide +kernel), by decide +kernel⟩), (List.mem_filter.mpr ⟨List.mem_of_getElem? (i := 569) (by decide +kernel), by decide +kernel⟩), (List.mem_filter.mpr ⟨List.mem_of_getElem? (i := 570) (by decide +kernel), by decide +kernel⟩)⟩
theorem lb_X4_add : LkB mX4_add 2 := ⟨(List.mem_filter.mpr ⟨List.mem_of_getElem? (i := 65) (by decide +kernel), by decide +kernel⟩), (List.mem_filter.mpr ⟨List.mem_of_getElem? (i := 580) (by decide +kernel), by decide +kernel⟩), by decide, by decide, by decide +kernel⟩
theorem lkRX8_164 : LkV RX8 164 mX4_add 2 := ⟨lb_X4_add, Or.inl (List.mem_filter.mpr ⟨List.mem_of_getElem? (i := 577) (by decide +kernel), by decide +kernel⟩), (List.mem_filter.mpr ⟨List.mem_of_getElem? (i := 578) (by decide +kernel), by decide +kernel⟩), (List.mem_filter.mpr ⟨List.mem_of_getElem? (i := 579) (by decide +kernel), by decide +kernel⟩)⟩
theorem lb_X8_pairOf : LkB mX8_pairOf 2 := ⟨(List.mem_filter.mpr ⟨List.mem_of_getElem? (i := 62) (by decide +kernel), by decide +kernel⟩), (List.mem_filter.mpr ⟨List.mem_of_getElem? (i := 492) (by decide +kernel), by decide +kernel⟩), by decide, by decide, by decide +kernel⟩
theorem lkRX8_174 : LkS RX8 174 mX8_pairOf 2 := ⟨lb_X8_pairOf, Or.inl (List.mem_filter.mpr ⟨List.mem_of_getElem? (i := 490) (by decide +kernel), by decide +kernel⟩), (List.mem_filter.mpr ⟨List.mem_of_getElem? (i := 491) (by decide +kernel), by decide +kernel⟩)⟩
theorem lb_X8_compareLower : LkB mX8_compareLower 2 := ⟨(List.mem_filter.mpr ⟨List.mem_of_getElem? (i := 62) (by decide +kernel), by decide +kernel⟩), (List.mem_filter.mpr ⟨List.mem_of_getElem? (i := 597) (by decide +kernel), by decide +kernel⟩), by decide, by decide, by decide +kernel⟩
theorem lkRX8_177 : LkV RX8 177 mX8_compareLower 2 := ⟨lb_X8_compareLower, Or.inl (List.mem_filter.mpr ⟨List.mem_of_getElem? (i := 594) (by decide +kernel), by decide +kernel⟩), (List.mem_filter.mpr ⟨List.mem_of_getElem? (i := 596) (by decide +kernel), by decide +kernel⟩), (List.mem_filter.mpr ⟨List.mem_of_getElem? (i := 22) (by decide +kernel), by decide +kernel⟩)⟩
theorem lb_X8_withFound : LkB mX8_withFound 3 := ⟨(List.mem_filter.mpr ⟨List.mem_of_getElem? (i := 62) (by decide +kernel), by decide +kernel⟩), (List.mem_filter.mpr ⟨List.mem_of_getElem? (i := 522) (by decide +kernel), by decide +kernel⟩), by decide, by decide, by decide +kernel⟩
theorem lkRX8_180 : LkS RX8 180 mX8_withFound 3 := ⟨lb_X8_withFound, Or.inl (List.mem_filter.mpr ⟨List.mem_of_getElem? (i := 598) (by decide +kernel), by decide +kernel⟩), (List.mem_filter.mpr ⟨List.mem_of_getElem? (i := 521) (by decide +kernel), by decide +kernel⟩)⟩
theorem lb_X2_popInto : LkB mX2_popInto 1 := ⟨(List.mem_filter.mpr ⟨List.mem_of_getElem? (i := 66) (by decide +kernel), by decide +kernel⟩), (List.mem_filter.mpr ⟨List.mem_of_getElem? (i := 610) (by decide +kernel), by decide +kernel⟩), by decide, by decide, by decide +kernel⟩
theorem lkRX8_184 : LkV RX8 184 mX2_popInto 1 := ⟨lb_X2_popInto, Or.inl (List.mem_filter.mpr ⟨List.mem_of_getElem? (i := 607) (by decide +kernel), by decide +kernel⟩), (List.mem_filter.mpr ⟨List.mem_of_getElem? (i := 608) (by decide +kernel), by decide +kernel⟩), (List.mem_filter.mpr ⟨List.mem_of_getElem? (i := 609) (by decide +kernel), by decide +kernel⟩)⟩
theorem lb_X3_find : LkB mX3_find 4 := ⟨(List.mem_filter.mpr ⟨List.mem_of_getElem? (i := 69) (by decide +kernel), by decide +kernel⟩), (List.mem_filter.mpr ⟨List.mem_of_getElem? (i := 623) (by decide +kernel), by decide +kernel⟩), by decide, by decide, by decide +kernel⟩
theorem lkRX8_188 : LkV RX8 188 mX3_find 4 := ⟨lb_X3_find, Or.inl (List.mem_filter.mpr ⟨List.mem_of_getElem? (i := 620) (by decide +kernel), by decide +kernel⟩), (List.mem_filter.mpr ⟨List.mem_of_getElem? (i := 621) (by decide +kernel), by decide +kernel⟩), (List.mem_filter.mpr ⟨List.mem_of_getElem? (i := 622) (by decide +kernel), by decide +kernel⟩)⟩
theorem lb_X3_firstSays : LkB mX3_firstSays 4 := ⟨(List.mem_filter.mpr ⟨List.mem_of_getElem? (i := 69) (by decide +kernel), by decide +kernel⟩), (List.mem_filter.mpr ⟨List.mem_of_getElem? (i := 635) (by decide +kernel), by decide +kernel⟩), by decide, by decide, by decide +kernel⟩
theorem lkRX8_198 : LkV RX8 198 mX3_firstSays 4 := ⟨lb_X3_firstSays, Or.inl (List.mem_filter.mpr ⟨List.mem_of_getElem? (i := 632) (by decide +kernel), by decide +kernel⟩), (List.mem_filter.mpr ⟨List.mem_of_getElem? (i := 633) (by decide +kernel), by decide +kernel⟩), (List.mem_filter.mpr ⟨List.mem_of_getElem? (i := 634) (by decide +kernel), by decide +kernel⟩)⟩
theorem lb_X3_secondSays : LkB mX3_secondSays 4 := ⟨(List.mem_filter.mpr ⟨List.mem_of_getElem? (i := 69) (by decide +kernel), by decide +kernel⟩), (List.mem_filter.mpr ⟨List.mem_of_getElem? (i := 646) (by decide +kernel), by decide +kernel⟩), by decide, by decide, by decide +kernel⟩
theorem lkRX8_202 : LkV RX8 202 mX3_secondSays 4 := ⟨lb_X3_secondSays, Or.inl (List.mem_filter.mpr ⟨List.mem_of_getElem? (i := 643) (by decide +kernel), by decide +kernel⟩), (List.mem_filter.mpr ⟨List.mem_of_getElem? (i := 644) (by decide +kernel), by decide +kernel⟩), (List.mem_filter.mpr ⟨List.mem_of_getElem? (i := 645) (by decide +kernel), by decide +kernel⟩)⟩
theorem lb_X8_heavinessAhead : LkB mX8_heavinessAhead 2 := ⟨(List.mem_filter.mpr ⟨List.mem_of_getElem? (i := 62) (by decide +kernel), by decide +kernel⟩), (List.mem_filter.mpr ⟨List.mem_of_getElem? (i := 474) (by decide +kernel), by decide +kernel⟩), by decide, by decide, by decide +kernel⟩
theorem lkRX8_205 : LkV RX8 205 mX8_heavinessAhead 2 := ⟨lb_X8_heavinessAhead, Or.inl (List.mem_filter.mpr ⟨List.mem_of_getElem? (i := 471) (by decide +kernel), by decide +kernel⟩), (List.mem_filter.mpr ⟨List.mem_of_getElem? (i := 473) (by decide +kernel), by decide +kernel⟩), (List.mem_filter.mpr ⟨List.mem_of_getElem? (i := 12) (by decide +kernel), by decide +kernel⟩)⟩
theorem lb_X8_lighterWays : LkB mX8_lighterWays 4 := ⟨(List.mem_filter.mpr ⟨List.mem_of_getElem? (i := 62) (by decide +kernel), by decide +kernel⟩), (List.mem_filter.mpr ⟨List.mem_of_getElem? (i := 659) (by decide +kernel), by decide +kernel⟩), by decide, by decide, by decide +kernel⟩
theorem lkRX8_210 : LkV RX8 210 mX8_lighterWays 4 := ⟨lb_X8_lighterWays, Or.inl (List.mem_filter.mpr ⟨List.mem_of_getElem? (i := 656) (by decide +kernel), by decide +kernel⟩), (List.mem_filter.mpr ⟨List.mem_of_getElem? (i := 658) (by decide +kernel), by decide +kernel⟩), (List.mem_filter.mpr ⟨List.mem_of_getElem? (i := 23) (by decide +kernel), by decide +kernel⟩)⟩
theorem lb_X8_power : LkB mX8_power 2 := ⟨(List.mem_filter.mpr ⟨List.mem_of_getElem? (i := 62) (by decide +kernel), by decide +kernel⟩), (List.mem_filter.mpr ⟨List.mem_of_getElem? (i := 662) (by decide +kernel), by decide +kernel⟩), by decide, by decide, by decide +kernel⟩
theorem lkRX8_214 : LkS RX8 214 mX8_power 2 := ⟨lb_X8_power, Or.inl (List.mem_filter.mpr ⟨List.mem_of_getElem? (i := 660) (by decide +kernel), by decide +kernel⟩), (List.mem_filter.mpr ⟨List.mem_of_getElem? (i := 661) (by decide +kernel), by decide +kernel⟩)⟩
theorem lb_X8_commonDivisor : LkB mX8_commonDivisor 2 := ⟨(List.mem_filter.mpr ⟨List.mem_of_getElem? (i := 62) (by decide +kernel), by decide +kernel⟩), (List.mem_filter.mpr ⟨List.mem_of_getElem? (i := 665) (by decide +kernel), by decide +kernel⟩), by decide, by decide, by decide +kernel⟩
theorem lkRX8_218 : LkS RX8 218 mX8_commonDivisor 2 := ⟨lb_X8_commonDivisor, Or.inl (List.mem_filter.mpr ⟨List.mem_of_getElem? (i := 663) (by decide +kernel), by decide +kernel⟩), (List.mem_filter.mpr ⟨List.mem_of_getElem? (i := 664) (by decide +kernel), by decide +kernel⟩)⟩
theorem lb_X0_canWeigh : LkB mX0_canWeigh 1 := ⟨(List.mem_filter.mpr ⟨List.mem_of_getElem? (i := 68) (by decide +kernel), by decide +kernel⟩), (List.mem_filter.mpr ⟨List.mem_of_getElem? (i := 321) (by decide +kernel), by decide +kernel⟩), by decide, by decide, by decide +kernel⟩
theorem lkRX8_222 : LkV RX8 222 mX0_canWeigh 1 := ⟨lb_X0_canWeigh, Or.inl (List.mem_filter.mpr ⟨List.mem_of_getElem? (i := 670) (by decide +kernel), by decide +kernel⟩), (List.mem_filter.mpr ⟨List.mem_of_getElem? (i := 319) (by decide +kernel), by decide +kernel⟩), (List.mem_filter.mpr ⟨List.mem_of_getElem? (i := 320) (by decide +kernel), by decide +kernel⟩)⟩
theorem lb_X0_fewestPieces : LkB mX0_fewestPieces 1 := ⟨(List.mem_filter.mpr ⟨List.mem_of_getElem? (i := 68) (by decide +kernel), by decide +kernel⟩), (List.mem_filter.mpr ⟨List.mem_of_getElem? (i := 331) (by decide +kernel), by decide +kernel⟩), by decide, by decide, by decide +kernel⟩
theorem lkRX8_225 : LkV RX8 225 mX0_fewestPieces 1 := ⟨lb_X0_fewestPieces, Or.inl (List.mem_filter.mpr ⟨List.mem_of_getElem? (i := 671) (by decide +kernel), by decide +kernel⟩), (List.mem_filter.mpr ⟨List.mem_of_getElem? (i := 329) (by decide +kernel), by decide +kernel⟩), (List.mem_filter.mpr ⟨List.mem_of_getElem? (i := 330) (by decide +kernel), by decide +kernel⟩)⟩
theorem lb_X0_heavierPan : LkB mX0_heavierPan 1 := ⟨(List.mem_filter.mpr ⟨List.mem_of_getElem? (i := 68) (by decide +kernel), by decide +kernel⟩), (List.mem_filter.mpr ⟨List.mem_of_getElem? (i := 675) (by decide +kernel), by decide +kernel⟩), by decide, by decide, by decide +kernel⟩
theorem lkRX8_228 : LkV RX8 228 mX0_heavierPan 1 := ⟨lb_X0_heavierPan, Or.inl (List.mem_filter.mpr ⟨List.mem_of_getElem? (i := 672) (by decide +kernel), by decide +kernel⟩), (List.mem_filter.mpr ⟨List.mem_of_getElem? (i := 673) (by decide +kernel), by decide +kernel⟩), (List.mem_filter.mpr ⟨List.mem_of_getElem? (i := 674) (by decide +kernel), by decide +kernel⟩)⟩
theorem lb_X0_otherPan : LkB mX0_otherPan 1 := ⟨(List.mem_filter.mpr ⟨List.mem_of_getElem? (i := 68) (by decide +kernel), by decide +kernel⟩), (List.mem_filter.mpr ⟨List.mem_of_getElem? (i := 679) (by decide +kernel), by decide +kernel⟩), by decide, by decide, by decide +kernel⟩
theorem lkRX8_231 : LkV RX8 231 mX0_otherPan 1 := ⟨lb_X0_otherPan, Or.inl (List.mem_filter.mpr ⟨List.mem_of_getElem? (i := 676) (by decide +kernel), by decide +kernel⟩), (List.mem_filter.mpr ⟨List.mem_of_getElem? (i := 677) (by decide +kernel), by decide +kernel⟩), (List.mem_filter.mpr ⟨List.mem_of_getElem? (i := 678) (by decide +kernel), by decide +kernel⟩)⟩
theorem lb_X1_addShown : LkB mX1_addShown 3 := ⟨(List.mem_filter.mpr ⟨List.mem_of_getElem? (i := 70) (by decide +kernel), by decide +kernel⟩), (List.mem_filter.mpr ⟨List.mem_of_getElem? (i := 687) (by decide +kernel), by decide +kernel⟩), by decide, by decide, by decide +kernel⟩
theorem lkRX8_234 : LkV RX8 234 mX1_addShown 3 := ⟨lb_X1_addShown, Or.inl (List.mem_filter.mpr ⟨List.mem_of_getElem? (i := 684) (by decide +kernel), by decide +kernel⟩), (List.mem_filter.mpr ⟨List.mem_of_getElem? (i := 685) (by decide +kernel), by decide +kernel⟩), (List.mem_filter.mpr ⟨List.mem_of_getElem? (i := 686) (by decide +kernel), by decide +kernel⟩)⟩
theorem lb_X1_prepareWays : LkB mX1_prepareWays 1 := ⟨(List.mem_filter.mpr ⟨List.mem_of_getElem? (i := 70) (by decide +kernel), by decide +kernel⟩), (List.mem_filter.mpr ⟨List.mem_of_getElem? (i := 695) (by decide +kernel), by decide +kernel⟩), by decide, by decide, by decide +kernel⟩
theorem lkRX8_240 : LkV RX8 240 mX1_prepareWays 1 := ⟨lb_X1_prepareWays, Or.inl (List.mem_filter.mpr ⟨List.mem_of_getElem? (i := 692) (by decide +kernel), by decide +kernel⟩), (List.mem_filter.mpr ⟨List.mem_of_getElem? (i := 693) (by decide +kernel), by decide +kernel⟩), (List.mem_filter.mpr ⟨List.mem_of_getElem? (i := 694) (by decide +kernel), by decide +kernel⟩)⟩
theorem lb_X1_lowestOf : LkB mX1_lowestOf 1 := ⟨(List.mem_filter.mpr ⟨List.mem_of_getElem? (i := 70) (by decide +kernel), by decide +kernel⟩), (List.mem_filter.mpr ⟨List.mem_of_getElem? (i := 700) (by decide +kernel), by decide +kernel⟩), by decide, by decide, by decide +kernel⟩
theorem lkRX8_244 : LkV RX8 244 mX1_lowestOf 1 := ⟨lb_X1_lowestOf, Or.inl (List.mem_filter.mpr ⟨List.mem_of_getElem? (i := 697) (by decide +kernel), by decide +kernel⟩), (List.mem_filter.mpr ⟨List.mem_of_getElem? (i := 698) (by decide +kernel), by decide +kernel⟩), (List.mem_filter.mpr ⟨List.mem_of_getElem? (i := 699) (by decide +kernel), by decide +kernel⟩)⟩
theorem lb_X1_highestOf : LkB mX1_highestOf 1 := ⟨(List.mem_filter.mpr ⟨List.mem_of_getElem? (i := 70) (by decide +kernel), by decide +kernel⟩), (List.mem_filter.mpr ⟨List.mem_of_getElem? (i := 705) (by decide +kernel), by decide +kernel⟩), by decide, by decide, by decide +kernel⟩
theorem lkRX8_247 : LkV RX8 247 mX1_highestOf 1 := ⟨lb_X1_highestOf, Or.inl (List.mem_filter.mpr ⟨List.mem_of_getElem? (i := 702) (by decide +kernel), by decide +kernel⟩), (List.mem_filter.mpr ⟨List.mem_of_getElem? (i := 703) (by decide +kernel), by decide +kernel⟩), (List.mem_filter.mpr ⟨List.mem_of_getElem? (i := 704) (by decide +kernel), by decide +kernel⟩)⟩
theorem lb_X1_waysBetween : LkB mX1_waysBetween 2 := ⟨(List.mem_filter.mpr ⟨List.mem_of_getElem? (i := 70) (by decide +kernel), by decide +kernel⟩), (List.mem_filter.mpr ⟨List.mem_of_getElem? (i := 710) (by decide +kernel), by decide +kernel⟩), by decide, by decide, by decide +kernel⟩
theorem lkRX8_250 : LkV RX8 250 mX1_waysBetween 2 := ⟨lb_X1_waysBetween, Or.inl (List.mem_filter.mpr ⟨List.mem_of_getElem? (i := 707) (by decide +kernel), by decide +kernel⟩), (List.mem_filter.mpr ⟨List.mem_of_getElem? (i := 708) (by decide +kernel), by decide +kernel⟩), (List.mem_filter.mpr ⟨List.mem_of_getElem? (i := 709) (by decide +kernel), by decide +kernel⟩)⟩
theorem lb_X1_leastBetween : LkB mX1_leastBetween 2 := ⟨(List.mem_filter.mpr ⟨List.mem_of_getElem? (i := 70) (by decide +kernel), by decide +kernel⟩), (List.mem_filter.mpr ⟨List.mem_of_getElem? (i := 714) (by decide +kernel), by decide +kernel⟩), by decide, by decide, by decide +kernel⟩
theorem lkRX8_253 : LkV RX8 253 mX1_leastBetween 2 := ⟨lb_X1_leastBetween, Or.inl (List.mem_filter.mpr ⟨List.mem_of_getElem? (i := 711) (by decide +kernel), by decide +kernel⟩), (List.mem_filter.mpr ⟨List.mem_of_getElem? (i := 712) (by decide +kernel), by decide +kernel⟩), (List.mem_filter.mpr ⟨List.mem_of_getElem? (i := 713) (by decide +kernel), by decide +kernel⟩)⟩
theorem lb_X1_greatestBetween : LkB mX1_greatestBetween 2 := ⟨(List.mem_filter.mpr ⟨List.mem_of_getElem? (i := 70) (by decide +kernel), by decide +kernel⟩), (List.mem_filter.mpr ⟨List.mem_of_getElem? (i := 718) (by decide +kernel), by decide +kernel⟩), by decide, by decide, by decide +kernel⟩
theorem lkRX8_256 : LkV RX8 256 mX1_greatestBetween 2 := ⟨lb_X1_greatestBetween, Or.inl (List.mem_filter.mpr ⟨List.mem_of_getElem? (i := 715) (by decide +kernel), by decide +kernel⟩), (List.mem_filter.mpr ⟨List.mem_of_getElem? (i := 716) (by decide +kernel), by decide +kernel⟩), (List.mem_filter.mpr ⟨List.mem_of_getElem? (i := 717) (by decide +kernel), by decide +kernel⟩)⟩
theorem lb_X1_addSeen : LkB mX1_addSeen 2 := ⟨(List.mem_filter.mpr ⟨List.mem_of_getElem? (i := 70) (by decide +kernel), by decide +kernel⟩), (List.mem_filter.mpr ⟨List.mem_of_getElem? (i := 726) (by decide +kernel), by decide +kernel⟩), by decide, by decide, by decide +kernel⟩
theorem lkRX8_259 : LkV RX8 259 mX1_addSeen 2 := ⟨lb_X1_addSeen, Or.inl (List.mem_filter.mpr ⟨List.mem_of_getElem? (i := 723) (by decide +kernel), by decide +kernel⟩), (List.mem_filter.mpr ⟨List.mem_of_getElem? (i := 724) (by decide +kernel), by decide +kernel⟩), (List.mem_filter.mpr ⟨List.mem_of_getElem? (i := 725) (by decide +kernel), by decide +kernel⟩)⟩
theorem lb_X1_lawsOf : LkB mX1_lawsOf 2 := ⟨(List.mem_filter.mpr ⟨List.mem_of_getElem? (i := 70) (by decide +kernel), by decide +kernel⟩), (List.mem_filter.mpr ⟨List.mem_of_getElem? (i := 734) (by decide +kernel), by decide +kernel⟩), by decide, by decide, by decide +kernel⟩
theorem lkRX8_265 : LkV RX8 265 mX1_lawsOf 2 := ⟨lb_X1_lawsOf, Or.inl (List.mem_filter.mpr ⟨List.mem_of_getElem? (i := 731) (by decide +kernel), by decide +kernel⟩), (List.mem_filter.mpr ⟨List.mem_of_getElem? (i := 732) (by decide +kernel), by decide +kernel⟩), (List.mem_filter.mpr ⟨List.mem_of_getElem? (i := 733) (by decide +kernel), by decide +kernel⟩)⟩
theorem lb_X1_firstLawOf : LkB mX1_firstLawOf 2 := ⟨(List.mem_filter.mpr ⟨List.mem_of_getElem? (i := 70) (by decide +kernel), by decide +kernel⟩), (List.mem_filter.mpr ⟨List.mem_of_getElem? (i := 745) (by decide +kernel), by decide +kernel⟩), by decide, by decide, by decide +kernel⟩
theorem lkRX8_269 : LkV RX8 269 mX1_firstLawOf 2 := ⟨lb_X1_firstLawOf, Or.inl (List.mem_filter.mpr ⟨List.mem_of_getElem? (i := 742) (by decide +kernel), by decide +kernel⟩), (List.mem_filter.mpr ⟨List.mem_of_getElem? (i := 743) (by decide +kernel), by decide +kernel⟩), (List.mem_filter.mpr ⟨List.mem_of_getElem? (i := 744) (by decide +kernel), by decide +kernel⟩)⟩
theorem lb_X1_dropRecords : LkB mX1_dropRecords 0 := ⟨(List.mem_filter.mpr ⟨List.mem_of_getElem? (i := 70) (by decide +kernel), by decide +kernel⟩), (List.mem_filter.mpr ⟨List.mem_of_getElem? (i := 339) (by decide +kernel), by decide +kernel⟩), by decide, by decide, by decide +kernel⟩
theorem lkRX8_272 : LkV RX8 272 mX1_dropRecords 0 := ⟨lb_X1_dropRecords, Or.inl (List.mem_filter.mpr ⟨List.mem_of_getElem? (i := 753) (by decide +kernel), by decide +kernel⟩), (List.mem_filter.mpr ⟨List.mem_of_getElem? (i := 337) (by decide +kernel), by decide +kernel⟩), (List.mem_filter.mpr ⟨List.mem_of_getElem? (i := 338) (by decide +kernel), by decide +kernel⟩)⟩
theorem lb_X8_asPerson : LkB mX8_asPerson 1 := ⟨(List.mem_filter.mpr ⟨List.mem_of_getElem? (i := 62) (by decide +kernel), by decide +kernel⟩), (List.mem_filter.mpr ⟨List.mem_of_getElem? (i := 761) (by decide +kernel), by decide +kernel⟩), by decide, by decide, by decide +kernel⟩
theorem lkRX8_275 : LkV RX8 275 mX8_asPerson 1 := ⟨lb_X8_asPerson, Or.inl (List.mem_filter.mpr ⟨List.mem_of_getElem? (i := 758) (by decide +kernel), by decide +kernel⟩), (List.mem_filter.mpr ⟨List.mem_of_getElem? (i := 760) (by decide +kernel), by decide +kernel⟩), (List.mem_filter.mpr ⟨List.mem_of_getElem? (i := 25) (by decide +kernel), by decide +kernel⟩)⟩
theorem lb_X8_asBride : LkB mX8_asBride 1 := ⟨(List.mem_filter.mpr ⟨List.mem_of_getElem? (i := 62) (by decide +kernel), by decide +kernel⟩), (List.mem_filter.mpr ⟨List.mem_of_getElem? (i := 765) (by decide +kernel), by decide +kernel⟩), by decide, by decide, by decide +kernel⟩
theorem lkRX8_278 : LkV RX8 278 mX8_asBride 1 := ⟨lb_X8_asBride, Or.inl (List.mem_filter.mpr ⟨List.mem_of_getElem? (i := 762) (by decide +kernel), by decide +kernel⟩), (List.mem_filter.mpr ⟨List.mem_of_getElem? (i := 764) (by decide +kernel), by decide +kernel⟩), (List.mem_filter.mpr ⟨List.mem_of_getElem? (i := 26) (by decide +kernel), by decide +kernel⟩)⟩
theorem lb_X8_asPartner : LkB mX8_asPartner 1 := ⟨(List.mem_filter.mpr ⟨List.mem_of_getElem? (i := 62) (by decide +kernel), by decide +kernel⟩), (List.mem_filter.mpr ⟨List.mem_of_getElem? (i := 773) (by decide +kernel), by decide +kernel⟩), by decide, by decide, by decide +kernel⟩
theorem lkRX8_281 : LkV RX8 281 mX8_asPartner 1 := ⟨lb_X8_asPartner, Or.inl (List.mem_filter.mpr ⟨List.mem_of_getElem? (i := 770) (by decide +kernel), by decide +kernel⟩), (List.mem_filter.mpr ⟨List.mem_of_getElem? (i := 772) (by decide +kernel), by decide +kernel⟩), (List.mem_filter.mpr ⟨List.mem_of_getElem? (i := 27) (by decide +kernel), by decide +kernel⟩)⟩
theorem lb_X8_asBrother : LkB mX8_asBrother 1 := ⟨(List.mem_filter.mpr ⟨List.mem_of_getElem? (i := 62) (by decide +kernel), by decide +kernel⟩), (List.mem_filter.mpr ⟨List.mem_of_getElem? (i := 778) (by decide +kernel), by decide +kernel⟩), by decide, by decide, by decide +kernel⟩
theorem lkRX8_284 : LkV RX8 284 mX8_asBrother 1 := ⟨lb_X8_asBrother, Or.inl (List.mem_filter.mpr ⟨List.mem_of_getElem? (i := 775) (by decide +kernel), by decide +kernel⟩), (List.mem_filter.mpr ⟨List.mem_of_getElem? (i := 777) (by decide +kernel), by decide +kernel⟩), (List.mem_filter.mpr ⟨List.mem_of_getElem? (i := 28) (by decide +kernel), by decide +kernel⟩)⟩
theorem lb_X8_asBankrupt : LkB mX8_asBankrupt 1 := ⟨(List.mem_filter.mpr ⟨List.mem_of_getElem? (i := 62) (by decide +kernel), by decide +kernel⟩), (List.mem_filter.mpr ⟨List.mem_of_getElem? (i := 783) (by decide +kernel), by decide +kernel⟩), by decide, by decide, by decide +kernel⟩
theorem lkRX8_287 : LkV RX8 287 mX8_asBankrupt 1 := ⟨lb_X8_asBankrupt, Or.inl (List.mem_filter.mpr ⟨List.mem_of_getElem? (i := 780) (by decide +kernel), by decide +kernel⟩), (List.mem_filter.mpr ⟨List.mem_of_getElem? (i := 782) (by decide +kernel), by decide +kernel⟩), (List.mem_filter.mpr ⟨List.mem_of_getElem? (i := 29) (by decide +kernel), by decide +kernel⟩)⟩
theorem lb_X8_asStranger : LkB mX8_asStranger 1 := ⟨(List.mem_filter.mpr ⟨List.mem_of_getElem? (i := 62) (by decide +kernel), by decide +kernel⟩), (List.mem_filter.mpr ⟨List.mem_of_getElem? (i := 788) (by decide +kernel), by decide +kernel⟩), by decide, by decide, by decide +kernel⟩
theorem lkRX8_290 : LkV RX8 290 mX8_asStranger 1 := ⟨lb_X8_asStranger, Or.inl (List.mem_filter.mpr ⟨List.mem_of_getElem? (i := 785) (by decide +kernel), by decide +kernel⟩), (List.mem_filter.mpr ⟨List.mem_of_getElem? (i := 787) (by decide +kernel), by decide +kernel⟩), (List.mem_filter.mpr ⟨List.mem_of_getElem? (i := 30) (by decide +kernel), by decide +kernel⟩)⟩
theorem lb_X4_copyFrom : LkB mX4_copyFrom 1 := ⟨(List.mem_filter.mpr ⟨List.mem_of_getElem? (i := 65) (by decide +kernel), by decide +kernel⟩), (List.mem_filter.mpr ⟨List.mem_of_getElem? (i := 575) (by decide +kernel), by decide +kernel⟩), by decide, by decide, by decide +kernel⟩
theorem lkRX8_293 : LkV RX8 293 mX4_copyFrom 1 := ⟨lb_X4_copyFrom, Or.inl (List.mem_filter.mpr ⟨List.mem_of_getElem? (i := 794) (by decide +kernel), by decide +kernel⟩), (List.mem_filter.mpr ⟨List.mem_of_getElem? (i := 573) (by decide +kernel), by decide +kernel⟩), (List.mem_filter.mpr ⟨List.mem_of_getElem? (i := 574) (by decide +kernel), by decide +kernel⟩)⟩
theorem lb_X4_begin : LkB mX4_begin 1 := ⟨(List.mem_filter.mpr ⟨List.mem_of_getElem? (i := 65) (by decide +kernel), by decide +kernel⟩), (List.mem_filter.mpr ⟨List.mem_of_getElem? (i := 301) (by decide +kernel), by decide +kernel⟩), by decide, by decide, by decide +kernel⟩
theorem lkRX8_299 : LkV RX8 299 mX4_begin 1 := ⟨lb_X4_begin, Or.inl (List.mem_filter.mpr ⟨List.mem_of_getElem? (i := 298) (by decide +kernel), by decide +kernel⟩), (List.mem_filter.mpr ⟨List.mem_of_getElem? (i := 299) (by decide +kernel), by decide +kernel⟩), (List.mem_filter.mpr ⟨List.mem_of_getElem? (i := 300) (by decide +kernel), by decide +kernel⟩)⟩
theorem lb_X0_layOut : LkB mX0_layOut 1 := ⟨(List.mem_filter.mpr ⟨List.mem_of_getElem? (i := 68) (by decide +kernel), by decide +kernel⟩), (List.mem_filter.mpr ⟨List.mem_of_getElem? (i := 306) (by decide +kernel), by decide +kernel⟩), by decide, by decide, by decide +kernel⟩
theorem lkRX8_302 : LkV RX8 302 mX0_layOut 1 := ⟨lb_X0_layOut, Or.inl (List.mem_filter.mpr ⟨List.mem_of_getElem? (i := 303) (by decide +kernel), by decide +kernel⟩), (List.mem_filter.mpr ⟨List.mem_of_getElem? (i := 304) (by decide +kernel), by decide +kernel⟩), (List.mem_filter.mpr ⟨List.mem_of_getElem? (i := 305) (by decide +kernel), by decide +kernel⟩)⟩
theorem lb_X1_begin : LkB mX1_begin 0 := ⟨(List.mem_filter.mpr ⟨List.mem_of_getElem? (i := 70) (by decide +kernel), by decide +kernel⟩), (List.mem_filter.mpr ⟨List.mem_of_getElem? (i := 335) (by decide +kernel), by decide +kernel⟩), by decide, by decide, by decide +kernel⟩
theorem lkRX8_305 : LkV RX8 305 mX1_begin 0 := ⟨lb_X1_begin, Or.inl (List.mem_filter.mpr ⟨List.mem_of_getElem? (i := 332) (by decide +kernel), by decide +kernel⟩), (List.mem_filter.mpr ⟨List.mem_of_getElem? (i := 333) (by decide +kernel), by decide +kernel⟩), (List.mem_filter.mpr ⟨List.mem_of_getElem? (i := 334) (by decide +kernel), by decide +kernel⟩)⟩
theorem lb_J9_min_7cf53 : LkB mJ9_min_7cf53 2 := ⟨(List.mem_filter.mpr ⟨List.mem_of_getElem? (i := 75) (by decide +kernel), by decide +kernel⟩), (List.mem_filter.mpr ⟨List.mem_of_getElem? (i := 477) (by decide +kernel), by decide +kernel⟩), by decide, by decide, by decide +kernel⟩
theorem lkRX8_307 : LkS RX8 307 mJ9_min_7cf53 2 := ⟨lb_J9_min_7cf53, Or.inl (List.mem_filter.mpr ⟨List.mem_of_getElem? (i := 475) (by decide +kernel), by decide +kernel⟩), (List.mem_filter.mpr ⟨List.mem_of_getElem? (i := 476) (by decide +kernel), by decide +kernel⟩)⟩
theorem lb_J9_max_7cf53 : LkB mJ9_max_7cf53 2 := ⟨(List.mem_filter.mpr ⟨List.mem_of_getElem? (i := 75) (by decide +kernel), by decide +kernel⟩), (List.mem_filter.mpr ⟨List.mem_of_getElem? (i := 495) (by decide +kernel), by decide +kernel⟩), by decide, by decide, by decide +kernel⟩
theorem lkRX8_312 : LkS RX8 312 mJ9_max_7cf53 2 := ⟨lb_J9_max_7cf53, Or.inl (List.mem_filter.mpr ⟨List.mem_of_getElem? (i := 493) (by decide +kernel), by decide +kernel⟩), (List.mem_filter.mpr ⟨List.mem_of_getElem? (i := 494) (by decide +kernel), by decide +kernel⟩)⟩
theorem lb_X8_foundOf : LkB mX8_foundOf 2 := ⟨(List.mem_filter.mpr ⟨List.mem_of_getElem? (i := 62) (by decide +kernel), by decide +kernel⟩), (List.mem_filter.mpr ⟨List.mem_of_getElem? (i := 498) (by decide +kernel), by decide +kernel⟩), by decide, by decide, by decide +kernel⟩
theorem lkRX8_315 : LkS RX8 315 mX8_foundOf 2 := ⟨lb_X8_foundOf, Or.inl (List.mem_filter.mpr ⟨List.mem_of_getElem? (i := 496) (by decide +kernel), by decide +kernel⟩), (List.mem_filter.mpr ⟨List.mem_of_getElem? (i := 497) (by decide +kernel), by decide +kernel⟩)⟩
theorem lb_X5_prepare : LkB mX5_prepare 1 := ⟨(List.mem_filter.mpr ⟨List.mem_of_getElem? (i := 67) (by decide +kernel), by decide +kernel⟩), (List.mem_filter.mpr ⟨List.mem_of_getElem? (i := 514) (by decide +kernel), by decide +kernel⟩), by decide, by decide, by decide +kernel⟩
theorem lkRX8_318 : LkV RX8 318 mX5_prepare 1 := ⟨lb_X5_prepare, Or.inl (List.mem_filter.mpr ⟨List.mem_of_getElem? (i := 511) (by decide +kernel), by decide +kernel⟩), (List.mem_filter.mpr ⟨List.mem_of_getElem? (i := 512) (by decide +kernel), by decide +kernel⟩), (List.mem_filter.mpr ⟨List.mem_of_getElem? (i := 513) (by decide +kernel), by decide +kernel⟩)⟩
theorem lb_X5_ordersLeft : LkB mX5_ordersLeft 1 := ⟨(List.mem_filter.mpr ⟨List.mem_of_getElem? (i := 67) (by decide +kernel), by decide +kernel⟩), (List.mem_filter.mpr ⟨List.mem_of_getElem? (i := 526) (by decide +kernel), by decide +kernel⟩), by decide, by decide, by decide +kernel⟩
theorem lkRX8_322 : LkV RX8 322 mX5_ordersLeft 1 := ⟨lb_X5_ordersLeft, Or.inl (List.mem_filter.mpr ⟨List.mem_of_getElem? (i := 553) (by decide +kernel), by decide +kernel⟩), (List.mem_filter.mpr ⟨List.mem_of_getElem? (i := 524) (by decide +kernel), by decide +kernel⟩), (List.mem_filter.mpr ⟨List.mem_of_getElem? (i := 525) (by decide +kernel), by decide +kernel⟩)⟩
theorem lb_X5_worstOf : LkB mX5_worstOf 1 := ⟨(List.mem_filter.mpr ⟨List.mem_of_getElem? (i := 67) (by decide +kernel), by decide +kernel⟩), (List.mem_filter.mpr ⟨List.mem_of_getElem? (i := 550) (by decide +kernel), by decide +kernel⟩), by decide, by decide, by decide +kernel⟩
theorem lkRX8_325 : LkV RX8 325 mX5_worstOf 1 := ⟨lb_X5_worstOf, Or.inl (List.mem_filter.mpr ⟨List.mem_of_getElem? (i := 554) (by decide +kernel), by decide +kernel⟩), (List.mem_filter.mpr ⟨List.mem_of_getElem? (i := 548) (by decide +kernel), by decide +kernel⟩), (List.mem_filter.mpr ⟨List.mem_of_getElem? (i := 549) (by decide +kernel), by decide +kernel⟩)⟩
theorem lb_X5_nextPair : LkB mX5_nextPair 1 := ⟨(List.mem_filter.mpr ⟨List.mem_of_getElem? (i := 67) (by decide +kernel), by decide +kernel⟩), (List.mem_filter.mpr ⟨List.mem_of_getElem? (i := 558) (by decide +kernel), by decide +kernel⟩), by decide, by decide, by decide +kernel⟩
theorem lkRX8_328 : LkV RX8 328 mX5_nextPair 1 := ⟨lb_X5_nextPair, Or.inl (List.mem_filter.mpr ⟨List.mem_of_getElem? (i := 555) (by decide +kernel), by decide +kernel⟩), (List.mem_filter.mpr ⟨List.mem_of_getElem? (i := 556) (by decide +kernel), by decide +kernel⟩), (List.mem_filter.mpr ⟨List.mem_of_getElem? (i := 557) (by decide +kernel), by decide +kernel⟩)⟩
theorem lb_X8_sumOfSorts : LkB mX8_sumOfSorts 2 := ⟨(List.mem_filter.mpr ⟨List.mem_of_getElem? (i := 62) (by decide +kernel), by decide +kernel⟩), (List.mem_filter.mpr ⟨List.mem_of_getElem? (i := 769) (by decide +kernel), by decide +kernel⟩), by decide, by decide, by decide +kernel⟩
theorem lkRX8_333 : LkS RX8 333 mX8_sumOfSorts 2 := ⟨lb_X8_sumOfSorts, Or.inl (List.mem_filter.mpr ⟨List.mem_of_getElem? (i := 767) (by decide +kernel), by decide +kernel⟩), (List.mem_filter.mpr ⟨List.mem_of_getElem? (i := 768) (by decide +kernel), by decide +kernel⟩)⟩
theorem lb_X0_weigh : LkB mX0_weigh 2 := ⟨(List.mem_filter.mpr ⟨List.mem_of_getElem? (i := 68) (by decide +kernel), by decide +kernel⟩), (List.mem_filter.mpr ⟨List.mem_of_getElem? (i := 309) (by decide +kernel), by decide +kernel⟩), by decide, by decide, by decide +kernel⟩
theorem lkRX0_24 : LkS RX0 24 mX0_weigh 2 := ⟨lb_X0_weigh, Or.inl (List.mem_filter.mpr ⟨List.mem_of_getElem? (i := 307) (by decide +kernel), by decide +kernel⟩), (List.mem_filter.mpr ⟨List.mem_of_getElem? (i := 308) (by decide +kernel), by decide +kernel⟩)⟩
theorem lb_J7_fill_53178 : LkB mJ7_fill_53178 2 := ⟨(List.mem_filter.mpr ⟨List.mem_of_getElem? (i := 72) (by decide +kernel), by decide +kernel⟩), (List.mem_filter.mpr ⟨List.mem_of_getElem? (i := 293) (by decide +kernel), by decide +kernel⟩), by decide, by decide, by decide +kernel⟩
theorem lkRX0_28 : LkS RX0 28 mJ7_fill_53178 2 := ⟨lb_J7_fill_53178, Or.inl (List.mem_filter.mpr ⟨List.mem_of_getElem? (i := 310) (by decide +kernel), by decide +kernel⟩), (List.mem_filter.mpr ⟨List.mem_of_getElem? (i := 292) (by decide +kernel), by decide +kernel⟩)⟩
theorem lb_X0_offer : LkB mX0_offer 2 := ⟨(List.mem_filter.mpr ⟨List.mem_of_getElem? (i := 68) (by decide +kernel), by decide +kernel⟩), (List.mem_filter.mpr ⟨List.mem_of_getElem? (i := 314) (by decide +kernel), by decide +kernel⟩), by decide, by decide, by decide +kernel⟩
theorem lkRX0_34 : LkV RX0 34 mX0_offer 2 := ⟨lb_X0_offer, Or.inl (List.mem_filter.mpr ⟨List.mem_of_getElem? (i := 311) (by decide +kernel), by decide +kernel⟩), (List.mem_filter.mpr ⟨List.mem_of_getElem? (i := 313) (by decide +kernel), by decide +kernel⟩), (List.mem_filter.mpr ⟨List.mem_of_getElem? (i := 1) (by decide +kernel), by decide +kernel⟩)⟩
theorem lb_J6_bitCount_0f7a4 : LkB mJ6_bitCount_0f7a4 1 := ⟨(List.mem_filter.mpr ⟨List.mem_of_getElem? (i := 73) (by decide +kernel), by decide +kernel⟩), (List.mem_filter.mpr ⟨List.mem_of_getElem? (i := 324) (by decide +kernel), by decide +kernel⟩), by decide, by decide, by decide +kernel⟩
theorem lkRX0_38 : LkS RX0 38 mJ6_bitCount_0f7a4 1 := ⟨lb_J6_bitCount_0f7a4, Or.inl (List.mem_filter.mpr ⟨List.mem_of_getElem? (i := 322) (by decide +kernel), by decide +kernel⟩), (List.mem_filter.mpr ⟨List.mem_of_getElem? (i := 323) (by decide +kernel), by decide +kernel⟩)⟩
theorem lkRX0_44 : LkV RX0 44 mX0_canWeigh 1 := ⟨lb_X0_canWeigh, Or.inl (List.mem_filter.mpr ⟨List.mem_of_getElem? (i := 318) (by decide +kernel), by decide +kernel⟩), (List.mem_filter.mpr ⟨List.mem_of_getElem? (i := 319) (by decide +kernel), by decide +kernel⟩), (List.mem_filter.mpr ⟨List.mem_of_getElem? (i := 320) (by decide +kernel), by decide +kernel⟩)⟩
theorem lkRX0_48 : LkS RX0 48 mX8_within 3 := ⟨lb_X8_within, Or.inr ⟨"UnsaidScales", (List.mem_of_getElem? (i := 315) (by decide +kernel))⟩, (List.mem_filter.mpr ⟨List.mem_of_getElem? (i := 316) (by decide +kernel), by decide +kernel⟩)⟩
theorem lkRX0_52 : LkV RX0 52 mX0_fewestPieces 1 := ⟨lb_X0_fewestPieces, Or.inl (List.mem_filter.mpr ⟨List.mem_of_getElem? (i := 328) (by decide +kernel), by decide +kernel⟩), (List.mem_filter.mpr ⟨List.mem_of_getElem? (i := 329) (by decide +kernel), by decide +kernel⟩), (List.mem_filter.mpr ⟨List.mem_of_getElem? (i := 330) (by decide +kernel), by decide +kernel⟩)⟩
theorem lkRX1_30 : LkV RX1 30 mX1_dropRecords 0 := ⟨lb_X1_dropRecords, Or.inl (List.mem_filter.mpr ⟨List.mem_of_getElem? (i := 336) (by decide +kernel), by decide +kernel⟩), (List.mem_filter.mpr ⟨List.mem_of_getElem? (i := 337) (by decide +kernel), by decide +kernel⟩), (List.mem_filter.mpr ⟨List.mem_of_getElem? (i := 338) (by decide +kernel), by decide +kernel⟩)⟩
theorem lkRX1_44 : LkS RX1 44 mJ7_fill_53178 2 := ⟨lb_J7_fill_53178, Or.inl (List.mem_filter.mpr ⟨List.mem_of_getElem? (i := 696) (by decide +kernel), by decide +kernel⟩), (List.mem_filter.mpr ⟨List.mem_of_getElem? (i := 292) (by decide +kernel), by decide +kernel⟩)⟩
theorem lkRX1_50 : LkS RX1 50 mJ9_max_7cf53 2 := ⟨lb_J9_max_7cf53, Or.inl (List.mem_filter.mpr ⟨List.mem_of_getElem? (i := 701) (by decide +kernel), by decide +kernel⟩), (List.mem_filter.mpr ⟨List.mem_of_getElem? (i := 494) (by decide +kernel), by decide +kernel⟩)⟩
theorem lkRX1_56 : LkS RX1 56 mJ9_min_7cf53 2 := ⟨lb_J9_min_7cf53, Or.inl (List.mem_filter.mpr ⟨List.mem_of_getElem? (i := 706) (by decide +kernel), by decide +kernel⟩), (List.mem_filter.mpr ⟨List.mem_of_getElem? (i := 476) (by decide +kernel), by decide +kernel⟩)⟩
theorem lb_X1_gainOf : LkB mX1_gainOf 2 := ⟨(List.mem_filter.mpr ⟨List.mem_of_getElem? (i := 70) (by decide +kernel), by decide +kernel⟩), (List.mem_filter.mpr ⟨List.mem_of_getElem? (i := 737) (by decide +kernel), by decide +kernel⟩), by decide, by decide, by decide +kernel⟩
theorem lkRX1_59 : LkS RX1 59 mX1_gainOf 2 := ⟨lb_X1_gainOf, Or.inl (List.mem_filter.mpr ⟨List.mem_of_getElem? (i := 735) (by decide +kernel), by decide +kernel⟩), (List.mem_filter.mpr ⟨List.mem_of_getElem? (i := 736) (by decide +kernel), by decide +kernel⟩)⟩
theorem lb_X1_fits : LkB mX1_fits 2 := ⟨(List.mem_filter.mpr ⟨List.mem_of_getElem? (i := 70) (by decide +kernel), by decide +kernel⟩), (List.mem_filter.mpr ⟨List.mem_of_getElem? (i := 741) (by decide +kernel), by decide +kernel⟩), by decide, by decide, by decide +kernel⟩
theorem lkRX1_63 : LkV RX1 63 mX1_fits 2 := ⟨lb_X1_fits, Or.inl (List.mem_filter.mpr ⟨List.mem_of_getElem? (i := 738) (by decide +kernel), by decide +kernel⟩), (List.mem_filter.mpr ⟨List.mem_of_getElem? (i := 740) (by decide +kernel), by decide +kernel⟩), (List.mem_filter.mpr ⟨List.mem_of_getElem? (i := 24) (by decide +kernel), by decide +kernel⟩)⟩
theorem lb_X1_figuresOf : LkB mX1_figuresOf 1 := ⟨(List.mem_filter.mpr ⟨List.mem_of_getElem? (i := 70) (by decide +kernel), by decide +kernel⟩), (List.mem_filter.mpr ⟨List.mem_of_getElem? (i := 748) (by decide +kernel), by decide +kernel⟩), by decide, by decide, by decide +kernel⟩
theorem lkRX1_67 : LkS RX1 67 mX1_figuresOf 1 := ⟨lb_X1_figuresOf, Or.inl (List.mem_filter.mpr ⟨List.mem_of_getElem? (i := 746) (by decide +kernel), by decide +kernel⟩), (List.mem_filter.mpr ⟨List.mem_of_getElem? (i := 747) (by decide +kernel), by decide +kernel⟩)⟩
theorem lkRX2_22 : LkV RX2 22 mX4_copyFrom 1 := ⟨lb_X4_copyFrom, Or.inl (List.mem_filter.mpr ⟨List.mem_of_getElem? (i := 572) (by decide +kernel), by decide +kernel⟩), (List.mem_filter.mpr ⟨List.mem_of_getElem? (i := 573) (by decide +kernel), by decide +kernel⟩), (List.mem_filter.mpr ⟨List.mem_of_getElem? (i := 574) (by decide +kernel), by decide +kernel⟩)⟩
theorem lkRX2_29 : LkS RX2 29 mJ9_min_7cf53 2 := ⟨lb_J9_min_7cf53, Or.inl (List.mem_filter.mpr ⟨List.mem_of_getElem? (i := 576) (by decide +kernel), by decide +kernel⟩), (List.mem_filter.mpr ⟨List.mem_of_getElem? (i := 476) (by decide +kernel), by decide +kernel⟩)⟩
theorem lb_X3_countFewest : LkB mX3_countFewest 4 := ⟨(List.mem_filter.mpr ⟨List.mem_of_getElem? (i := 69) (by decide +kernel), by decide +kernel⟩), (List.mem_filter.mpr ⟨List.mem_of_getElem? (i := 626) (by decide +kernel), by decide +kernel⟩), by decide, by decide, by decide +kernel⟩
theorem lkRX3_18 : LkS RX3 18 mX3_countFewest 4 := ⟨lb_X3_countFewest, Or.inl (List.mem_filter.mpr ⟨List.mem_of_getElem? (i := 624) (by decide +kernel), by decide +kernel⟩), (List.mem_filter.mpr ⟨List.mem_of_getElem? (i := 625) (by decide +kernel), by decide +kernel⟩)⟩
theorem lkRX3_29 : LkS RX3 29 mJ9_min_7cf53 2 := ⟨lb_J9_min_7cf53, Or.inl (List.mem_filter.mpr ⟨List.mem_of_getElem? (i := 628) (by decide +kernel), by decide +kernel⟩), (List.mem_filter.mpr ⟨List.mem_of_getElem? (i := 476) (by decide +kernel), by decide +kernel⟩)⟩
theorem lb_X3_firstWay : LkB mX3_firstWay 5 := ⟨(List.mem_filter.mpr ⟨List.mem_of_getElem? (i := 69) (by decide +kernel), by decide +kernel⟩), (List.mem_filter.mpr ⟨List.mem_of_getElem? (i := 638) (by decide +kernel), by decide +kernel⟩), by decide, by decide, by decide +kernel⟩
theorem lkRX3_41 : LkS RX3 41 mX3_firstWay 5 := ⟨lb_X3_firstWay, Or.inl (List.mem_filter.mpr ⟨List.mem_of_getElem? (i := 636) (by decide +kernel), by decide +kernel⟩), (List.mem_filter.mpr ⟨List.mem_of_getElem? (i := 637) (by decide +kernel), by decide +kernel⟩)⟩
theorem lb_X3_figureOf : LkB mX3_figureOf 2 := ⟨(List.mem_filter.mpr ⟨List.mem_of_getElem? (i := 69) (by decide +kernel), by decide +kernel⟩), (List.mem_filter.mpr ⟨List.mem_of_getElem? (i := 642) (by decide +kernel), by decide +kernel⟩), by decide, by decide, by decide +kernel⟩
theorem lkRX3_45 : LkS RX3 45 mX3_figureOf 2 := ⟨lb_X3_figureOf, Or.inl (List.mem_filter.mpr ⟨List.mem_of_getElem? (i := 640) (by decide +kernel), by decide +kernel⟩), (List.mem_filter.mpr ⟨List.mem_of_getElem? (i := 641) (by decide +kernel), by decide +kernel⟩)⟩
theorem lkRX3_48 : LkS RX3 48 mJ7_fill_53178 2 := ⟨lb_J7_fill_53178, Or.inl (List.mem_filter.mpr ⟨List.mem_of_getElem? (i := 627) (by decide +kernel), by decide +kernel⟩), (List.mem_filter.mpr ⟨List.mem_of_getElem? (i := 292) (by decide +kernel), by decide +kernel⟩)⟩
theorem lb_X3_offerBundle : LkB mX3_offerBundle 4 := ⟨(List.mem_filter.mpr ⟨List.mem_of_getElem? (i := 69) (by decide +kernel), by decide +kernel⟩), (List.mem_filter.mpr ⟨List.mem_of_getElem? (i := 631) (by decide +kernel), by decide +kernel⟩), by decide, by decide, by decide +kernel⟩
theorem lkRX3_54 : LkS RX3 54 mX3_offerBundle 4 := ⟨lb_X3_offerBundle, Or.inl (List.mem_filter.mpr ⟨List.mem_of_getElem? (i := 629) (by decide +kernel), by decide +kernel⟩), (List.mem_filter.mpr ⟨List.mem_of_getElem? (i := 630) (by decide +kernel), by decide +kernel⟩)⟩
theorem lkRX3_58 : LkS RX3 58 mX8_within 3 := ⟨lb_X8_within, Or.inr ⟨"UnsaidScales", (List.mem_of_getElem? (i := 639) (by decide +kernel))⟩, (List.mem_filter.mpr ⟨List.mem_of_getElem? (i := 316) (by decide +kernel), by decide +kernel⟩)⟩
theorem lkRX4_33 : LkS RX4 33 mJ9_min_7cf53 2 := ⟨lb_J9_min_7cf53, Or.inl (List.mem_filter.mpr ⟨List.mem_of_getElem? (i := 581) (by decide +kernel), by decide +kernel⟩), (List.mem_filter.mpr ⟨List.mem_of_getElem? (i := 476) (by decide +kernel), by decide +kernel⟩)⟩
theorem lb_X5_countOrders : LkB mX5_countOrders 1 := ⟨(List.mem_filter.mpr ⟨List.mem_of_getElem? (i := 67) (by decide +kernel), by decide +kernel⟩), (List.mem_filter.mpr ⟨List.mem_of_getElem? (i := 518) (by decide +kernel), by decide +kernel⟩), by decide, by decide, by decide +kernel⟩
theorem lkRX5_26 : LkV RX5 26 mX5_countOrders 1 := ⟨lb_X5_countOrders, Or.inl (List.mem_filter.mpr ⟨List.mem_of_getElem? (i := 515) (by decide +kernel), by decide +kernel⟩), (List.mem_filter.mpr ⟨List.mem_of_getElem? (i := 517) (by decide +kernel), by decide +kernel⟩), (List.mem_filter.mpr ⟨List.mem_of_getElem? (i := 17) (by decide +kernel), by decide +kernel⟩)⟩
theorem lb_X5_leastBehind : LkB mX5_leastBehind 1 := ⟨(List.mem_filter.mpr ⟨List.mem_of_getElem? (i := 67) (by decide +kernel), by decide +kernel⟩), (List.mem_filter.mpr ⟨List.mem_of_getElem? (i := 542) (by decide +kernel), by decide +kernel⟩), by decide, by decide, by decide +kernel⟩
theorem lkRX5_30 : LkV RX5 30 mX5_leastBehind 1 := ⟨lb_X5_leastBehind, Or.inl (List.mem_filter.mpr ⟨List.mem_of_getElem? (i := 539) (by decide +kernel), by decide +kernel⟩), (List.mem_filter.mpr ⟨List.mem_of_getElem? (i := 541) (by decide +kernel), by decide +kernel⟩), (List.mem_filter.mpr ⟨List.mem_of_getElem? (i := 20) (by decide +kernel), by decide +kernel⟩)⟩
theorem lkRX5_33 : LkV RX5 33 mX5_worstOf 1 := ⟨lb_X5_worstOf, Or.inl (List.mem_filter.mpr ⟨List.mem_of_getElem? (i := 547) (by decide +kernel), by decide +kernel⟩), (List.mem_filter.mpr ⟨List.mem_of_getElem? (i := 548) (by decide +kernel), by decide +kernel⟩), (List.mem_filter.mpr ⟨List.mem_of_getElem? (i := 549) (by decide +kernel), by decide +kernel⟩)⟩
theorem lkRX5_36 : LkS RX5 36 mX8_pairOf 2 := ⟨lb_X8_pairOf, Or.inr ⟨"UnsaidScales", (List.mem_of_getElem? (i := 559) (by decide +kernel))⟩, (List.mem_filter.mpr ⟨List.mem_of_getElem? (i := 491) (by decide +kernel), by decide +kernel⟩)⟩
theorem lkRX5_40 : LkS RX5 40 mX8_foundOf 2 := ⟨lb_X8_foundOf, Or.inr ⟨"UnsaidScales", (List.mem_of_getElem? (i := 519) (by decide +kernel))⟩, (List.mem_filter.mpr ⟨List.mem_of_getElem? (i := 497) (by decide +kernel), by decide +kernel⟩)⟩
theorem lb_X5_worstBehind : LkB mX5_worstBehind 2 := ⟨(List.mem_filter.mpr ⟨List.mem_of_getElem? (i := 67) (by decide +kernel), by decide +kernel⟩), (List.mem_filter.mpr ⟨List.mem_of_getElem? (i := 546) (by decide +kernel), by decide +kernel⟩), by decide, by decide, by decide +kernel⟩
theorem lkRX5_43 : LkV RX5 43 mX5_worstBehind 2 := ⟨lb_X5_worstBehind, Or.inl (List.mem_filter.mpr ⟨List.mem_of_getElem? (i := 543) (by decide +kernel), by decide +kernel⟩), (List.mem_filter.mpr ⟨List.mem_of_getElem? (i := 545) (by decide +kernel), by decide +kernel⟩), (List.mem_filter.mpr ⟨List.mem_of_getElem? (i := 21) (by decide +kernel), by decide +kernel⟩)⟩
theorem lkRX5_46 : LkS RX5 46 mX8_withFound 3 := ⟨lb_X8_withFound, Or.inr ⟨"UnsaidScales", (List.mem_of_getElem? (i := 520) (by decide +kernel))⟩, (List.mem_filter.mpr ⟨List.mem_of_getElem? (i := 521) (by decide +kernel), by decide +kernel⟩)⟩
theorem lkRX5_50 : LkV RX5 50 mX5_ordersLeft 1 := ⟨lb_X5_ordersLeft, Or.inl (List.mem_filter.mpr ⟨List.mem_of_getElem? (i := 523) (by decide +kernel), by decide +kernel⟩), (List.mem_filter.mpr ⟨List.mem_of_getElem? (i := 524) (by decide +kernel), by decide +kernel⟩), (List.mem_filter.mpr ⟨List.mem_of_getElem? (i := 525) (by decide +kernel), by decide +kernel⟩)⟩
theorem lb_X5_isOrder : LkB mX5_isOrder 1 := ⟨(List.mem_filter.mpr ⟨List.mem_of_getElem? (i := 67) (by decide +kernel), by decide +kernel⟩), (List.mem_filter.mpr ⟨List.mem_of_getElem? (i := 530) (by decide +kernel), by decide +kernel⟩), by decide, by decide, by decide +kernel⟩
theorem lkRX5_53 : LkV RX5 53 mX5_isOrder 1 := ⟨lb_X5_isOrder, Or.inl (List.mem_filter.mpr ⟨List.mem_of_getElem? (i := 527) (by decide +kernel), by decide +kernel⟩), (List.mem_filter.mpr ⟨List.mem_of_getElem? (i := 529) (by decide +kernel), by decide +kernel⟩), (List.mem_filter.mpr ⟨List.mem_of_getElem? (i := 18) (by decide +kernel), by decide +kernel⟩)⟩
theorem lkRX5_57 : LkS RX5 57 mJ9_min_7cf53 2 := ⟨lb_J9_min_7cf53, Or.inl (List.mem_filter.mpr ⟨List.mem_of_getElem? (i := 552) (by decide +kernel), by decide +kernel⟩), (List.mem_filter.mpr ⟨List.mem_of_getElem? (i := 476) (by decide +kernel), by decide +kernel⟩)⟩
theorem lkRX5_62 : LkS RX5 62 mJ9_max_7cf53 2 := ⟨lb_J9_max_7cf53, Or.inl (List.mem_filter.mpr ⟨List.mem_of_getElem? (i := 551) (by decide +kernel), by decide +kernel⟩), (List.mem_filter.mpr ⟨List.mem_of_getElem? (i := 494) (by decide +kernel), by decide +kernel⟩)⟩
theorem lb_X5_countHeavierOnes : LkB mX5_countHeavierOnes 1 := ⟨(List.mem_filter.mpr ⟨List.mem_of_getElem? (i := 67) (by decide +kernel), by decide +kernel⟩), (List.mem_filter.mpr ⟨List.mem_of_getElem? (i := 534) (by decide +kernel), by decide +kernel⟩), by decide, by decide, by decide +kernel⟩
theorem lkRX5_65 : LkV RX5 65 mX5_countHeavierOnes 1 := ⟨lb_X5_countHeavierOnes, Or.inl (List.mem_filter.mpr ⟨List.mem_of_getElem? (i := 531) (by decide +kernel), by decide +kernel⟩), (List.mem_filter.mpr ⟨List.mem_of_getElem? (i := 533) (by decide +kernel), by decide +kernel⟩), (List.mem_filter.mpr ⟨List.mem_of_getElem? (i := 19) (by decide +kernel), by decide +kernel⟩)⟩
theorem lb_X5_dueFinding : LkB mX5_dueFinding 2 := ⟨(List.mem_filter.mpr ⟨List.mem_of_getElem? (i := 67) (by decide +kernel), by decide +kernel⟩), (List.mem_filter.mpr ⟨List.mem_of_getElem? (i := 538) (by decide +kernel), by decide +kernel⟩), by decide, by decide, by decide +kernel⟩
theorem lkRX5_69 : LkS RX5 69 mX5_dueFinding 2 := ⟨lb_X5_dueFinding, Or.inl (List.mem_filter.mpr ⟨List.mem_of_getElem? (i := 536) (by decide +kernel), by decide +kernel⟩), (List.mem_filter.mpr ⟨List.mem_of_getElem? (i := 537) (by decide +kernel), by decide +kernel⟩)⟩
theorem lkRX5_72 : LkS RX5 72 mJ7_fill_53178 2 := ⟨lb_J7_fill_53178, Or.inl (List.mem_filter.mpr ⟨List.mem_of_getElem? (i := 535) (by decide +kernel), by decide +kernel⟩), (List.mem_filter.mpr ⟨List.mem_of_getElem? (i := 292) (by decide +kernel), by decide +kernel⟩)⟩
theorem lb_X7_makeEmpty : LkB mX7_makeEmpty 0 := ⟨(List.mem_filter.mpr ⟨List.mem_of_getElem? (i := 64) (by decide +kernel), by decide +kernel⟩), (List.mem_filter.mpr ⟨List.mem_of_getElem? (i := 285) (by decide +kernel), by decide +kernel⟩), by decide, by decide, by decide +kernel⟩
theorem lkRX6_22 : LkV RX6 22 mX7_makeEmpty 0 := ⟨lb_X7_makeEmpty, Or.inl (List.mem_filter.mpr ⟨List.mem_of_getElem? (i := 398) (by decide +kernel), by decide +kernel⟩), (List.mem_filter.mpr ⟨List.mem_of_getElem? (i := 283) (by decide +kernel), by decide +kernel⟩), (List.mem_filter.mpr ⟨List.mem_of_getElem? (i := 284) (by decide +kernel), by decide +kernel⟩)⟩
theorem lb_X6_skipBlanks : LkB mX6_skipBlanks 0 := ⟨(List.mem_filter.mpr ⟨List.mem_of_getElem? (i := 63) (by decide +kernel), by decide +kernel⟩), (List.mem_filter.mpr ⟨List.mem_of_getElem? (i := 402) (by decide +kernel), by decide +kernel⟩), by decide, by decide, by decide +kernel⟩
theorem lkRX6_30 : LkV RX6 30 mX6_skipBlanks 0 := ⟨lb_X6_skipBlanks, Or.inl (List.mem_filter.mpr ⟨List.mem_of_getElem? (i := 399) (by decide +kernel), by decide +kernel⟩), (List.mem_filter.mpr ⟨List.mem_of_getElem? (i := 401) (by decide +kernel), by decide +kernel⟩), (List.mem_filter.mpr ⟨List.mem_of_getElem? (i := 2) (by decide +kernel), by decide +kernel⟩)⟩
theorem lkRX6_33 : LkV RX6 33 mX6_hasFault 0 := ⟨lb_X6_hasFault, Or.inl (List.mem_filter.mpr ⟨List.mem_of_getElem? (i := 403) (by decide +kernel), by decide +kernel⟩), (List.mem_filter.mpr ⟨List.mem_of_getElem? (i := 404) (by decide +kernel), by decide +kernel⟩), (List.mem_filter.mpr ⟨List.mem_of_getElem? (i := 405) (by decide +kernel), by decide +kernel⟩)⟩
theorem lb_X6_readItem : LkB mX6_readItem 1 := ⟨(List.mem_filter.mpr ⟨List.mem_of_getElem? (i := 63) (by decide +kernel), by decide +kernel⟩), (List.mem_filter.mpr ⟨List.mem_of_getElem? (i := 410) (by decide +kernel), by decide +kernel⟩), by decide, by decide, by decide +kernel⟩
theorem lkRX6_37 : LkV RX6 37 mX6_readItem 1 := ⟨lb_X6_readItem, Or.inl (List.mem_filter.mpr ⟨List.mem_of_getElem? (i := 407) (by decide +kernel), by decide +kernel⟩), (List.mem_filter.mpr ⟨List.mem_of_getElem? (i := 409) (by decide +kernel), by decide +kernel⟩), (List.mem_filter.mpr ⟨List.mem_of_getElem? (i := 3) (by decide +kernel), by decide +kernel⟩)⟩
theorem lb_X6_readWeight : LkB mX6_readWeight 1 := ⟨(List.mem_filter.mpr ⟨List.mem_of_getElem? (i := 63) (by decide +kernel), by decide +kernel⟩), (List.mem_filter.mpr ⟨List.mem_of_getElem? (i := 414) (by decide +kernel), by decide +kernel⟩), by decide, by decide, by decide +kernel⟩
theorem lkRX6_47 : LkV RX6 47 mX6_readWeight 1 := ⟨lb_X6_readWeight, Or.inl (List.mem_filter.mpr ⟨List.mem_of_getElem? (i := 411) (by decide +kernel), by decide +kernel⟩), (List.mem_filter.mpr ⟨List.mem_of_getElem? (i := 413) (by decide +kernel), by decide +kernel⟩), (List.mem_filter.mpr ⟨List.mem_of_getElem? (i := 4) (by decide +kernel), by decide +kernel⟩)⟩
theorem lb_X6_readPerson : LkB mX6_readPerson 1 := ⟨(List.mem_filter.mpr ⟨List.mem_of_getElem? (i := 63) (by decide +kernel), by decide +kernel⟩), (List.mem_filter.mpr ⟨List.mem_of_getElem? (i := 430) (by decide +kernel), by decide +kernel⟩), by decide, by decide, by decide +kernel⟩
theorem lkRX6_50 : LkV RX6 50 mX6_readPerson 1 := ⟨lb_X6_readPerson, Or.inl (List.mem_filter.mpr ⟨List.mem_of_getElem? (i := 427) (by decide +kernel), by decide +kernel⟩), (List.mem_filter.mpr ⟨List.mem_of_getElem? (i := 429) (by decide +kernel), by decide +kernel⟩), (List.mem_filter.mpr ⟨List.mem_of_getElem? (i := 7) (by decide +kernel), by decide +kernel⟩)⟩
theorem lb_X6_readGrowth : LkB mX6_readGrowth 1 := ⟨(List.mem_filter.mpr ⟨List.mem_of_getElem? (i := 63) (by decide +kernel), by decide +kernel⟩), (List.mem_filter.mpr ⟨List.mem_of_getElem? (i := 434) (by decide +kernel), by decide +kernel⟩), by decide, by decide, by decide +kernel⟩
theorem lkRX6_53 : LkV RX6 53 mX6_readGrowth 1 := ⟨lb_X6_readGrowth, Or.inl (List.mem_filter.mpr ⟨List.mem_of_getElem? (i := 431) (by decide +kernel), by decide +kernel⟩), (List.mem_filter.mpr ⟨List.mem_of_getElem? (i := 433) (by decide +kernel), by decide +kernel⟩), (List.mem_filter.mpr ⟨List.mem_of_getElem? (i := 8) (by decide +kernel), by decide +kernel⟩)⟩
theorem lb_X6_readPiece : LkB mX6_readPiece 1 := ⟨(List.mem_filter.mpr ⟨List.mem_of_getElem? (i := 63) (by decide +kernel), by decide +kernel⟩), (List.mem_filter.mpr ⟨List.mem_of_getElem? (i := 438) (by decide +kernel), by decide +kernel⟩), by decide, by decide, by decide +kernel⟩
theorem lkRX6_56 : LkV RX6 56 mX6_readPiece 1 := ⟨lb_X6_readPiece, Or.inl (List.mem_filter.mpr ⟨List.mem_of_getElem? (i := 435) (by decide +kernel), by decide +kernel⟩), (List.mem_filter.mpr ⟨List.mem_of_getElem? (i := 437) (by decide +kernel), by decide +kernel⟩), (List.mem_filter.mpr ⟨List.mem_of_getElem? (i := 9) (by decide +kernel), by decide +kernel⟩)⟩
theorem lb_X6_readNumber : LkB mX6_readNumber 2 := ⟨(List.mem_filter.mpr ⟨List.mem_of_getElem? (i := 63) (by decide +kernel), by decide +kernel⟩), (List.mem_filter.mpr ⟨List.mem_of_getElem? (i := 418) (by decide +kernel), by decide +kernel⟩), by decide, by decide, by decide +kernel⟩
theorem lkRX6_59 : LkV RX6 59 mX6_readNumber 2 := ⟨lb_X6_readNumber, Or.inl (List.mem_filter.mpr ⟨List.mem_of_getElem? (i := 415) (by decide +kernel), by decide +kernel⟩), (List.mem_filter.mpr ⟨List.mem_of_getElem? (i := 417) (by decide +kernel), by decide +kernel⟩), (List.mem_filter.mpr ⟨List.mem_of_getElem? (i := 5) (by decide +kernel), by decide +kernel⟩)⟩
theorem lb_X6_readEnd : LkB mX6_readEnd 0 := ⟨(List.mem_filter.mpr ⟨List.mem_of_getElem? (i := 63) (by decide +kernel), by decide +kernel⟩), (List.mem_filter.mpr ⟨List.mem_of_getElem? (i := 426) (by decide +kernel), by decide +kernel⟩), by decide, by decide, by decide +kernel⟩
theorem lkRX6_63 : LkV RX6 63 mX6_readEnd 0 := ⟨lb_X6_readEnd, Or.inl (List.mem_filter.mpr ⟨List.mem_of_getElem? (i := 423) (by decide +kernel), by decide +kernel⟩), (List.mem_filter.mpr ⟨List.mem_of_getElem? (i := 425) (by decide +kernel), by decide +kernel⟩), (List.mem_filter.mpr ⟨List.mem_of_getElem? (i := 6) (by decide +kernel), by decide +kernel⟩)⟩
theorem lb_X6_isFigure : LkB mX6_isFigure 1 := ⟨(List.mem_filter.mpr ⟨List.mem_of_getElem? (i := 63) (by decide +kernel), by decide +kernel⟩), (List.mem_filter.mpr ⟨List.mem_of_getElem? (i := 421) (by decide +kernel), by decide +kernel⟩), by decide, by decide, by decide +kernel⟩
theorem lkRX6_79 : LkS RX6 79 mX6_isFigure 1 := ⟨lb_X6_isFigure, Or.inl (List.mem_filter.mpr ⟨List.mem_of_getElem? (i := 419) (by decide +kernel), by decide +kernel⟩), (List.mem_filter.mpr ⟨List.mem_of_getElem? (i := 420) (by decide +kernel), by decide +kernel⟩)⟩
theorem lkRX6_83 : LkS RX6 83 mX8_within 3 := ⟨lb_X8_within, Or.inr ⟨"UnsaidScales", (List.mem_of_getElem? (i := 422) (by decide +kernel))⟩, (List.mem_filter.mpr ⟨List.mem_of_getElem? (i := 316) (by decide +kernel), by decide +kernel⟩)⟩
theorem lkRX7_33 : LkS RX7 33 mJ7_fill_53178 2 := ⟨lb_J7_fill_53178, Or.inl (List.mem_filter.mpr ⟨List.mem_of_getElem? (i := 291) (by decide +kernel), by decide +kernel⟩), (List.mem_filter.mpr ⟨List.mem_of_getElem? (i := 292) (by decide +kernel), by decide +kernel⟩)⟩
theorem lb_X9_begins : LkB mX9_begins 0 := ⟨(List.mem_filter.mpr ⟨List.mem_of_getElem? (i := 74) (by decide +kernel), by decide +kernel⟩), (List.mem_filter.mpr ⟨List.mem_of_getElem? (i := 816) (by decide +kernel), by decide +kernel⟩), by decide, by decide, by decide +kernel⟩
theorem lkRX9_71 : LkV RX9 71 mX9_begins 0 := ⟨lb_X9_begins, Or.inl (List.mem_filter.mpr ⟨List.mem_of_getElem? (i := 813) (by decide +kernel), by decide +kernel⟩), (List.mem_filter.mpr ⟨List.mem_of_getElem? (i := 815) (by decide +kernel), by decide +kernel⟩), (List.mem_filter.mpr ⟨List.mem_of_getElem? (i := 31) (by decide +kernel), by decide +kernel⟩)⟩
theorem lb_X9_settles : LkB mX9_settles 0 := ⟨(List.mem_filter.mpr ⟨List.mem_of_getElem? (i := 74) (by decide +kernel), by decide +kernel⟩), (List.mem_filter.mpr ⟨List.mem_of_getElem? (i := 820) (by decide +kernel), by decide +kernel⟩), by decide, by decide, by decide +kernel⟩
theorem lkRX9_74 : LkV RX9 74 mX9_settles 0 := ⟨lb_X9_settles, Or.inl (List.mem_filter.mpr ⟨List.mem_of_getElem? (i := 817) (by decide +kernel), by decide +kernel⟩), (List.mem_filter.mpr ⟨List.mem_of_getElem? (i := 819) (by decide +kernel), by decide +kernel⟩), (List.mem_filter.mpr ⟨List.mem_of_getElem? (i := 32) (by decide +kernel), by decide +kernel⟩)⟩
theorem lb_X9_in : LkB mX9_in 3 := ⟨(List.mem_filter.mpr ⟨List.mem_of_getElem? (i := 74) (by decide +kernel), by decide +kernel⟩), (List.mem_filter.mpr ⟨List.mem_of_getElem? (i := 953) (by decide +kernel), by decide +kernel⟩), by decide, by decide, by decide +kernel⟩
theorem lkRX9_81 : LkS RX9 81 mX9_in 3 := ⟨lb_X9_in, Or.inl (List.mem_filter.mpr ⟨List.mem_of_getElem? (i := 951) (by decide +kernel), by decide +kernel⟩), (List.mem_filter.mpr ⟨List.mem_of_getElem? (i := 952) (by decide +kernel), by decide +kernel⟩)⟩
theorem lb_X9_letterAt : LkB mX9_letterAt 1 := ⟨(List.mem_filter.mpr ⟨List.mem_of_getElem? (i := 74) (by decide +kernel), by decide +kernel⟩), (List.mem_filter.mpr ⟨List.mem_of_getElem? (i := 969) (by decide +kernel), by decide +kernel⟩), by decide, by decide, by decide +kernel⟩
theorem lkRX9_91 : LkV RX9 91 mX9_letterAt 1 := ⟨lb_X9_letterAt, Or.inl (List.mem_filter.mpr ⟨List.mem_of_getElem? (i := 966) (by decide +kernel), by decide +kernel⟩), (List.mem_filter.mpr ⟨List.mem_of_getElem? (i := 968) (by decide +kernel), by decide +kernel⟩), (List.mem_filter.mpr ⟨List.mem_of_getElem? (i := 38) (by decide +kernel), by decide +kernel⟩)⟩
theorem lb_X9_isWell : LkB mX9_isWell 0 := ⟨(List.mem_filter.mpr ⟨List.mem_of_getElem? (i := 74) (by decide +kernel), by decide +kernel⟩), (List.mem_filter.mpr ⟨List.mem_of_getElem? (i := 973) (by decide +kernel), by decide +kernel⟩), by decide, by decide, by decide +kernel⟩
theorem lkRX9_107 : LkV RX9 107 mX9_isWell 0 := ⟨lb_X9_isWell, Or.inl (List.mem_filter.mpr ⟨List.mem_of_getElem? (i := 970) (by decide +kernel), by decide +kernel⟩), (List.mem_filter.mpr ⟨List.mem_of_getElem? (i := 972) (by decide +kernel), by decide +kernel⟩), (List.mem_filter.mpr ⟨List.mem_of_getElem? (i := 39) (by decide +kernel), by decide +kernel⟩)⟩
theorem lb_X9_advances : LkB mX9_advances 0 := ⟨(List.mem_filter.mpr ⟨List.mem_of_getElem? (i := 74) (by decide +kernel), by decide +kernel⟩), (List.mem_filter.mpr ⟨List.mem_of_getElem? (i := 965) (by decide +kernel), by decide +kernel⟩), by decide, by decide, by decide +kernel⟩
theorem lkRX9_111 : LkV RX9 111 mX9_advances 0 := ⟨lb_X9_advances, Or.inl (List.mem_filter.mpr ⟨List.mem_of_getElem? (i := 962) (by decide +kernel), by decide +kernel⟩), (List.mem_filter.mpr ⟨List.mem_of_getElem? (i := 964) (by decide +kernel), by decide +kernel⟩), (List.mem_filter.mpr ⟨List.mem_of_getElem? (i := 37) (by decide +kernel), by decide +kernel⟩)⟩
theorem lb_X9_takes : LkB mX9_takes 1 := ⟨(List.mem_filter.mpr ⟨List.mem_of_getElem? (i := 74) (by decide +kernel), by decide +kernel⟩), (List.mem_filter.mpr ⟨List.mem_of_getElem? (i := 981) (by decide +kernel), by decide +kernel⟩), by decide, by decide, by decide +kernel⟩
theorem lkRX9_114 : LkV RX9 114 mX9_takes 1 := ⟨lb_X9_takes, Or.inl (List.mem_filter.mpr ⟨List.mem_of_getElem? (i := 978) (by decide +kernel), by decide +kernel⟩), (List.mem_filter.mpr ⟨List.mem_of_getElem? (i := 980) (by decide +kernel), by decide +kernel⟩), (List.mem_filter.mpr ⟨List.mem_of_getElem? (i := 41) (by decide +kernel), by decide +kernel⟩)⟩
theorem lb_X9_number : LkB mX9_number 2 := ⟨(List.mem_filter.mpr ⟨List.mem_of_getElem? (i := 74) (by decide +kernel), by decide +kernel⟩), (List.mem_filter.mpr ⟨List.mem_of_getElem? (i := 989) (by decide +kernel), by decide +kernel⟩), by decide, by decide, by decide +kernel⟩
theorem lkRX9_118 : LkV RX9 118 mX9_number 2 := ⟨lb_X9_number, Or.inl (List.mem_filter.mpr ⟨List.mem_of_getElem? (i := 986) (by decide +kernel), by decide +kernel⟩), (List.mem_filter.mpr ⟨List.mem_of_getElem? (i := 988) (by decide +kernel), by decide +kernel⟩), (List.mem_filter.mpr ⟨List.mem_of_getElem? (i := 43) (by decide +kernel), by decide +kernel⟩)⟩
theorem lb_X9_mayBegin : LkB mX9_mayBegin 0 := ⟨(List.mem_filter.mpr ⟨List.mem_of_getElem? (i := 74) (by decide +kernel), by decide +kernel⟩), (List.mem_filter.mpr ⟨List.mem_of_getElem? (i := 977) (by decide +kernel), by decide +kernel⟩), by decide, by decide, by decide +kernel⟩
theorem lkRX9_122 : LkV RX9 122 mX9_mayBegin 0 := ⟨lb_X9_mayBegin, Or.inl (List.mem_filter.mpr ⟨List.mem_of_getElem? (i := 974) (by decide +kernel), by decide +kernel⟩), (List.mem_filter.mpr ⟨List.mem_of_getElem? (i := 976) (by decide +kernel), by decide +kernel⟩), (List.mem_filter.mpr ⟨List.mem_of_getElem? (i := 40) (by decide +kernel), by decide +kernel⟩)⟩
theorem lb_X9_readsItem : LkB mX9_readsItem 1 := ⟨(List.mem_filter.mpr ⟨List.mem_of_getElem? (i := 74) (by decide +kernel), by decide +kernel⟩), (List.mem_filter.mpr ⟨List.mem_of_getElem? (i := 985) (by decide +kernel), by decide +kernel⟩), by decide, by decide, by decide +kernel⟩
theorem lkRX9_125 : LkV RX9 125 mX9_readsItem 1 := ⟨lb_X9_readsItem, Or.inl (List.mem_filter.mpr ⟨List.mem_of_getElem? (i := 982) (by decide +kernel), by decide +kernel⟩), (List.mem_filter.mpr ⟨List.mem_of_getElem? (i := 984) (by decide +kernel), by decide +kernel⟩), (List.mem_filter.mpr ⟨List.mem_of_getElem? (i := 42) (by decide +kernel), by decide +kernel⟩)⟩
theorem lb_X9_orders : LkB mX9_orders 0 := ⟨(List.mem_filter.mpr ⟨List.mem_of_getElem? (i := 74) (by decide +kernel), by decide +kernel⟩), (List.mem_filter.mpr ⟨List.mem_of_getElem? (i := 824) (by decide +kernel), by decide +kernel⟩), by decide, by decide, by decide +kernel⟩
theorem lkRX9_138 : LkV RX9 138 mX9_orders 0 := ⟨lb_X9_orders, Or.inl (List.mem_filter.mpr ⟨List.mem_of_getElem? (i := 821) (by decide +kernel), by decide +kernel⟩), (List.mem_filter.mpr ⟨List.mem_of_getElem? (i := 823) (by decide +kernel), by decide +kernel⟩), (List.mem_filter.mpr ⟨List.mem_of_getElem? (i := 33) (by decide +kernel), by decide +kernel⟩)⟩
theorem lb_X9_worsts : LkB mX9_worsts 0 := ⟨(List.mem_filter.mpr ⟨List.mem_of_getElem? (i := 74) (by decide +kernel), by decide +kernel⟩), (List.mem_filter.mpr ⟨List.mem_of_getElem? (i := 838) (by decide +kernel), by decide +kernel⟩), by decide, by decide, by decide +kernel⟩
theorem lkRX9_140 : LkV RX9 140 mX9_worsts 0 := ⟨lb_X9_worsts, Or.inl (List.mem_filter.mpr ⟨List.mem_of_getElem? (i := 835) (by decide +kernel), by decide +kernel⟩), (List.mem_filter.mpr ⟨List.mem_of_getElem? (i := 837) (by decide +kernel), by decide +kernel⟩), (List.mem_filter.mpr ⟨List.mem_of_getElem? (i := 35) (by decide +kernel), by decide +kernel⟩)⟩
theorem lb_X9_isPerson : LkB mX9_isPerson 1 := ⟨(List.mem_filter.mpr ⟨List.mem_of_getElem? (i := 74) (by decide +kernel), by decide +kernel⟩), (List.mem_filter.mpr ⟨List.mem_of_getElem? (i := 997) (by decide +kernel), by decide +kernel⟩), by decide, by decide, by decide +kernel⟩
theorem lkRX9_143 : LkV RX9 143 mX9_isPerson 1 := ⟨lb_X9_isPerson, Or.inl (List.mem_filter.mpr ⟨List.mem_of_getElem? (i := 994) (by decide +kernel), by decide +kernel⟩), (List.mem_filter.mpr ⟨List.mem_of_getElem? (i := 996) (by decide +kernel), by decide +kernel⟩), (List.mem_filter.mpr ⟨List.mem_of_getElem? (i := 44) (by decide +kernel), by decide +kernel⟩)⟩
theorem lb_X9_isSort : LkB mX9_isSort 1 := ⟨(List.mem_filter.mpr ⟨List.mem_of_getElem? (i := 74) (by decide +kernel), by decide +kernel⟩), (List.mem_filter.mpr ⟨List.mem_of_getElem? (i := 1000) (by decide +kernel), by decide +kernel⟩), by decide, by decide, by decide +kernel⟩
theorem lkRX9_147 : LkS RX9 147 mX9_isSort 1 := ⟨lb_X9_isSort, Or.inl (List.mem_filter.mpr ⟨List.mem_of_getElem? (i := 998) (by decide +kernel), by decide +kernel⟩), (List.mem_filter.mpr ⟨List.mem_of_getElem? (i := 999) (by decide +kernel), by decide +kernel⟩)⟩
theorem lb_X9_heaviness : LkB mX9_heaviness 1 := ⟨(List.mem_filter.mpr ⟨List.mem_of_getElem? (i := 74) (by decide +kernel), by decide +kernel⟩), (List.mem_filter.mpr ⟨List.mem_of_getElem? (i := 1016) (by decide +kernel), by decide +kernel⟩), by decide, by decide, by decide +kernel⟩
theorem lkRX9_150 : LkV RX9 150 mX9_heaviness 1 := ⟨lb_X9_heaviness, Or.inl (List.mem_filter.mpr ⟨List.mem_of_getElem? (i := 1013) (by decide +kernel), by decide +kernel⟩), (List.mem_filter.mpr ⟨List.mem_of_getElem? (i := 1015) (by decide +kernel), by decide +kernel⟩), (List.mem_filter.mpr ⟨List.mem_of_getElem? (i := 45) (by decide +kernel), by decide +kernel⟩)⟩
theorem lb_X9_upperOf : LkB mX9_upperOf 1 := ⟨(List.mem_filter.mpr ⟨List.mem_of_getElem? (i := 74) (by decide +kernel), by decide +kernel⟩), (List.mem_filter.mpr ⟨List.mem_of_getElem? (i := 830) (by decide +kernel), by decide +kernel⟩), by decide, by decide, by decide +kernel⟩
theorem lkRX9_153 : LkS RX9 153 mX9_upperOf 1 := ⟨lb_X9_upperOf, Or.inl (List.mem_filter.mpr ⟨List.mem_of_getElem? (i := 828) (by decide +kernel), by decide +kernel⟩), (List.mem_filter.mpr ⟨List.mem_of_getElem? (i := 829) (by decide +kernel), by decide +kernel⟩)⟩
theorem lb_X9_isPair : LkB mX9_isPair 2 := ⟨(List.mem_filter.mpr ⟨List.mem_of_getElem? (i := 74) (by decide +kernel), by decide +kernel⟩), (List.mem_filter.mpr ⟨List.mem_of_getElem? (i := 1024) (by decide +kernel), by decide +kernel⟩), by decide, by decide, by decide +kernel⟩
theorem lkRX9_156 : LkV RX9 156 mX9_isPair 2 := ⟨lb_X9_isPair, Or.inl (List.mem_filter.mpr ⟨List.mem_of_getElem? (i := 1021) (by decide +kernel), by decide +kernel⟩), (List.mem_filter.mpr ⟨List.mem_of_getElem? (i := 1023) (by decide +kernel), by decide +kernel⟩), (List.mem_filter.mpr ⟨List.mem_of_getElem? (i := 46) (by decide +kernel), by decide +kernel⟩)⟩
theorem lb_X9_pairOf : LkB mX9_pairOf 2 := ⟨(List.mem_filter.mpr ⟨List.mem_of_getElem? (i := 74) (by decide +kernel), by decide +kernel⟩), (List.mem_filter.mpr ⟨List.mem_of_getElem? (i := 1027) (by decide +kernel), by decide +kernel⟩), by decide, by decide, by decide +kernel⟩
theorem lkRX9_160 : LkS RX9 160 mX9_pairOf 2 := ⟨lb_X9_pairOf, Or.inl (List.mem_filter.mpr ⟨List.mem_of_getElem? (i := 1025) (by decide +kernel), by decide +kernel⟩), (List.mem_filter.mpr ⟨List.mem_of_getElem? (i := 1026) (by decide +kernel), by decide +kernel⟩)⟩
theorem lb_X9_turned : LkB mX9_turned 1 := ⟨(List.mem_filter.mpr ⟨List.mem_of_getElem? (i := 74) (by decide +kernel), by decide +kernel⟩), (List.mem_filter.mpr ⟨List.mem_of_getElem? (i := 1030) (by decide +kernel), by decide +kernel⟩), by decide, by decide, by decide +kernel⟩
theorem lkRX9_163 : LkS RX9 163 mX9_turned 1 := ⟨lb_X9_turned, Or.inl (List.mem_filter.mpr ⟨List.mem_of_getElem? (i := 1028) (by decide +kernel), by decide +kernel⟩), (List.mem_filter.mpr ⟨List.mem_of_getElem? (i := 1029) (by decide +kernel), by decide +kernel⟩)⟩
theorem lb_X9_lowerOf : LkB mX9_lowerOf 1 := ⟨(List.mem_filter.mpr ⟨List.mem_of_getElem? (i := 74) (by decide +kernel), by decide +kernel⟩), (List.mem_filter.mpr ⟨List.mem_of_getElem? (i := 827) (by decide +kernel), by decide +kernel⟩), by decide, by decide, by decide +kernel⟩
theorem lkRX9_169 : LkS RX9 169 mX9_lowerOf 1 := ⟨lb_X9_lowerOf, Or.inl (List.mem_filter.mpr ⟨List.mem_of_getElem? (i := 825) (by decide +kernel), by decide +kernel⟩), (List.mem_filter.mpr ⟨List.mem_of_getElem? (i := 826) (by decide +kernel), by decide +kernel⟩)⟩
theorem lb_X9_isPairNumber : LkB mX9_isPairNumber 1 := ⟨(List.mem_filter.mpr ⟨List.mem_of_getElem? (i := 74) (by decide +kernel), by decide +kernel⟩), (List.mem_filter.mpr ⟨List.mem_of_getElem? (i := 834) (by decide +kernel), by decide +kernel⟩), by decide, by decide, by decide +kernel⟩
theorem lkRX9_172 : LkV RX9 172 mX9_isPairNumber 1 := ⟨lb_X9_isPairNumber, Or.inl (List.mem_filter.mpr ⟨List.mem_of_getElem? (i := 831) (by decide +kernel), by decide +kernel⟩), (List.mem_filter.mpr ⟨List.mem_of_getElem? (i := 833) (by decide +kernel), by decide +kernel⟩), (List.mem_filter.mpr ⟨List.mem_of_getElem? (i := 34) (by decide +kernel), by decide +kernel⟩)⟩
theorem lb_X9_worstBehind : LkB mX9_worstBehind 2 := ⟨(List.mem_filter.mpr ⟨List.mem_of_getElem? (i := 74) (by decide +kernel), by decide +kernel⟩), (List.mem_filter.mpr ⟨List.mem_of_getElem? (i := 843) (by decide +kernel), by decide +kernel⟩), by decide, by decide, by decide +kernel⟩
theorem lkRX9_176 : LkV RX9 176 mX9_worstBehind 2 := ⟨lb_X9_worstBehind, Or.inl (List.mem_filter.mpr ⟨List.mem_of_getElem? (i := 840) (by decide +kernel), by decide +kernel⟩), (List.mem_filter.mpr ⟨List.mem_of_getElem? (i := 842) (by decide +kernel), by decide +kernel⟩), (List.mem_filter.mpr ⟨List.mem_of_getElem? (i := 36) (by decide +kernel), by decide +kernel⟩)⟩
theorem lb_X9_codeNow : LkB mX9_codeNow 0 := ⟨(List.mem_filter.mpr ⟨List.mem_of_getElem? (i := 74) (by decide +kernel), by decide +kernel⟩), (List.mem_filter.mpr ⟨List.mem_of_getElem? (i := 1042) (by decide +kernel), by decide +kernel⟩), by decide, by decide, by decide +kernel⟩
theorem lkRX9_179 : LkV RX9 179 mX9_codeNow 0 := ⟨lb_X9_codeNow, Or.inl (List.mem_filter.mpr ⟨List.mem_of_getElem? (i := 1039) (by decide +kernel), by decide +kernel⟩), (List.mem_filter.mpr ⟨List.mem_of_getElem? (i := 1041) (by decide +kernel), by decide +kernel⟩), (List.mem_filter.mpr ⟨List.mem_of_getElem? (i := 48) (by decide +kernel), by decide +kernel⟩)⟩
theorem lb_X9_sumOf : LkB mX9_sumOf 1 := ⟨(List.mem_filter.mpr ⟨List.mem_of_getElem? (i := 74) (by decide +kernel), by decide +kernel⟩), (List.mem_filter.mpr ⟨List.mem_of_getElem? (i := 1054) (by decide +kernel), by decide +kernel⟩), by decide, by decide, by decide +kernel⟩
theorem lkRX9_183 : LkV RX9 183 mX9_sumOf 1 := ⟨lb_X9_sumOf, Or.inl (List.mem_filter.mpr ⟨List.mem_of_getElem? (i := 1051) (by decide +kernel), by decide +kernel⟩), (List.mem_filter.mpr ⟨List.mem_of_getElem? (i := 1053) (by decide +kernel), by decide +kernel⟩), (List.mem_filter.mpr ⟨List.mem_of_getElem? (i := 51) (by decide +kernel), by decide +kernel⟩)⟩
theorem lb_X9_knownMany : LkB mX9_knownMany 0 := ⟨(List.mem_filter.mpr ⟨List.mem_of_getElem? (i := 74) (by decide +kernel), by decide +kernel⟩), (List.mem_filter.mpr ⟨List.mem_of_getElem? (i := 1038) (by decide +kernel), by decide +kernel⟩), by decide, by decide, by decide +kernel⟩
theorem lkRX9_186 : LkV RX9 186 mX9_knownMany 0 := ⟨lb_X9_knownMany, Or.inl (List.mem_filter.mpr ⟨List.mem_of_getElem? (i := 1035) (by decide +kernel), by decide +kernel⟩), (List.mem_filter.mpr ⟨List.mem_of_getElem? (i := 1037) (by decide +kernel), by decide +kernel⟩), (List.mem_filter.mpr ⟨List.mem_of_getElem? (i := 47) (by decide +kernel), by decide +kernel⟩)⟩
theorem lb_X9_nextPair : LkB mX9_nextPair 0 := ⟨(List.mem_filter.mpr ⟨List.mem_of_getElem? (i := 74) (by decide +kernel), by decide +kernel⟩), (List.mem_filter.mpr ⟨List.mem_of_getElem? (i := 1046) (by decide +kernel), by decide +kernel⟩), by decide, by decide, by decide +kernel⟩
theorem lkRX9_189 : LkV RX9 189 mX9_nextPair 0 := ⟨lb_X9_nextPair, Or.inl (List.mem_filter.mpr ⟨List.mem_of_getElem? (i := 1043) (by decide +kernel), by decide +kernel⟩), (List.mem_filter.mpr ⟨List.mem_of_getElem? (i := 1045) (by decide +kernel), by decide +kernel⟩), (List.mem_filter.mpr ⟨List.mem_of_getElem? (i := 49) (by decide +kernel), by decide +kernel⟩)⟩
theorem lb_X9_range : LkB mX9_range 0 := ⟨(List.mem_filter.mpr ⟨List.mem_of_getElem? (i := 74) (by decide +kernel), by decide +kernel⟩), (List.mem_filter.mpr ⟨List.mem_of_getElem? (i := 1050) (by decide +kernel), by decide +kernel⟩), by decide, by decide, by decide +kernel⟩
theorem lkRX9_192 : LkV RX9 192 mX9_range 0 := ⟨lb_X9_range, Or.inl (List.mem_filter.mpr ⟨List.mem_of_getElem? (i := 1047) (by decide +kernel), by decide +kernel⟩), (List.mem_filter.mpr ⟨List.mem_of_getElem? (i := 1049) (by decide +kernel), by decide +kernel⟩), (List.mem_filter.mpr ⟨List.mem_of_getElem? (i := 50) (by decide +kernel), by decide +kernel⟩)⟩
theorem lb_X9_notes : LkB mX9_notes 0 := ⟨(List.mem_filter.mpr ⟨List.mem_of_getElem? (i := 74) (by decide +kernel), by decide +kernel⟩), (List.mem_filter.mpr ⟨List.mem_of_getElem? (i := 1062) (by decide +kernel), by decide +kernel⟩), by decide, by decide, by decide +kernel⟩
theorem lkRX9_195 : LkV RX9 195 mX9_notes 0 := ⟨lb_X9_notes, Or.inl (List.mem_filter.mpr ⟨List.mem_of_getElem? (i := 1059) (by decide +kernel), by decide +kernel⟩), (List.mem_filter.mpr ⟨List.mem_of_getElem? (i := 1061) (by decide +kernel), by decide +kernel⟩), (List.mem_filter.mpr ⟨List.mem_of_getElem? (i := 52) (by decide +kernel), by decide +kernel⟩)⟩
theorem lb_X9_gets : LkB mX9_gets 3 := ⟨(List.mem_filter.mpr ⟨List.mem_of_getElem? (i := 74) (by decide +kernel), by decide +kernel⟩), (List.mem_filter.mpr ⟨List.mem_of_getElem? (i := 1066) (by decide +kernel), by decide +kernel⟩), by decide, by decide, by decide +kernel⟩
theorem lkRX9_198 : LkV RX9 198 mX9_gets 3 := ⟨lb_X9_gets, Or.inl (List.mem_filter.mpr ⟨List.mem_of_getElem? (i := 1063) (by decide +kernel), by decide +kernel⟩), (List.mem_filter.mpr ⟨List.mem_of_getElem? (i := 1065) (by decide +kernel), by decide +kernel⟩), (List.mem_filter.mpr ⟨List.mem_of_getElem? (i := 53) (by decide +kernel), by decide +kernel⟩)⟩
theorem lb_X9_canSay : LkB mX9_canSay 2 := ⟨(List.mem_filter.mpr ⟨List.mem_of_getElem? (i := 74) (by decide +kernel), by decide +kernel⟩), (List.mem_filter.mpr ⟨List.mem_of_getElem? (i := 1103) (by decide +kernel), by decide +kernel⟩), by decide, by decide, by decide +kernel⟩
theorem lkRX9_203 : LkV RX9 203 mX9_canSay 2 := ⟨lb_X9_canSay, Or.inl (List.mem_filter.mpr ⟨List.mem_of_getElem? (i := 1100) (by decide +kernel), by decide +kernel⟩), (List.mem_filter.mpr ⟨List.mem_of_getElem? (i := 1102) (by decide +kernel), by decide +kernel⟩), (List.mem_filter.mpr ⟨List.mem_of_getElem? (i := 55) (by decide +kernel), by decide +kernel⟩)⟩
theorem lb_X9_weighsOf : LkB mX9_weighsOf 1 := ⟨(List.mem_filter.mpr ⟨List.mem_of_getElem? (i := 74) (by decide +kernel), by decide +kernel⟩), (List.mem_filter.mpr ⟨List.mem_of_getElem? (i := 1107) (by decide +kernel), by decide +kernel⟩), by decide, by decide, by decide +kernel⟩
theorem lkRX9_206 : LkV RX9 206 mX9_weighsOf 1 := ⟨lb_X9_weighsOf, Or.inl (List.mem_filter.mpr ⟨List.mem_of_getElem? (i := 1104) (by decide +kernel), by decide +kernel⟩), (List.mem_filter.mpr ⟨List.mem_of_getElem? (i := 1106) (by decide +kernel), by decide +kernel⟩), (List.mem_filter.mpr ⟨List.mem_of_getElem? (i := 56) (by decide +kernel), by decide +kernel⟩)⟩
theorem lb_X9_sheds : LkB mX9_sheds 2 := ⟨(List.mem_filter.mpr ⟨List.mem_of_getElem? (i := 74) (by decide +kernel), by decide +kernel⟩), (List.mem_filter.mpr ⟨List.mem_of_getElem? (i := 1099) (by decide +kernel), by decide +kernel⟩), by decide, by decide, by decide +kernel⟩
theorem lkRX9_209 : LkV RX9 209 mX9_sheds 2 := ⟨lb_X9_sheds, Or.inl (List.mem_filter.mpr ⟨List.mem_of_getElem? (i := 1096) (by decide +kernel), by decide +kernel⟩), (List.mem_filter.mpr ⟨List.mem_of_getElem? (i := 1098) (by decide +kernel), by decide +kernel⟩), (List.mem_filter.mpr ⟨List.mem_of_getElem? (i := 54) (by decide +kernel), by decide +kernel⟩)⟩
theorem lb_X9_wayOf : LkB mX9_wayOf 3 := ⟨(List.mem_filter.mpr ⟨List.mem_of_getElem? (i := 74) (by decide +kernel), by decide +kernel⟩), (List.mem_filter.mpr ⟨List.mem_of_getElem? (i := 1111) (by decide +kernel), by decide +kernel⟩), by decide, by decide, by decide +kernel⟩
theorem lkRX9_213 : LkV RX9 213 mX9_wayOf 3 := ⟨lb_X9_wayOf, Or.inl (List.mem_filter.mpr ⟨List.mem_of_getElem? (i := 1108) (by decide +kernel), by decide +kernel⟩), (List.mem_filter.mpr ⟨List.mem_of_getElem? (i := 1110) (by decide +kernel), by decide +kernel⟩), (List.mem_filter.mpr ⟨List.mem_of_getElem? (i := 57) (by decide +kernel), by decide +kernel⟩)⟩
theorem lb_X9_heavinessThen : LkB mX9_heavinessThen 2 := ⟨(List.mem_filter.mpr ⟨List.mem_of_getElem? (i := 74) (by decide +kernel), by decide +kernel⟩), (List.mem_filter.mpr ⟨List.mem_of_getElem? (i := 1119) (by decide +kernel), by decide +kernel⟩), by decide, by decide, by decide +kernel⟩
theorem lkRX9_217 : LkV RX9 217 mX9_heavinessThen 2 := ⟨lb_X9_heavinessThen, Or.inl (List.mem_filter.mpr ⟨List.mem_of_getElem? (i := 1116) (by decide +kernel), by decide +kernel⟩), (List.mem_filter.mpr ⟨List.mem_of_getElem? (i := 1118) (by decide +kernel), by decide +kernel⟩), (List.mem_filter.mpr ⟨List.mem_of_getElem? (i := 58) (by decide +kernel), by decide +kernel⟩)⟩
theorem lb_X9_gcd : LkB mX9_gcd 2 := ⟨(List.mem_filter.mpr ⟨List.mem_of_getElem? (i := 74) (by decide +kernel), by decide +kernel⟩), (List.mem_filter.mpr ⟨List.mem_of_getElem? (i := 1128) (by decide +kernel), by decide +kernel⟩), by decide, by decide, by decide +kernel⟩
theorem lkRX9_224 : LkS RX9 224 mX9_gcd 2 := ⟨lb_X9_gcd, Or.inl (List.mem_filter.mpr ⟨List.mem_of_getElem? (i := 1126) (by decide +kernel), by decide +kernel⟩), (List.mem_filter.mpr ⟨List.mem_of_getElem? (i := 1127) (by decide +kernel), by decide +kernel⟩)⟩
theorem lb_X9_pieces : LkB mX9_pieces 1 := ⟨(List.mem_filter.mpr ⟨List.mem_of_getElem? (i := 74) (by decide +kernel), by decide +kernel⟩), (List.mem_filter.mpr ⟨List.mem_of_getElem? (i := 1136) (by decide +kernel), by decide +kernel⟩), by decide, by decide, by decide +kernel⟩
theorem lkRX9_234 : LkV RX9 234 mX9_pieces 1 := ⟨lb_X9_pieces, Or.inl (List.mem_filter.mpr ⟨List.mem_of_getElem? (i := 1133) (by decide +kernel), by decide +kernel⟩), (List.mem_filter.mpr ⟨List.mem_of_getElem? (i := 1135) (by decide +kernel), by decide +kernel⟩), (List.mem_filter.mpr ⟨List.mem_of_getElem? (i := 59) (by decide +kernel), by decide +kernel⟩)⟩
theorem lb_X9_isAsShown : LkB mX9_isAsShown 2 := ⟨(List.mem_filter.mpr ⟨List.mem_of_getElem? (i := 74) (by decide +kernel), by decide +kernel⟩), (List.mem_filter.mpr ⟨List.mem_of_getElem? (i := 1148) (by decide +kernel), by decide +kernel⟩), by decide, by decide, by decide +kernel⟩
theorem lkRX9_237 : LkV RX9 237 mX9_isAsShown 2 := ⟨lb_X9_isAsShown, Or.inl (List.mem_filter.mpr ⟨List.mem_of_getElem? (i := 1145) (by decide +kernel), by decide +kernel⟩), (List.mem_filter.mpr ⟨List.mem_of_getElem? (i := 1147) (by decide +kernel), by decide +kernel⟩), (List.mem_filter.mpr ⟨List.mem_of_getElem? (i := 60) (by decide +kernel), by decide +kernel⟩)⟩
end
section
def wp_X0_weigh_B4 (x0 : Int) (h : aH) (Q : Int → Prop) (X4 : Int × Int → Prop) (x2_4 : Int) (x3_4 : Int) : Prop :=
  inR x3_4 ∧ inR (h 3 5) ∧ (((h 3 5) ≤ x3_4 → Q x2_4) ∧ (¬ (h 3 5) ≤ x3_4 → (inR (band (bshr x0 x3_4) 1) ∧ (((band (bshr x0 x3_4) 1) = 1 → (0 ≤ x3_4 ∧ x3_4 < 5) ∧ True) ∧ (¬ (band (bshr x0 x3_4) 1) = 1 → True))) ∧ X4 ((if (band (bshr x0 x3_4) 1) = 1 then (x2_4 + (h 7 x3_4)) else x2_4 : Int), (x3_4 + 1))))
def wp_X0_weigh (x0 : Int) (h : aH) (Q : Int → Prop) : Prop :=
  lp (fun X y => wp_X0_weigh_B4 x0 h Q X y.1 y.2) (0, 0)
set_option maxRecDepth 100000 in
set_option maxHeartbeats 4000000 in
theorem M_X0_weigh {Γ : Gm} {l : Launch} {n : Nat} {g : aG} (hn : 59 ≤ n) (tg : TC g) (x0 : Int)  {h : aH} {Q : Int → Prop} (hw : wp_X0_weigh x0 h Q) : Cl Γ l mX0_weigh [vI x0, vR 3] n g h (PI g h Q) := by
  refine Cl.of (by decide) [some (vI x0), some (vR 3), none, none] rfl (Nat.le_of_ble_eq_true rfl) ?_
  intro p e s m args below meth c a
  unfold wp_X0_weigh at hw
  refine ok_iconst (pc := 0) a dX0_weigh_0 ?_
  refine ok_sI_n (pc := 1) a [some (vI x0), some (vR 3), some (vI 0), none] dX0_weigh_1 rfl (by decide) rfl rfl ?_
  refine ok_iconst (pc := 2) a dX0_weigh_2 ?_
  refine ok_sI_n (pc := 3) a [some (vI x0), some (vR 3), some (vI 0), some (vI 0)] dX0_weigh_3 rfl (by decide) rfl rfl ?_
  refine lp.use (P := fun y => OK Γ p l e (rmd 0 n n) s m args below meth c n (MQ below (QQ Γ n (PI g h Q)) args s (n - n) (sl n - sl n) (AA Γ)) 4 [some (vI x0), some (vR 3), some (vI y.1), some (vI y.2)] [] n g h) ?_ (0, 0) hw
  clear hw
  intro X4 hX4 y hw
  obtain ⟨x2_4, x3_4⟩ := y
  have hw : wp_X0_weigh_B4 x0 h Q X4 x2_4 x3_4 := hw
  unfold wp_X0_weigh_B4 at hw
  try dsimp only
  refine ok_iload_n (pc := 4) a dX0_weigh_4 rfl rfl ?_
  refine ok_aload_n (pc := 5) a dX0_weigh_5 rfl rfl ?_
  refine ok_fI (pc := 6) 5 a dX0_weigh_6 lfRX0_18 (Nat.lt_of_lt_of_le (by decide) hn) kq3 ty_7_5 rfl ?_
  obtain ⟨hc1, hw⟩ := hw
  obtain ⟨hc2, hw⟩ := hw
  refine ok_icmp_ge (pc := 9) a 36 dX0_weigh_9 (by decide) hc1 hc2 (fun hd6 => ?_) (fun hd6 => ?_)
  · have hw := hw.1 hd6
    refine ok_iload_n (pc := 36) a dX0_weigh_36 rfl rfl ?_
    exact ok_iret (pc := 37) a dX0_weigh_37 ⟨_, rfl, rfl, rfl, hw⟩
  · have hw := hw.2 hd6
    refine ok_iload_n (pc := 12) a dX0_weigh_12 rfl rfl ?_
    refine ok_iload_n (pc := 13) a dX0_weigh_13 rfl rfl ?_
    refine ok_ishr (pc := 14) a dX0_weigh_14 ?_
    refine ok_iconst (pc := 15) a dX0_weigh_15 ?_
    refine ok_iand (pc := 16) a dX0_weigh_16 ?_
    refine ok_iconst (pc := 17) a dX0_weigh_17 ?_
    obtain ⟨hR, hw⟩ := hw
    have hK : OK Γ p l e (rmd 0 n n) s m args below meth c n (MQ below (QQ Γ n (PI g h Q)) args s (n - n) (sl n - sl n) (AA Γ)) 30 [some (vI x0), some (vR 3), some (vI (if (band (bshr x0 x3_4) 1) = 1 then (x2_4 + (h 7 x3_4)) else x2_4 : Int)), some (vI x3_4)] [] n g h := by
      refine ok_inc (pc := 30) a [some (vI x0), some (vR 3), some (vI (if (band (bshr x0 x3_4) 1) = 1 then (x2_4 + (h 7 x3_4)) else x2_4 : Int)), some (vI (x3_4 + 1))] dX0_weigh_30 rfl (by decide) rfl rfl ?_
      refine ok_goto (pc := 33) a 4 dX0_weigh_33 (by decide) ?_
      exact hX4 ((if (band (bshr x0 x3_4) 1) = 1 then (x2_4 + (h 7 x3_4)) else x2_4 : Int), (x3_4 + 1)) hw
    have hw := hR
    obtain ⟨hc3, hw⟩ := hw
    refine ok_icmp_ne (pc := 18) a 30 dX0_weigh_18 (by decide) hc3 ⟨by decide, by decide⟩ (fun hd4 => ?_) (fun hd4 => ?_)
    · simp only [if_neg hd4] at hK
      exact hK
    · have hw := hw.1 hd4
      refine ok_iload_n (pc := 21) a dX0_weigh_21 rfl rfl ?_
      refine ok_aload_n (pc := 22) a dX0_weigh_22 rfl rfl ?_
      refine ok_getR (pc := 23) a dX0_weigh_23 lfRX0_55 (Nat.lt_of_lt_of_le (by decide) hn) kq3 rfl (tg.at 3 3 7 (by decide) (by decide)) ?_
      refine ok_iload_n (pc := 26) a dX0_weigh_26 rfl rfl ?_
      obtain ⟨hc5, hw⟩ := hw
      refine ok_iald (pc := 27) a dX0_weigh_27 (Nat.lt_of_lt_of_le (by decide) hn) kq7 (by decide) hc5 ?_
      refine ok_iadd (pc := 28) a dX0_weigh_28 ?_
      refine ok_sI_n (pc := 29) a [some (vI x0), some (vR 3), some (vI (x2_4 + (h 7 x3_4))), some (vI x3_4)] dX0_weigh_29 rfl (by decide) rfl rfl ?_
      simp only [if_pos hd4] at hK
      exact hK

def wp_J7_fill_53178_B5 (k : Nat) (len : Nat) (x1 : Int) (Q : aH → Prop) (x3_4 : Int) (X5 : Int × aH → Prop) (x2_5 : Int) (h_5 : aH) : Prop :=
  inR x2_5 ∧ inR x3_4 ∧ ((x3_4 ≤ x2_5 → Q h_5) ∧ (¬ x3_4 ≤ x2_5 → (0 ≤ x2_5 ∧ x2_5 < len) ∧ ∀ h4, h4 = up h_5 k x2_5 x1 → X5 ((x2_5 + 1), h4)))
def wp_J7_fill_53178 (k : Nat) (len : Nat) (x1 : Int) (h : aH) (Q : aH → Prop) : Prop :=
  ∀ x3_4, x3_4 = (len : Int) → lp (fun X y => wp_J7_fill_53178_B5 k len x1 Q x3_4 X y.1 y.2) (0, h)
set_option maxRecDepth 100000 in
set_option maxHeartbeats 4000000 in
theorem M_J7_fill_53178 {Γ : Gm} {l : Launch} {n : Nat} {g : aG} (hn : 59 ≤ n) (tg : TC g) (k : Nat) (len : Nat) (x1 : Int) (hlen : len < 2147483648) (hkk : kd k = (10, len)) (hlk : k < 59) {h : aH} {Q : aH → Prop} (hw : wp_J7_fill_53178 k len x1 h Q) : Cl Γ l mJ7_fill_53178 [vR k, vI x1] n g h (RV g Q) := by
  refine Cl.of (by decide) [some (vR k), some (vI x1), none, none] rfl (Nat.le_of_ble_eq_true rfl) ?_
  intro p e s m args below meth c a
  unfold wp_J7_fill_53178 at hw
  refine ok_iconst (pc := 0) a dJ7_fill_53178_0 ?_
  refine ok_sI_n (pc := 1) a [some (vR k), some (vI x1), some (vI 0), none] dJ7_fill_53178_1 rfl (by decide) rfl rfl ?_
  refine ok_aload_n (pc := 2) a dJ7_fill_53178_2 rfl rfl ?_
  refine ok_al (pc := 3) (len : Int) a dJ7_fill_53178_3 (Nat.lt_of_lt_of_le hlk hn) hkk (by decide) rfl ?_
  refine ok_nmI (fun x3_4 ex3_4 => ?_)
  have hw := hw x3_4 ex3_4
  refine ok_sI_n (pc := 4) a [some (vR k), some (vI x1), some (vI 0), some (vI x3_4)] dJ7_fill_53178_4 rfl (by decide) rfl rfl ?_
  refine lp.use (P := fun y => OK Γ p l e (rmd 0 n n) s m args below meth c n (MQ below (QQ Γ n (RV g Q)) args s (n - n) (sl n - sl n) (AA Γ)) 5 [some (vR k), some (vI x1), some (vI y.1), some (vI x3_4)] [] n g y.2) ?_ (0, h) hw
  clear hw
  intro X5 hX5 y hw
  obtain ⟨x2_5, h_5⟩ := y
  have hw : wp_J7_fill_53178_B5 k len x1 Q x3_4 X5 x2_5 h_5 := hw
  unfold wp_J7_fill_53178_B5 at hw
  try dsimp only
  refine ok_iload_n (pc := 5) a dJ7_fill_53178_5 rfl rfl ?_
  refine ok_iload_n (pc := 6) a dJ7_fill_53178_6 rfl rfl ?_
  obtain ⟨hc1, hw⟩ := hw
  obtain ⟨hc2, hw⟩ := hw
  refine ok_icmp_ge (pc := 7) a 20 dJ7_fill_53178_7 (by decide) hc1 hc2 (fun hd5 => ?_) (fun hd5 => ?_)
  · have hw := hw.1 hd5
    exact ok_vret (pc := 20) a dJ7_fill_53178_20 ⟨rfl, rfl, hw⟩
  · have hw := hw.2 hd5
    refine ok_aload_n (pc := 10) a dJ7_fill_53178_10 rfl rfl ?_
    refine ok_iload_n (pc := 11) a dJ7_fill_53178_11 rfl rfl ?_
    refine ok_iload_n (pc := 12) a dJ7_fill_53178_12 rfl rfl ?_
    obtain ⟨hc3, hw⟩ := hw
    refine ok_iast (pc := 13) a dJ7_fill_53178_13 (Nat.lt_of_lt_of_le hlk hn) hkk hlen hc3 (ok_nmH (fun h4 eh4 => ?_))
    have hw := hw h4 eh4
    refine ok_inc (pc := 14) a [some (vR k), some (vI x1), some (vI (x2_5 + 1)), some (vI x3_4)] dJ7_fill_53178_14 rfl (by decide) rfl rfl ?_
    refine ok_goto (pc := 17) a 5 dJ7_fill_53178_17 (by decide) ?_
    exact hX5 ((x2_5 + 1), h4) hw

def wp_X8_within (x0 : Int) (x1 : Int) (x2 : Int) (h : aH) (Q : Int → Prop) : Prop :=
  (inR x0 ∧ inR x1 ∧ ((x0 < x1 → True) ∧ (¬ x0 < x1 → inR x2 ∧ True))) ∧ Q (if x0 < x1 then 0 else (if x2 < x0 then 0 else 1 : Int) : Int)
set_option maxRecDepth 100000 in
set_option maxHeartbeats 4000000 in
theorem M_X8_within {Γ : Gm} {l : Launch} {n : Nat} {g : aG} (hn : 59 ≤ n) (tg : TC g) (x0 : Int) (x1 : Int) (x2 : Int)  {h : aH} {Q : Int → Prop} (hw : wp_X8_within x0 x1 x2 h Q) : Cl Γ l mX8_within [vI x0, vI x1, vI x2] n g h (PZ g h Q) := by
  refine Cl.of (by decide) [some (vI x0), some (vI x1), some (vI x2)] rfl (Nat.le_of_ble_eq_true rfl) ?_
  intro p e s m args below meth c a
  unfold wp_X8_within at hw
  refine ok_iload_n (pc := 0) a dX8_within_0 rfl rfl ?_
  refine ok_iload_n (pc := 1) a dX8_within_1 rfl rfl ?_
  obtain ⟨hR, hw⟩ := hw
  have hK : OK Γ p l e (rmd 0 n n) s m args below meth c n (MQ below (QQ Γ n (PZ g h Q)) args s (n - n) (sl n - sl n) (AA Γ)) 15 [some (vI x0), some (vI x1), some (vI x2)] [(vI (if x0 < x1 then 0 else (if x2 < x0 then 0 else 1 : Int) : Int))] n g h := by
    exact ok_zret (pc := 15) a dX8_within_15 (ite01 (Or.inl rfl) (ite01 (Or.inl rfl) (Or.inr rfl))) ⟨_, rfl, rfl, rfl, (ite01 (Or.inl rfl) (ite01 (Or.inl rfl) (Or.inr rfl))), hw⟩
  have hw := hR
  obtain ⟨hc1, hw⟩ := hw
  obtain ⟨hc2, hw⟩ := hw
  refine ok_icmp_lt (pc := 2) a 14 dX8_within_2 (by decide) hc1 hc2 (fun hd3 => ?_) (fun hd3 => ?_)
  · refine ok_iconst (pc := 14) a dX8_within_14 ?_
    simp only [if_pos hd3] at hK
    exact hK
  · have hw := hw.2 hd3
    refine ok_iload_n (pc := 5) a dX8_within_5 rfl rfl ?_
    refine ok_iload_n (pc := 6) a dX8_within_6 rfl rfl ?_
    obtain ⟨hc4, hw⟩ := hw
    refine ok_icmp_gt (pc := 7) a 14 dX8_within_7 (by decide) hc1 hc4 (fun hd5 => ?_) (fun hd5 => ?_)
    · refine ok_iconst (pc := 14) a dX8_within_14 ?_
      simp only [if_neg hd3, if_pos hd5] at hK
      exact hK
    · refine ok_iconst (pc := 10) a dX8_within_10 ?_
      refine ok_goto (pc := 11) a 15 dX8_within_11 (by decide) ?_
      simp only [if_neg hd3, if_neg hd5] at hK
      exact hK

def wp_X0_canWeigh (x1 : Int) (h : aH) (Q : Int → Prop) : Prop :=
  (0 ≤ x1 ∧ x1 < 301) ∧ (inR (h 48 x1) ∧ True) ∧ Q (if (h 48 x1) = (-9) then 0 else 1 : Int)
set_option maxRecDepth 100000 in
set_option maxHeartbeats 4000000 in
theorem M_X0_canWeigh {Γ : Gm} {l : Launch} {n : Nat} {g : aG} (hn : 59 ≤ n) (tg : TC g) (x1 : Int)  {h : aH} {Q : Int → Prop} (hw : wp_X0_canWeigh x1 h Q) : Cl Γ l mX0_canWeigh [vR 46, vI x1] n g h (PZ g h Q) := by
  refine Cl.of (by decide) [some (vR 46), some (vI x1)] rfl (Nat.le_of_ble_eq_true rfl) ?_
  intro p e s m args below meth c a
  unfold wp_X0_canWeigh at hw
  refine ok_aload_n (pc := 0) a dX0_canWeigh_0 rfl rfl ?_
  refine ok_getR (pc := 1) a dX0_canWeigh_1 lfRX0_15 (Nat.lt_of_lt_of_le (by decide) hn) kq46 rfl (tg.at 46 1 48 (by decide) (by decide)) ?_
  refine ok_iload_n (pc := 4) a dX0_canWeigh_4 rfl rfl ?_
  obtain ⟨hc1, hw⟩ := hw
  refine ok_iald (pc := 5) a dX0_canWeigh_5 (Nat.lt_of_lt_of_le (by decide) hn) kq48 (by decide) hc1 ?_
  refine ok_bipush (pc := 6) a dX0_canWeigh_6 (by decide) ?_
  obtain ⟨hR, hw⟩ := hw
  have hK : OK Γ p l e (rmd 0 n n) s m args below meth c n (MQ below (QQ Γ n (PZ g h Q)) args s (n - n) (sl n - sl n) (AA Γ)) 16 [some (vR 46), some (vI x1)] [(vI (if (h 48 x1) = (-9) then 0 else 1 : Int))] n g h := by
    exact ok_zret (pc := 16) a dX0_canWeigh_16 (ite01 (Or.inl rfl) (Or.inr rfl)) ⟨_, rfl, rfl, rfl, (ite01 (Or.inl rfl) (Or.inr rfl)), hw⟩
  have hw := hR
  obtain ⟨hc2, hw⟩ := hw
  refine ok_icmp_eq (pc := 8) a 15 dX0_canWeigh_8 (by decide) hc2 ⟨by decide, by decide⟩ (fun hd3 => ?_) (fun hd3 => ?_)
  · refine ok_iconst (pc := 15) a dX0_canWeigh_15 ?_
    simp only [if_pos hd3] at hK
    exact hK
  · refine ok_iconst (pc := 11) a dX0_canWeigh_11 ?_
    refine ok_goto (pc := 12) a 16 dX0_canWeigh_12 (by decide) ?_
    simp only [if_neg hd3] at hK
    exact hK

def wp_J6_bitCount_0f7a4 (x0 : Int) (h : aH) (Q : Int → Prop) : Prop :=
  ∀ x0_9, x0_9 = (x0 - (band (bushr x0 1) 1431655765)) → ∀ x0_23, x0_23 = ((band x0_9 858993459) + (band (bushr x0_9 2) 858993459)) → ∀ x0_33, x0_33 = (band (x0_23 + (bushr x0_23 4)) 252645135) → ∀ x0_40, x0_40 = (x0_33 + (bushr x0_33 8)) → ∀ x0_47, x0_47 = (x0_40 + (bushr x0_40 16)) → Q (band x0_47 63)
set_option maxRecDepth 100000 in
set_option maxHeartbeats 4000000 in
theorem M_J6_bitCount_0f7a4 {Γ : Gm} {l : Launch} {n : Nat} {g : aG} (hn : 59 ≤ n) (tg : TC g) (x0 : Int)  {h : aH} {Q : Int → Prop} (hw : wp_J6_bitCount_0f7a4 x0 h Q) : Cl Γ l mJ6_bitCount_0f7a4 [vI x0] n g h (PI g h Q) := by
  refine Cl.of (by decide) [some (vI x0)] rfl (Nat.le_of_ble_eq_true rfl) ?_
  intro p e s m args below meth c a
  unfold wp_J6_bitCount_0f7a4 at hw
  refine ok_iload_n (pc := 0) a dJ6_bitCount_0f7a4_0 rfl rfl ?_
  refine ok_iload_n (pc := 1) a dJ6_bitCount_0f7a4_1 rfl rfl ?_
  refine ok_iconst (pc := 2) a dJ6_bitCount_0f7a4_2 ?_
  refine ok_iushr (pc := 3) a dJ6_bitCount_0f7a4_3 ?_
  refine ok_ldcw (pc := 4) (x := 1431655765) a dJ6_bitCount_0f7a4_4 ctRJ6_265 (by decide) ?_
  refine ok_iand (pc := 7) a dJ6_bitCount_0f7a4_7 ?_
  refine ok_isub (pc := 8) a dJ6_bitCount_0f7a4_8 ?_
  refine ok_nmI (fun x0_9 ex0_9 => ?_)
  have hw := hw x0_9 ex0_9
  refine ok_sI_n (pc := 9) a [some (vI x0_9)] dJ6_bitCount_0f7a4_9 rfl (by decide) rfl rfl ?_
  refine ok_iload_n (pc := 10) a dJ6_bitCount_0f7a4_10 rfl rfl ?_
  refine ok_ldcw (pc := 11) (x := 858993459) a dJ6_bitCount_0f7a4_11 ctRJ6_266 (by decide) ?_
  refine ok_iand (pc := 14) a dJ6_bitCount_0f7a4_14 ?_
  refine ok_iload_n (pc := 15) a dJ6_bitCount_0f7a4_15 rfl rfl ?_
  refine ok_iconst (pc := 16) a dJ6_bitCount_0f7a4_16 ?_
  refine ok_iushr (pc := 17) a dJ6_bitCount_0f7a4_17 ?_
  refine ok_ldcw (pc := 18) (x := 858993459) a dJ6_bitCount_0f7a4_18 ctRJ6_266 (by decide) ?_
  refine ok_iand (pc := 21) a dJ6_bitCount_0f7a4_21 ?_
  refine ok_iadd (pc := 22) a dJ6_bitCount_0f7a4_22 ?_
  refine ok_nmI (fun x0_23 ex0_23 => ?_)
  have hw := hw x0_23 ex0_23
  refine ok_sI_n (pc := 23) a [some (vI x0_23)] dJ6_bitCount_0f7a4_23 rfl (by decide) rfl rfl ?_
  refine ok_iload_n (pc := 24) a dJ6_bitCount_0f7a4_24 rfl rfl ?_
  refine ok_iload_n (pc := 25) a dJ6_bitCount_0f7a4_25 rfl rfl ?_
  refine ok_iconst (pc := 26) a dJ6_bitCount_0f7a4_26 ?_
  refine ok_iushr (pc := 27) a dJ6_bitCount_0f7a4_27 ?_
  refine ok_iadd (pc := 28) a dJ6_bitCount_0f7a4_28 ?_
  refine ok_ldcw (pc := 29) (x := 252645135) a dJ6_bitCount_0f7a4_29 ctRJ6_267 (by decide) ?_
  refine ok_iand (pc := 32) a dJ6_bitCount_0f7a4_32 ?_
  refine ok_nmI (fun x0_33 ex0_33 => ?_)
  have hw := hw x0_33 ex0_33
  refine ok_sI_n (pc := 33) a [some (vI x0_33)] dJ6_bitCount_0f7a4_33 rfl (by decide) rfl rfl ?_
  refine ok_iload_n (pc := 34) a dJ6_bitCount_0f7a4_34 rfl rfl ?_
  refine ok_iload_n (pc := 35) a dJ6_bitCount_0f7a4_35 rfl rfl ?_
  refine ok_bipush (pc := 36) a dJ6_bitCount_0f7a4_36 (by decide) ?_
  refine ok_iushr (pc := 38) a dJ6_bitCount_0f7a4_38 ?_
  refine ok_iadd (pc := 39) a dJ6_bitCount_0f7a4_39 ?_
  refine ok_nmI (fun x0_40 ex0_40 => ?_)
  have hw := hw x0_40 ex0_40
  refine ok_sI_n (pc := 40) a [some (vI x0_40)] dJ6_bitCount_0f7a4_40 rfl (by decide) rfl rfl ?_
  refine ok_iload_n (pc := 41) a dJ6_bitCount_0f7a4_41 rfl rfl ?_
  refine ok_iload_n (pc := 42) a dJ6_bitCount_0f7a4_42 rfl rfl ?_
  refine ok_bipush (pc := 43) a dJ6_bitCount_0f7a4_43 (by decide) ?_
  refine ok_iushr (pc := 45) a dJ6_bitCount_0f7a4_45 ?_
  refine ok_iadd (pc := 46) a dJ6_bitCount_0f7a4_46 ?_
  refine ok_nmI (fun x0_47 ex0_47 => ?_)
  have hw := hw x0_47 ex0_47
  refine ok_sI_n (pc := 47) a [some (vI x0_47)] dJ6_bitCount_0f7a4_47 rfl (by decide) rfl rfl ?_
  refine ok_iload_n (pc := 48) a dJ6_bitCount_0f7a4_48 rfl rfl ?_
  refine ok_bipush (pc := 49) a dJ6_bitCount_0f7a4_49 (by decide) ?_
  refine ok_iand (pc := 51) a dJ6_bitCount_0f7a4_51 ?_
  exact ok_iret (pc := 52) a dJ6_bitCount_0f7a4_52 ⟨_, rfl, rfl, rfl, hw⟩

def wp_X0_fewestPieces (x1 : Int) (h : aH) (Q : Int → Prop) : Prop :=
  (0 ≤ x1 ∧ x1 < 301) ∧ wp_J6_bitCount_0f7a4 (h 48 x1) h (fun r2 => Q r2)
set_option maxRecDepth 100000 in
set_option maxHeartbeats 4000000 in
theorem M_X0_fewestPieces {Γ : Gm} {l : Launch} {n : Nat} {g : aG} (hn : 59 ≤ n) (tg : TC g) (x1 : Int)  {h : aH} {Q : Int → Prop} (hw : wp_X0_fewestPieces x1 h Q) : Cl Γ l mX0_fewestPieces [vR 46, vI x1] n g h (PI g h Q) := by
  refine Cl.of (by decide) [some (vR 46), some (vI x1)] rfl (Nat.le_of_ble_eq_true rfl) ?_
  intro p e s m args below meth c a
  unfold wp_X0_fewestPieces at hw
  refine ok_aload_n (pc := 0) a dX0_fewestPieces_0 rfl rfl ?_
  refine ok_getR (pc := 1) a dX0_fewestPieces_1 lfRX0_15 (Nat.lt_of_lt_of_le (by decide) hn) kq46 rfl (tg.at 46 1 48 (by decide) (by decide)) ?_
  refine ok_iload_n (pc := 4) a dX0_fewestPieces_4 rfl rfl ?_
  obtain ⟨hc1, hw⟩ := hw
  refine ok_iald (pc := 5) a dX0_fewestPieces_5 (Nat.lt_of_lt_of_le (by decide) hn) kq48 (by decide) hc1 ?_
  refine ok_SPI (pc := 6) a [(vI (h 48 x1))] [] (M_J6_bitCount_0f7a4 hn tg (h 48 x1)  hw) dX0_fewestPieces_6 lkRX0_38 rfl ⟨Nat.le_of_ble_eq_true rfl, Nat.le_of_ble_eq_true rfl⟩ rfl (Nat.le_of_ble_eq_true rfl) rfl (fun r2 hw => ?_)
  exact ok_iret (pc := 9) a dX0_fewestPieces_9 ⟨_, rfl, rfl, rfl, hw⟩

def wp_X0_offer (x1 : Int) (x2 : Int) (h : aH) (Q : aH → Prop) : Prop :=
  (0 ≤ x1 ∧ x1 < 32) ∧ (0 ≤ x2 ∧ x2 < 32) ∧ ∀ x3_13, x3_13 = ((h 47 x1) - (h 47 x2)) → wp_X8_within x3_13 0 300 h (fun r3 => ((r3 = 0 → Q h) ∧ (¬ r3 = 0 → ∀ x4_31, x4_31 = (bor (bshl x1 5) x2) → wp_X0_canWeigh x3_13 h (fun r5 => ((r5 = 0 → (0 ≤ x3_13 ∧ x3_13 < 301) ∧ ∀ h8, h8 = up h 48 x3_13 x4_31 → Q h8) ∧ (¬ r5 = 0 → wp_J6_bitCount_0f7a4 x4_31 h (fun r9 => wp_X0_fewestPieces x3_13 h (fun r10 => inR r9 ∧ inR r10 ∧ ((r10 ≤ r9 → Q h) ∧ (¬ r10 ≤ r9 → (0 ≤ x3_13 ∧ x3_13 < 301) ∧ ∀ h14, h14 = up h 48 x3_13 x4_31 → Q h14))))))))))
set_option maxRecDepth 100000 in
set_option maxHeartbeats 4000000 in
theorem M_X0_offer {Γ : Gm} {l : Launch} {n : Nat} {g : aG} (hn : 59 ≤ n) (tg : TC g) (x1 : Int) (x2 : Int)  {h : aH} {Q : aH → Prop} (hw : wp_X0_offer x1 x2 h Q) : Cl Γ l mX0_offer [vR 46, vI x1, vI x2] n g h (RV g Q) := by
  refine Cl.of (by decide) [some (vR 46), some (vI x1), some (vI x2), none, none] rfl (Nat.le_of_ble_eq_true rfl) ?_
  intro p e s m args below meth c a
  unfold wp_X0_offer at hw
  refine ok_aload_n (pc := 0) a dX0_offer_0 rfl rfl ?_
  refine ok_getR (pc := 1) a dX0_offer_1 lfRX0_11 (Nat.lt_of_lt_of_le (by decide) hn) kq46 rfl (tg.at 46 0 47 (by decide) (by decide)) ?_
  refine ok_iload_n (pc := 4) a dX0_offer_4 rfl rfl ?_
  obtain ⟨hc1, hw⟩ := hw
  refine ok_iald (pc := 5) a dX0_offer_5 (Nat.lt_of_lt_of_le (by decide) hn) kq47 (by decide) hc1 ?_
  refine ok_aload_n (pc := 6) a dX0_offer_6 rfl rfl ?_
  refine ok_getR (pc := 7) a dX0_offer_7 lfRX0_11 (Nat.lt_of_lt_of_le (by decide) hn) kq46 rfl (tg.at 46 0 47 (by decide) (by decide)) ?_
  refine ok_iload_n (pc := 10) a dX0_offer_10 rfl rfl ?_
  obtain ⟨hc2, hw⟩ := hw
  refine ok_iald (pc := 11) a dX0_offer_11 (Nat.lt_of_lt_of_le (by decide) hn) kq47 (by decide) hc2 ?_
  refine ok_isub (pc := 12) a dX0_offer_12 ?_
  refine ok_nmI (fun x3_13 ex3_13 => ?_)
  have hw := hw x3_13 ex3_13
  refine ok_sI_n (pc := 13) a [some (vR 46), some (vI x1), some (vI x2), some (vI x3_13), none] dX0_offer_13 rfl (by decide) rfl rfl ?_
  refine ok_iload_n (pc := 14) a dX0_offer_14 rfl rfl ?_
  refine ok_iconst (pc := 15) a dX0_offer_15 ?_
  refine ok_sipush (pc := 16) a dX0_offer_16 (by decide) ?_
  refine ok_SPZ (pc := 19) a [(vI x3_13), (vI 0), (vI 300)] [] (M_X8_within hn tg x3_13 0 300  hw) dX0_offer_19 lkRX0_48 rfl ⟨Nat.le_of_ble_eq_true rfl, Nat.le_of_ble_eq_true rfl⟩ rfl (Nat.le_of_ble_eq_true rfl) rfl (fun r3 hz4 hw => ?_)
  refine ok_if_ne (pc := 22) a 26 dX0_offer_22 (by decide) (inR_b hz4) (fun hd17 => ?_) (fun hd17 => ?_)
  · have hw := hw.2 hd17
    refine ok_iload_n (pc := 26) a dX0_offer_26 rfl rfl ?_
    refine ok_iconst (pc := 27) a dX0_offer_27 ?_
    refine ok_ishl (pc := 28) a dX0_offer_28 ?_
    refine ok_iload_n (pc := 29) a dX0_offer_29 rfl rfl ?_
    refine ok_ior (pc := 30) a dX0_offer_30 ?_
    refine ok_nmI (fun x4_31 ex4_31 => ?_)
    have hw := hw x4_31 ex4_31
    refine ok_sI (pc := 31) a [some (vR 46), some (vI x1), some (vI x2), some (vI x3_13), some (vI x4_31)] dX0_offer_31 (by decide) rfl rfl ?_
    refine ok_aload_n (pc := 33) a dX0_offer_33 rfl rfl ?_
    refine ok_iload_n (pc := 34) a dX0_offer_34 rfl rfl ?_
    refine ok_VPZ (pc := 35) a [(vI x3_13)] [] (M_X0_canWeigh hn tg x3_13  hw) dX0_offer_35 lkRX0_44 rfl (Nat.lt_of_lt_of_le (by decide) hn) kq46 (by decide) rfl ⟨Nat.le_of_ble_eq_true rfl, Nat.le_of_ble_eq_true rfl⟩ rfl (Nat.le_of_ble_eq_true rfl) rfl (fun r5 hz6 hw => ?_)
    refine ok_if_eq (pc := 38) a 54 dX0_offer_38 (by decide) (inR_b hz6) (fun hd16 => ?_) (fun hd16 => ?_)
    · have hw := hw.1 hd16
      refine ok_aload_n (pc := 54) a dX0_offer_54 rfl rfl ?_
      refine ok_getR (pc := 55) a dX0_offer_55 lfRX0_15 (Nat.lt_of_lt_of_le (by decide) hn) kq46 rfl (tg.at 46 1 48 (by decide) (by decide)) ?_
      refine ok_iload_n (pc := 58) a dX0_offer_58 rfl rfl ?_
      refine ok_iload (pc := 59) a dX0_offer_59 rfl ?_
      obtain ⟨hc7, hw⟩ := hw
      refine ok_iast (pc := 61) a dX0_offer_61 (Nat.lt_of_lt_of_le (by decide) hn) kq48 (by decide) hc7 (ok_nmH (fun h8 eh8 => ?_))
      have hw := hw h8 eh8
      exact ok_vret (pc := 62) a dX0_offer_62 ⟨rfl, rfl, hw⟩
    · have hw := hw.2 hd16
      refine ok_iload (pc := 41) a dX0_offer_41 rfl ?_
      refine ok_SPI (pc := 43) a [(vI x4_31)] [] (M_J6_bitCount_0f7a4 hn tg x4_31  hw) dX0_offer_43 lkRX0_38 rfl ⟨Nat.le_of_ble_eq_true rfl, Nat.le_of_ble_eq_true rfl⟩ rfl (Nat.le_of_ble_eq_true rfl) rfl (fun r9 hw => ?_)
      refine ok_aload_n (pc := 46) a dX0_offer_46 rfl rfl ?_
      refine ok_iload_n (pc := 47) a dX0_offer_47 rfl rfl ?_
      refine ok_VPI (pc := 48) a [(vI x3_13)] [(vI r9)] (M_X0_fewestPieces hn tg x3_13  hw) dX0_offer_48 lkRX0_52 rfl (Nat.lt_of_lt_of_le (by decide) hn) kq46 (by decide) rfl ⟨Nat.le_of_ble_eq_true rfl, Nat.le_of_ble_eq_true rfl⟩ rfl (Nat.le_of_ble_eq_true rfl) rfl (fun r10 hw => ?_)
      obtain ⟨hc11, hw⟩ := hw
      obtain ⟨hc12, hw⟩ := hw
      refine ok_icmp_ge (pc := 51) a 62 dX0_offer_51 (by decide) hc11 hc12 (fun hd15 => ?_) (fun hd15 => ?_)
      · have hw := hw.1 hd15
        exact ok_vret (pc := 62) a dX0_offer_62 ⟨rfl, rfl, hw⟩
      · have hw := hw.2 hd15
        refine ok_aload_n (pc := 54) a dX0_offer_54 rfl rfl ?_
        refine ok_getR (pc := 55) a dX0_offer_55 lfRX0_15 (Nat.lt_of_lt_of_le (by decide) hn) kq46 rfl (tg.at 46 1 48 (by decide) (by decide)) ?_
        refine ok_iload_n (pc := 58) a dX0_offer_58 rfl rfl ?_
        refine ok_iload (pc := 59) a dX0_offer_59 rfl ?_
        obtain ⟨hc13, hw⟩ := hw
        refine ok_iast (pc := 61) a dX0_offer_61 (Nat.lt_of_lt_of_le (by decide) hn) kq48 (by decide) hc13 (ok_nmH (fun h14 eh14 => ?_))
        have hw := hw h14 eh14
        exact ok_vret (pc := 62) a dX0_offer_62 ⟨rfl, rfl, hw⟩
  · have hw := hw.1 hd17
    exact ok_vret (pc := 25) a dX0_offer_25 ⟨rfl, rfl, hw⟩

def wp_X0_layOut_J70 (X50 : Int × aH → Prop) (x4_50 : Int) (h_70 : aH) : Prop :=
  X50 ((x4_50 + 1), h_70)
def wp_X0_layOut_B50 (x2_6 : Int) (X42 : Int × aH → Prop) (x3_42 : Int) (X50 : Int × aH → Prop) (x4_50 : Int) (h_50 : aH) : Prop :=
  inR x4_50 ∧ ((x2_6 ≤ x4_50 → X42 ((x3_42 + 1), h_50)) ∧ (¬ x2_6 ≤ x4_50 → inR (band x3_42 x4_50) ∧ (((band x3_42 x4_50) = 0 → wp_X0_offer x3_42 x4_50 h_50 (fun h7 => wp_X0_layOut_J70 X50 x4_50 h7)) ∧ (¬ (band x3_42 x4_50) = 0 → wp_X0_layOut_J70 X50 x4_50 h_50))))
def wp_X0_layOut_B42 (Q : aH → Prop) (x2_6 : Int) (X42 : Int × aH → Prop) (x3_42 : Int) (h_42 : aH) : Prop :=
  inR x3_42 ∧ ((x2_6 ≤ x3_42 → Q h_42) ∧ (¬ x2_6 ≤ x3_42 → lp (fun X y => wp_X0_layOut_B50 x2_6 X42 x3_42 X y.1 y.2) (0, h_42)))
def wp_X0_layOut_B9 (Q : aH → Prop) (x2_6 : Int) (X9 : Int × aH → Prop) (x3_9 : Int) (h_9 : aH) : Prop :=
  inR x3_9 ∧ inR x2_6 ∧ ((x2_6 ≤ x3_9 → wp_J7_fill_53178 48 301 (-9) h_9 (fun h3 => lp (fun X y => wp_X0_layOut_B42 Q x2_6 X y.1 y.2) (0, h3))) ∧ (¬ x2_6 ≤ x3_9 → wp_X0_weigh x3_9 h_9 (fun r11 => (0 ≤ x3_9 ∧ x3_9 < 32) ∧ ∀ h13, h13 = up h_9 47 x3_9 r11 → X9 ((x3_9 + 1), h13))))
def wp_X0_layOut  (h : aH) (Q : aH → Prop) : Prop :=
  ∀ x2_6, x2_6 = (bshl 1 (h 3 5)) → lp (fun X y => wp_X0_layOut_B9 Q x2_6 X y.1 y.2) (0, h)
set_option maxRecDepth 100000 in
set_option maxHeartbeats 4000000 in
theorem M_X0_layOut {Γ : Gm} {l : Launch} {n : Nat} {g : aG} (hn : 59 ≤ n) (tg : TC g)   {h : aH} {Q : aH → Prop} (hw : wp_X0_layOut  h Q) : Cl Γ l mX0_layOut [vR 46, vR 3] n g h (RV g Q) := by
  refine Cl.of (by decide) [some (vR 46), some (vR 3), none, none, none] rfl (Nat.le_of_ble_eq_true rfl) ?_
  intro p e s m args below meth c a
  unfold wp_X0_layOut at hw
  refine ok_iconst (pc := 0) a dX0_layOut_0 ?_
  refine ok_aload_n (pc := 1) a dX0_layOut_1 rfl rfl ?_
  refine ok_fI (pc := 2) 5 a dX0_layOut_2 lfRX0_18 (Nat.lt_of_lt_of_le (by decide) hn) kq3 ty_7_5 rfl ?_
  refine ok_ishl (pc := 5) a dX0_layOut_5 ?_
  refine ok_nmI (fun x2_6 ex2_6 => ?_)
  have hw := hw x2_6 ex2_6
  refine ok_sI_n (pc := 6) a [some (vR 46), some (vR 3), some (vI x2_6), none, none] dX0_layOut_6 rfl (by decide) rfl rfl ?_
  refine ok_iconst (pc := 7) a dX0_layOut_7 ?_
  refine ok_sI_n (pc := 8) a [some (vR 46), some (vR 3), some (vI x2_6), some (vI 0), none] dX0_layOut_8 rfl (by decide) rfl rfl ?_
  refine lp.use (P := fun y => OK Γ p l e (rmd 3 n n) s m args below meth c n (MQ below (QQ Γ n (RV g Q)) args s (n - n) (sl n - sl n) (AA Γ)) 9 [some (vR 46), some (vR 3), some (vI x2_6), some (vI y.1), none] [] n g y.2) ?_ (0, h) hw
  clear hw
  intro X9 hX9 y hw
  obtain ⟨x3_9, h_9⟩ := y
  have hw : wp_X0_layOut_B9 Q x2_6 X9 x3_9 h_9 := hw
  unfold wp_X0_layOut_B9 at hw
  try dsimp only
  refine ok_iload_n (pc := 9) a dX0_layOut_9 rfl rfl ?_
  refine ok_iload_n (pc := 10) a dX0_layOut_10 rfl rfl ?_
  obtain ⟨hc1, hw⟩ := hw
  obtain ⟨hc2, hw⟩ := hw
  refine ok_icmp_ge (pc := 11) a 31 dX0_layOut_11 (by decide) hc1 hc2 (fun hd14 => ?_) (fun hd14 => ?_)
  · have hw := hw.1 hd14
    refine ok_aload_n (pc := 31) a dX0_layOut_31 rfl rfl ?_
    refine ok_getR (pc := 32) a dX0_layOut_32 lfRX0_15 (Nat.lt_of_lt_of_le (by decide) hn) kq46 rfl (tg.at 46 1 48 (by decide) (by decide)) ?_
    refine ok_bipush (pc := 35) a dX0_layOut_35 (by decide) ?_
    refine ok_SRV (pc := 37) a [(vR 48), (vI (-9))] [] (M_J7_fill_53178 hn tg 48 301 (-9) (by decide) kq48 (by decide) hw) dX0_layOut_37 lkRX0_28 rfl ⟨Nat.le_of_ble_eq_true rfl, Nat.le_of_ble_eq_true rfl⟩ rfl (Nat.le_of_ble_eq_true rfl) rfl (fun h3 hw => ?_)
    refine ok_iconst (pc := 40) a dX0_layOut_40 ?_
    refine ok_sI_n (pc := 41) a [some (vR 46), some (vR 3), some (vI x2_6), some (vI 0), none] dX0_layOut_41 rfl (by decide) rfl rfl ?_
    refine lp.use (P := fun y => OK Γ p l e (rmd 3 n n) s m args below meth c n (MQ below (QQ Γ n (RV g Q)) args s (n - n) (sl n - sl n) (AA Γ)) 42 [some (vR 46), some (vR 3), some (vI x2_6), some (vI y.1), none] [] n g y.2) ?_ (0, h3) hw
    clear hw
    intro X42 hX42 y hw
    obtain ⟨x3_42, h_42⟩ := y
    have hw : wp_X0_layOut_B42 Q x2_6 X42 x3_42 h_42 := hw
    unfold wp_X0_layOut_B42 at hw
    try dsimp only
    refine ok_iload_n (pc := 42) a dX0_layOut_42 rfl rfl ?_
    refine ok_iload_n (pc := 43) a dX0_layOut_43 rfl rfl ?_
    obtain ⟨hc4, hw⟩ := hw
    refine ok_icmp_ge (pc := 44) a 82 dX0_layOut_44 (by decide) hc4 hc2 (fun hd10 => ?_) (fun hd10 => ?_)
    · have hw := hw.1 hd10
      exact ok_vret (pc := 82) a dX0_layOut_82 ⟨rfl, rfl, hw⟩
    · have hw := hw.2 hd10
      refine ok_iconst (pc := 47) a dX0_layOut_47 ?_
      refine ok_sI (pc := 48) a [some (vR 46), some (vR 3), some (vI x2_6), some (vI x3_42), some (vI 0)] dX0_layOut_48 (by decide) rfl rfl ?_
      refine lp.use (P := fun y => OK Γ p l e (rmd 3 n n) s m args below meth c n (MQ below (QQ Γ n (RV g Q)) args s (n - n) (sl n - sl n) (AA Γ)) 50 [some (vR 46), some (vR 3), some (vI x2_6), some (vI x3_42), some (vI y.1)] [] n g y.2) ?_ (0, h_42) hw
      clear hw
      intro X50 hX50 y hw
      obtain ⟨x4_50, h_50⟩ := y
      have hw : wp_X0_layOut_B50 x2_6 X42 x3_42 X50 x4_50 h_50 := hw
      unfold wp_X0_layOut_B50 at hw
      try dsimp only
      refine ok_iload (pc := 50) a dX0_layOut_50 rfl ?_
      refine ok_iload_n (pc := 52) a dX0_layOut_52 rfl rfl ?_
      obtain ⟨hc5, hw⟩ := hw
      refine ok_icmp_ge (pc := 53) a 76 dX0_layOut_53 (by decide) hc5 hc2 (fun hd9 => ?_) (fun hd9 => ?_)
      · have hw := hw.1 hd9
        refine ok_inc (pc := 76) a [some (vR 46), some (vR 3), some (vI x2_6), some (vI (x3_42 + 1)), some (vI x4_50)] dX0_layOut_76 rfl (by decide) rfl rfl ?_
        refine ok_goto (pc := 79) a 42 dX0_layOut_79 (by decide) ?_
        refine ok_forget 4 ?_
        exact hX42 ((x3_42 + 1), h_50) hw
      · have hw := hw.2 hd9
        refine ok_iload_n (pc := 56) a dX0_layOut_56 rfl rfl ?_
        refine ok_iload (pc := 57) a dX0_layOut_57 rfl ?_
        refine ok_iand (pc := 59) a dX0_layOut_59 ?_
        obtain ⟨hc6, hw⟩ := hw
        have hJ70 : ∀ (h_70 : aH), wp_X0_layOut_J70 X50 x4_50 h_70 → OK Γ p l e (rmd 3 n n) s m args below meth c n (MQ below (QQ Γ n (RV g Q)) args s (n - n) (sl n - sl n) (AA Γ)) 70 [some (vR 46), some (vR 3), some (vI x2_6), some (vI x3_42), some (vI x4_50)] [] n g h_70 := by
          intro h_70 hw
          unfold wp_X0_layOut_J70 at hw
          refine ok_inc (pc := 70) a [some (vR 46), some (vR 3), some (vI x2_6), some (vI x3_42), some (vI (x4_50 + 1))] dX0_layOut_70 rfl (by decide) rfl rfl ?_
          refine ok_goto (pc := 73) a 50 dX0_layOut_73 (by decide) ?_
          exact hX50 ((x4_50 + 1), h_70) hw
        refine ok_if_ne (pc := 60) a 70 dX0_layOut_60 (by decide) hc6 (fun hd8 => ?_) (fun hd8 => ?_)
        · have hw := hw.2 hd8
          exact hJ70 h_50 hw
        · have hw := hw.1 hd8
          refine ok_aload_n (pc := 63) a dX0_layOut_63 rfl rfl ?_
          refine ok_iload_n (pc := 64) a dX0_layOut_64 rfl rfl ?_
          refine ok_iload (pc := 65) a dX0_layOut_65 rfl ?_
          refine ok_VRV (pc := 67) a [(vI x3_42), (vI x4_50)] [] (M_X0_offer hn tg x3_42 x4_50  hw) dX0_layOut_67 lkRX0_34 rfl (Nat.lt_of_lt_of_le (by decide) hn) kq46 (by decide) rfl ⟨Nat.le_of_ble_eq_true rfl, Nat.le_of_ble_eq_true rfl⟩ rfl (Nat.le_of_ble_eq_true rfl) rfl (fun h7 hw => ?_)
          exact hJ70 h7 hw
  · have hw := hw.2 hd14
    refine ok_aload_n (pc := 14) a dX0_layOut_14 rfl rfl ?_
    refine ok_getR (pc := 15) a dX0_layOut_15 lfRX0_11 (Nat.lt_of_lt_of_le (by decide) hn) kq46 rfl (tg.at 46 0 47 (by decide) (by decide)) ?_
    refine ok_iload_n (pc := 18) a dX0_layOut_18 rfl rfl ?_
    refine ok_iload_n (pc := 19) a dX0_layOut_19 rfl rfl ?_
    refine ok_aload_n (pc := 20) a dX0_layOut_20 rfl rfl ?_
    refine ok_SPI (pc := 21) a [(vI x3_9), (vR 3)] [(vI x3_9), (vR 47)] (M_X0_weigh hn tg x3_9  hw) dX0_layOut_21 lkRX0_24 rfl ⟨Nat.le_of_ble_eq_true rfl, Nat.le_of_ble_eq_true rfl⟩ rfl (Nat.le_of_ble_eq_true rfl) rfl (fun r11 hw => ?_)
    obtain ⟨hc12, hw⟩ := hw
    refine ok_iast (pc := 24) a dX0_layOut_24 (Nat.lt_of_lt_of_le (by decide) hn) kq47 (by decide) hc12 (ok_nmH (fun h13 eh13 => ?_))
    have hw := hw h13 eh13
    refine ok_inc (pc := 25) a [some (vR 46), some (vR 3), some (vI x2_6), some (vI (x3_9 + 1)), none] dX0_layOut_25 rfl (by decide) rfl rfl ?_
    refine ok_goto (pc := 28) a 9 dX0_layOut_28 (by decide) ?_
    exact hX9 ((x3_9 + 1), h13) hw

def wp_X0_heavierPan (x1 : Int) (h : aH) (Q : Int → Prop) : Prop :=
  (0 ≤ x1 ∧ x1 < 301) ∧ Q (bshr (h 48 x1) 5)
set_option maxRecDepth 100000 in
set_option maxHeartbeats 4000000 in
theorem M_X0_heavierPan {Γ : Gm} {l : Launch} {n : Nat} {g : aG} (hn : 59 ≤ n) (tg : TC g) (x1 : Int)  {h : aH} {Q : Int → Prop} (hw : wp_X0_heavierPan x1 h Q) : Cl Γ l mX0_heavierPan [vR 46, vI x1] n g h (PI g h Q) := by
  refine Cl.of (by decide) [some (vR 46), some (vI x1)] rfl (Nat.le_of_ble_eq_true rfl) ?_
  intro p e s m args below meth c a
  unfold wp_X0_heavierPan at hw
  refine ok_aload_n (pc := 0) a dX0_heavierPan_0 rfl rfl ?_
  refine ok_getR (pc := 1) a dX0_heavierPan_1 lfRX0_15 (Nat.lt_of_lt_of_le (by decide) hn) kq46 rfl (tg.at 46 1 48 (by decide) (by decide)) ?_
  refine ok_iload_n (pc := 4) a dX0_heavierPan_4 rfl rfl ?_
  obtain ⟨hc1, hw⟩ := hw
  refine ok_iald (pc := 5) a dX0_heavierPan_5 (Nat.lt_of_lt_of_le (by decide) hn) kq48 (by decide) hc1 ?_
  refine ok_iconst (pc := 6) a dX0_heavierPan_6 ?_
  refine ok_ishr (pc := 7) a dX0_heavierPan_7 ?_
  exact ok_iret (pc := 8) a dX0_heavierPan_8 ⟨_, rfl, rfl, rfl, hw⟩

def wp_X0_otherPan (x1 : Int) (h : aH) (Q : Int → Prop) : Prop :=
  (0 ≤ x1 ∧ x1 < 301) ∧ Q (band (h 48 x1) 31)
set_option maxRecDepth 100000 in
set_option maxHeartbeats 4000000 in
theorem M_X0_otherPan {Γ : Gm} {l : Launch} {n : Nat} {g : aG} (hn : 59 ≤ n) (tg : TC g) (x1 : Int)  {h : aH} {Q : Int → Prop} (hw : wp_X0_otherPan x1 h Q) : Cl Γ l mX0_otherPan [vR 46, vI x1] n g h (PI g h Q) := by
  refine Cl.of (by decide) [some (vR 46), some (vI x1)] rfl (Nat.le_of_ble_eq_true rfl) ?_
  intro p e s m args below meth c a
  unfold wp_X0_otherPan at hw
  refine ok_aload_n (pc := 0) a dX0_otherPan_0 rfl rfl ?_
  refine ok_getR (pc := 1) a dX0_otherPan_1 lfRX0_15 (Nat.lt_of_lt_of_le (by decide) hn) kq46 rfl (tg.at 46 1 48 (by decide) (by decide)) ?_
  refine ok_iload_n (pc := 4) a dX0_otherPan_4 rfl rfl ?_
  obtain ⟨hc1, hw⟩ := hw
  refine ok_iald (pc := 5) a dX0_otherPan_5 (Nat.lt_of_lt_of_le (by decide) hn) kq48 (by decide) hc1 ?_
  refine ok_bipush (pc := 6) a dX0_otherPan_6 (by decide) ?_
  refine ok_iand (pc := 8) a dX0_otherPan_8 ?_
  exact ok_iret (pc := 9) a dX0_otherPan_9 ⟨_, rfl, rfl, rfl, hw⟩

def wp_X0_range_B2 (h : aH) (Q : Int → Prop) (X2 : Int → Prop) (x1_2 : Int) : Prop :=
  inR x1_2 ∧ ((300 ≤ x1_2 → Q x1_2) ∧ (¬ 300 ≤ x1_2 → wp_X0_canWeigh (x1_2 + 1) h (fun r2 => ((r2 = 0 → Q x1_2) ∧ (¬ r2 = 0 → X2 (x1_2 + 1))))))
def wp_X0_range  (h : aH) (Q : Int → Prop) : Prop :=
  lp (fun X y => wp_X0_range_B2 h Q X y) 0
set_option maxRecDepth 100000 in
set_option maxHeartbeats 4000000 in
theorem M_X0_range {Γ : Gm} {l : Launch} {n : Nat} {g : aG} (hn : 59 ≤ n) (tg : TC g)   {h : aH} {Q : Int → Prop} (hw : wp_X0_range  h Q) : Cl Γ l mX0_range [vR 46] n g h (PI g h Q) := by
  refine Cl.of (by decide) [some (vR 46), none] rfl (Nat.le_of_ble_eq_true rfl) ?_
  intro p e s m args below meth c a
  unfold wp_X0_range at hw
  refine ok_iconst (pc := 0) a dX0_range_0 ?_
  refine ok_sI_n (pc := 1) a [some (vR 46), some (vI 0)] dX0_range_1 rfl (by decide) rfl rfl ?_
  refine lp.use (P := fun y => OK Γ p l e (rmd 1 n n) s m args below meth c n (MQ below (QQ Γ n (PI g h Q)) args s (n - n) (sl n - sl n) (AA Γ)) 2 [some (vR 46), some (vI y)] [] n g h) ?_ 0 hw
  clear hw
  intro X2 hX2 y hw
  generalize y = x1_2 at hw ⊢
  have hw : wp_X0_range_B2 h Q X2 x1_2 := hw
  unfold wp_X0_range_B2 at hw
  try dsimp only
  refine ok_iload_n (pc := 2) a dX0_range_2 rfl rfl ?_
  refine ok_sipush (pc := 3) a dX0_range_3 (by decide) ?_
  obtain ⟨hc1, hw⟩ := hw
  refine ok_icmp_ge (pc := 6) a 25 dX0_range_6 (by decide) hc1 ⟨by decide, by decide⟩ (fun hd5 => ?_) (fun hd5 => ?_)
  · have hw := hw.1 hd5
    refine ok_iload_n (pc := 25) a dX0_range_25 rfl rfl ?_
    exact ok_iret (pc := 26) a dX0_range_26 ⟨_, rfl, rfl, rfl, hw⟩
  · have hw := hw.2 hd5
    refine ok_aload_n (pc := 9) a dX0_range_9 rfl rfl ?_
    refine ok_iload_n (pc := 10) a dX0_range_10 rfl rfl ?_
    refine ok_iconst (pc := 11) a dX0_range_11 ?_
    refine ok_iadd (pc := 12) a dX0_range_12 ?_
    refine ok_VPZ (pc := 13) a [(vI (x1_2 + 1))] [] (M_X0_canWeigh hn tg (x1_2 + 1)  hw) dX0_range_13 lkRX0_44 rfl (Nat.lt_of_lt_of_le (by decide) hn) kq46 (by decide) rfl ⟨Nat.le_of_ble_eq_true rfl, Nat.le_of_ble_eq_true rfl⟩ rfl (Nat.le_of_ble_eq_true rfl) rfl (fun r2 hz3 hw => ?_)
    refine ok_if_eq (pc := 16) a 25 dX0_range_16 (by decide) (inR_b hz3) (fun hd4 => ?_) (fun hd4 => ?_)
    · have hw := hw.1 hd4
      refine ok_iload_n (pc := 25) a dX0_range_25 rfl rfl ?_
      exact ok_iret (pc := 26) a dX0_range_26 ⟨_, rfl, rfl, rfl, hw⟩
    · have hw := hw.2 hd4
      refine ok_inc (pc := 19) a [some (vR 46), some (vI (x1_2 + 1))] dX0_range_19 rfl (by decide) rfl rfl ?_
      refine ok_goto (pc := 22) a 2 dX0_range_22 (by decide) ?_
      exact hX2 (x1_2 + 1) hw

def wp_X1_dropRecords  (h : aH) (Q : aH → Prop) : Prop :=
  ∀ h1, h1 = up h 52 7 0 → ∀ h2, h2 = up h1 52 8 0 → Q h2
set_option maxRecDepth 100000 in
set_option maxHeartbeats 4000000 in
theorem M_X1_dropRecords {Γ : Gm} {l : Launch} {n : Nat} {g : aG} (hn : 59 ≤ n) (tg : TC g)   {h : aH} {Q : aH → Prop} (hw : wp_X1_dropRecords  h Q) : Cl Γ l mX1_dropRecords [vR 52] n g h (RV g Q) := by
  refine Cl.of (by decide) [some (vR 52)] rfl (Nat.le_of_ble_eq_true rfl) ?_
  intro p e s m args below meth c a
  unfold wp_X1_dropRecords at hw
  refine ok_aload_n (pc := 0) a dX1_dropRecords_0 rfl rfl ?_
  refine ok_iconst (pc := 1) a dX1_dropRecords_1 ?_
  refine ok_pI (pc := 2) 7 a dX1_dropRecords_2 lfRX1_37 fi_1_7 (Nat.lt_of_lt_of_le (by decide) hn) kq52 ty_1_7 rfl (fun h1 eh1 => ?_)
  have hw := hw h1 eh1
  refine ok_aload_n (pc := 5) a dX1_dropRecords_5 rfl rfl ?_
  refine ok_iconst (pc := 6) a dX1_dropRecords_6 ?_
  refine ok_pI (pc := 7) 8 a dX1_dropRecords_7 lfRX1_41 fi_1_8 (Nat.lt_of_lt_of_le (by decide) hn) kq52 ty_1_8 rfl (fun h2 eh2 => ?_)
  have hw := hw h2 eh2
  exact ok_vret (pc := 10) a dX1_dropRecords_10 ⟨rfl, rfl, hw⟩

def wp_X1_begin  (h : aH) (Q : aH → Prop) : Prop :=
  wp_X1_dropRecords h (fun h1 => ∀ h2, h2 = up h1 52 6 0 → Q h2)
set_option maxRecDepth 100000 in
set_option maxHeartbeats 4000000 in
theorem M_X1_begin {Γ : Gm} {l : Launch} {n : Nat} {g : aG} (hn : 59 ≤ n) (tg : TC g)   {h : aH} {Q : aH → Prop} (hw : wp_X1_begin  h Q) : Cl Γ l mX1_begin [vR 52] n g h (RV g Q) := by
  refine Cl.of (by decide) [some (vR 52)] rfl (Nat.le_of_ble_eq_true rfl) ?_
  intro p e s m args below meth c a
  unfold wp_X1_begin at hw
  refine ok_aload_n (pc := 0) a dX1_begin_0 rfl rfl ?_
  refine ok_VRV (pc := 1) a [] [] (M_X1_dropRecords hn tg   hw) dX1_begin_1 lkRX1_30 rfl (Nat.lt_of_lt_of_le (by decide) hn) kq52 (by decide) rfl ⟨Nat.le_of_ble_eq_true rfl, Nat.le_of_ble_eq_true rfl⟩ rfl (Nat.le_of_ble_eq_true rfl) rfl (fun h1 hw => ?_)
  refine ok_aload_n (pc := 4) a dX1_begin_4 rfl rfl ?_
  refine ok_iconst (pc := 5) a dX1_begin_5 ?_
  refine ok_pZ (pc := 6) 6 a dX1_begin_6 lfRX1_33 fi_1_6 (Nat.lt_of_lt_of_le (by decide) hn) kq52 ty_1_6 rfl (Or.inl rfl) (fun h2 eh2 => ?_)
  have hw := hw h2 eh2
  exact ok_vret (pc := 9) a dX1_begin_9 ⟨rfl, rfl, hw⟩

def wp_X1_addShown (x1 : Int) (x2 : Int) (x3 : Int) (h : aH) (Q : Int → aH → Prop) : Prop :=
  inR (h 52 7) ∧ (((h 52 7) < 6 → (0 ≤ (h 52 7) ∧ (h 52 7) < 6) ∧ ∀ h3, h3 = up h 53 (h 52 7) x1 → (0 ≤ (h3 52 7) ∧ (h3 52 7) < 6) ∧ ∀ h5, h5 = up h3 54 (h3 52 7) x2 → (0 ≤ (h5 52 7) ∧ (h5 52 7) < 6) ∧ ∀ h7, h7 = up h5 55 (h5 52 7) x3 → ∀ h8, h8 = up h7 52 7 ((h7 52 7) + 1) → Q 1 h8) ∧ (¬ (h 52 7) < 6 → Q 0 h))
set_option maxRecDepth 100000 in
set_option maxHeartbeats 4000000 in
theorem M_X1_addShown {Γ : Gm} {l : Launch} {n : Nat} {g : aG} (hn : 59 ≤ n) (tg : TC g) (x1 : Int) (x2 : Int) (x3 : Int)  {h : aH} {Q : Int → aH → Prop} (hw : wp_X1_addShown x1 x2 x3 h Q) : Cl Γ l mX1_addShown [vR 52, vI x1, vI x2, vI x3] n g h (RZ g Q) := by
  refine Cl.of (by decide) [some (vR 52), some (vI x1), some (vI x2), some (vI x3)] rfl (Nat.le_of_ble_eq_true rfl) ?_
  intro p e s m args below meth c a
  unfold wp_X1_addShown at hw
  refine ok_aload_n (pc := 0) a dX1_addShown_0 rfl rfl ?_
  refine ok_fI (pc := 1) 7 a dX1_addShown_1 lfRX1_37 (Nat.lt_of_lt_of_le (by decide) hn) kq52 ty_1_7 rfl ?_
  refine ok_bipush (pc := 4) a dX1_addShown_4 (by decide) ?_
  obtain ⟨hc1, hw⟩ := hw
  refine ok_icmp_lt (pc := 6) a 11 dX1_addShown_6 (by decide) hc1 ⟨by decide, by decide⟩ (fun hd9 => ?_) (fun hd9 => ?_)
  · have hw := hw.1 hd9
    refine ok_aload_n (pc := 11) a dX1_addShown_11 rfl rfl ?_
    refine ok_getR (pc := 12) a dX1_addShown_12 lfRX1_11 (Nat.lt_of_lt_of_le (by decide) hn) kq52 rfl (tg.at 52 0 53 (by decide) (by decide)) ?_
    refine ok_aload_n (pc := 15) a dX1_addShown_15 rfl rfl ?_
    refine ok_fI (pc := 16) 7 a dX1_addShown_16 lfRX1_37 (Nat.lt_of_lt_of_le (by decide) hn) kq52 ty_1_7 rfl ?_
    refine ok_iload_n (pc := 19) a dX1_addShown_19 rfl rfl ?_
    obtain ⟨hc2, hw⟩ := hw
    refine ok_iast (pc := 20) a dX1_addShown_20 (Nat.lt_of_lt_of_le (by decide) hn) kq53 (by decide) hc2 (ok_nmH (fun h3 eh3 => ?_))
    have hw := hw h3 eh3
    refine ok_aload_n (pc := 21) a dX1_addShown_21 rfl rfl ?_
    refine ok_getR (pc := 22) a dX1_addShown_22 lfRX1_15 (Nat.lt_of_lt_of_le (by decide) hn) kq52 rfl (tg.at 52 1 54 (by decide) (by decide)) ?_
    refine ok_aload_n (pc := 25) a dX1_addShown_25 rfl rfl ?_
    refine ok_fI (pc := 26) 7 a dX1_addShown_26 lfRX1_37 (Nat.lt_of_lt_of_le (by decide) hn) kq52 ty_1_7 rfl ?_
    refine ok_iload_n (pc := 29) a dX1_addShown_29 rfl rfl ?_
    obtain ⟨hc4, hw⟩ := hw
    refine ok_iast (pc := 30) a dX1_addShown_30 (Nat.lt_of_lt_of_le (by decide) hn) kq54 (by decide) hc4 (ok_nmH (fun h5 eh5 => ?_))
    have hw := hw h5 eh5
    refine ok_aload_n (pc := 31) a dX1_addShown_31 rfl rfl ?_
    refine ok_getR (pc := 32) a dX1_addShown_32 lfRX1_18 (Nat.lt_of_lt_of_le (by decide) hn) kq52 rfl (tg.at 52 2 55 (by decide) (by decide)) ?_
    refine ok_aload_n (pc := 35) a dX1_addShown_35 rfl rfl ?_
    refine ok_fI (pc := 36) 7 a dX1_addShown_36 lfRX1_37 (Nat.lt_of_lt_of_le (by decide) hn) kq52 ty_1_7 rfl ?_
    refine ok_iload_n (pc := 39) a dX1_addShown_39 rfl rfl ?_
    obtain ⟨hc6, hw⟩ := hw
    refine ok_iast (pc := 40) a dX1_addShown_40 (Nat.lt_of_lt_of_le (by decide) hn) kq55 (by decide) hc6 (ok_nmH (fun h7 eh7 => ?_))
    have hw := hw h7 eh7
    refine ok_aload_n (pc := 41) a dX1_addShown_41 rfl rfl ?_
    refine ok_dup (pc := 42) a dX1_addShown_42 (by rfl) ?_
    refine ok_fI (pc := 43) 7 a dX1_addShown_43 lfRX1_37 (Nat.lt_of_lt_of_le (by decide) hn) kq52 ty_1_7 rfl ?_
    refine ok_iconst (pc := 46) a dX1_addShown_46 ?_
    refine ok_iadd (pc := 47) a dX1_addShown_47 ?_
    refine ok_pI (pc := 48) 7 a dX1_addShown_48 lfRX1_37 fi_1_7 (Nat.lt_of_lt_of_le (by decide) hn) kq52 ty_1_7 rfl (fun h8 eh8 => ?_)
    have hw := hw h8 eh8
    refine ok_iconst (pc := 51) a dX1_addShown_51 ?_
    exact ok_zret (pc := 52) a dX1_addShown_52 (Or.inr rfl) ⟨_, rfl, rfl, (Or.inr rfl), hw⟩
  · have hw := hw.2 hd9
    refine ok_iconst (pc := 9) a dX1_addShown_9 ?_
    exact ok_zret (pc := 10) a dX1_addShown_10 (Or.inl rfl) ⟨_, rfl, rfl, (Or.inl rfl), hw⟩

def wp_X1_addSeen (x1 : Int) (x2 : Int) (h : aH) (Q : Int → aH → Prop) : Prop :=
  inR (h 52 8) ∧ (((h 52 8) < 6 → (0 ≤ (h 52 8) ∧ (h 52 8) < 6) ∧ ∀ h3, h3 = up h 56 (h 52 8) x1 → (0 ≤ (h3 52 8) ∧ (h3 52 8) < 6) ∧ ∀ h5, h5 = up h3 57 (h3 52 8) x2 → ∀ h6, h6 = up h5 52 8 ((h5 52 8) + 1) → Q 1 h6) ∧ (¬ (h 52 8) < 6 → Q 0 h))
set_option maxRecDepth 100000 in
set_option maxHeartbeats 4000000 in
theorem M_X1_addSeen {Γ : Gm} {l : Launch} {n : Nat} {g : aG} (hn : 59 ≤ n) (tg : TC g) (x1 : Int) (x2 : Int)  {h : aH} {Q : Int → aH → Prop} (hw : wp_X1_addSeen x1 x2 h Q) : Cl Γ l mX1_addSeen [vR 52, vI x1, vI x2] n g h (RZ g Q) := by
  refine Cl.of (by decide) [some (vR 52), some (vI x1), some (vI x2)] rfl (Nat.le_of_ble_eq_true rfl) ?_
  intro p e s m args below meth c a
  unfold wp_X1_addSeen at hw
  refine ok_aload_n (pc := 0) a dX1_addSeen_0 rfl rfl ?_
  refine ok_fI (pc := 1) 8 a dX1_addSeen_1 lfRX1_41 (Nat.lt_of_lt_of_le (by decide) hn) kq52 ty_1_8 rfl ?_
  refine ok_bipush (pc := 4) a dX1_addSeen_4 (by decide) ?_
  obtain ⟨hc1, hw⟩ := hw
  refine ok_icmp_lt (pc := 6) a 11 dX1_addSeen_6 (by decide) hc1 ⟨by decide, by decide⟩ (fun hd7 => ?_) (fun hd7 => ?_)
  · have hw := hw.1 hd7
    refine ok_aload_n (pc := 11) a dX1_addSeen_11 rfl rfl ?_
    refine ok_getR (pc := 12) a dX1_addSeen_12 lfRX1_21 (Nat.lt_of_lt_of_le (by decide) hn) kq52 rfl (tg.at 52 3 56 (by decide) (by decide)) ?_
    refine ok_aload_n (pc := 15) a dX1_addSeen_15 rfl rfl ?_
    refine ok_fI (pc := 16) 8 a dX1_addSeen_16 lfRX1_41 (Nat.lt_of_lt_of_le (by decide) hn) kq52 ty_1_8 rfl ?_
    refine ok_iload_n (pc := 19) a dX1_addSeen_19 rfl rfl ?_
    obtain ⟨hc2, hw⟩ := hw
    refine ok_iast (pc := 20) a dX1_addSeen_20 (Nat.lt_of_lt_of_le (by decide) hn) kq56 (by decide) hc2 (ok_nmH (fun h3 eh3 => ?_))
    have hw := hw h3 eh3
    refine ok_aload_n (pc := 21) a dX1_addSeen_21 rfl rfl ?_
    refine ok_getR (pc := 22) a dX1_addSeen_22 lfRX1_24 (Nat.lt_of_lt_of_le (by decide) hn) kq52 rfl (tg.at 52 4 57 (by decide) (by decide)) ?_
    refine ok_aload_n (pc := 25) a dX1_addSeen_25 rfl rfl ?_
    refine ok_fI (pc := 26) 8 a dX1_addSeen_26 lfRX1_41 (Nat.lt_of_lt_of_le (by decide) hn) kq52 ty_1_8 rfl ?_
    refine ok_iload_n (pc := 29) a dX1_addSeen_29 rfl rfl ?_
    obtain ⟨hc4, hw⟩ := hw
    refine ok_iast (pc := 30) a dX1_addSeen_30 (Nat.lt_of_lt_of_le (by decide) hn) kq57 (by decide) hc4 (ok_nmH (fun h5 eh5 => ?_))
    have hw := hw h5 eh5
    refine ok_aload_n (pc := 31) a dX1_addSeen_31 rfl rfl ?_
    refine ok_dup (pc := 32) a dX1_addSeen_32 (by rfl) ?_
    refine ok_fI (pc := 33) 8 a dX1_addSeen_33 lfRX1_41 (Nat.lt_of_lt_of_le (by decide) hn) kq52 ty_1_8 rfl ?_
    refine ok_iconst (pc := 36) a dX1_addSeen_36 ?_
    refine ok_iadd (pc := 37) a dX1_addSeen_37 ?_
    refine ok_pI (pc := 38) 8 a dX1_addSeen_38 lfRX1_41 fi_1_8 (Nat.lt_of_lt_of_le (by decide) hn) kq52 ty_1_8 rfl (fun h6 eh6 => ?_)
    have hw := hw h6 eh6
    refine ok_iconst (pc := 41) a dX1_addSeen_41 ?_
    exact ok_zret (pc := 42) a dX1_addSeen_42 (Or.inr rfl) ⟨_, rfl, rfl, (Or.inr rfl), hw⟩
  · have hw := hw.2 hd7
    refine ok_iconst (pc := 9) a dX1_addSeen_9 ?_
    exact ok_zret (pc := 10) a dX1_addSeen_10 (Or.inl rfl) ⟨_, rfl, rfl, (Or.inl rfl), hw⟩

def wp_X1_prepareWays_B70 (X40 : Int × aH → Prop) (x4_40 : Int) (x5_65 : Int) (X70 : Int × aH → Prop) (x6_70 : Int) (h_70 : aH) : Prop :=
  inR x6_70 ∧ ((9 < x6_70 → X40 ((x4_40 + 1), h_70)) ∧ (¬ 9 < x6_70 → (0 ≤ (x5_65 + (x6_70 * (h_70 4 3))) ∧ (x5_65 + (x6_70 * (h_70 4 3))) < 721) ∧ ∀ h9, h9 = up h_70 58 (x5_65 + (x6_70 * (h_70 4 3))) ((h_70 58 (x5_65 + (x6_70 * (h_70 4 3)))) + 1) → X70 ((x6_70 + 1), h9)))
def wp_X1_prepareWays_B40 (x2_23 : Int) (X31 : Int × aH → Prop) (x3_31 : Int) (X40 : Int × aH → Prop) (x4_40 : Int) (h_40 : aH) : Prop :=
  inR x4_40 ∧ ((9 < x4_40 → X31 ((x3_31 + 1), h_40)) ∧ (¬ 9 < x4_40 → ∀ x5_65, x5_65 = (((x2_23 * (h_40 4 0)) + (x3_31 * (h_40 4 1))) + (x4_40 * (h_40 4 2))) → lp (fun X y => wp_X1_prepareWays_B70 X40 x4_40 x5_65 X y.1 y.2) (0, h_40)))
def wp_X1_prepareWays_B31 (X23 : Int × aH → Prop) (x2_23 : Int) (X31 : Int × aH → Prop) (x3_31 : Int) (h_31 : aH) : Prop :=
  inR x3_31 ∧ ((9 < x3_31 → X23 ((x2_23 + 1), h_31)) ∧ (¬ 9 < x3_31 → lp (fun X y => wp_X1_prepareWays_B40 x2_23 X31 x3_31 X y.1 y.2) (0, h_31)))
def wp_X1_prepareWays_B23 (Q : aH → Prop) (X23 : Int × aH → Prop) (x2_23 : Int) (h_23 : aH) : Prop :=
  inR x2_23 ∧ ((9 < x2_23 → Q h_23) ∧ (¬ 9 < x2_23 → lp (fun X y => wp_X1_prepareWays_B31 X23 x2_23 X y.1 y.2) (0, h_23)))
def wp_X1_prepareWays  (h : aH) (Q : aH → Prop) : Prop :=
  inR (h 52 6) ∧ (((h 52 6) = 0 → ∀ h2, h2 = up h 52 6 1 → wp_J7_fill_53178 58 721 0 h2 (fun h3 => lp (fun X y => wp_X1_prepareWays_B23 Q X y.1 y.2) (0, h3))) ∧ (¬ (h 52 6) = 0 → Q h))
set_option maxRecDepth 100000 in
set_option maxHeartbeats 4000000 in
theorem M_X1_prepareWays {Γ : Gm} {l : Launch} {n : Nat} {g : aG} (hn : 59 ≤ n) (tg : TC g)   {h : aH} {Q : aH → Prop} (hw : wp_X1_prepareWays  h Q) : Cl Γ l mX1_prepareWays [vR 52, vR 4] n g h (RV g Q) := by
  refine Cl.of (by decide) [some (vR 52), some (vR 4), none, none, none, none, none] rfl (Nat.le_of_ble_eq_true rfl) ?_
  intro p e s m args below meth c a
  unfold wp_X1_prepareWays at hw
  refine ok_aload_n (pc := 0) a dX1_prepareWays_0 rfl rfl ?_
  refine ok_fZ (pc := 1) 6 a dX1_prepareWays_1 lfRX1_33 (Nat.lt_of_lt_of_le (by decide) hn) kq52 ty_1_6 rfl ?_
  obtain ⟨hc1, hw⟩ := hw
  refine ok_if_eq (pc := 4) a 8 dX1_prepareWays_4 (by decide) hc1 (fun hd14 => ?_) (fun hd14 => ?_)
  · have hw := hw.1 hd14
    refine ok_aload_n (pc := 8) a dX1_prepareWays_8 rfl rfl ?_
    refine ok_iconst (pc := 9) a dX1_prepareWays_9 ?_
    refine ok_pZ (pc := 10) 6 a dX1_prepareWays_10 lfRX1_33 fi_1_6 (Nat.lt_of_lt_of_le (by decide) hn) kq52 ty_1_6 rfl (Or.inr rfl) (fun h2 eh2 => ?_)
    have hw := hw h2 eh2
    refine ok_aload_n (pc := 13) a dX1_prepareWays_13 rfl rfl ?_
    refine ok_getR (pc := 14) a dX1_prepareWays_14 lfRX1_27 (Nat.lt_of_lt_of_le (by decide) hn) kq52 rfl (tg.at 52 5 58 (by decide) (by decide)) ?_
    refine ok_iconst (pc := 17) a dX1_prepareWays_17 ?_
    refine ok_SRV (pc := 18) a [(vR 58), (vI 0)] [] (M_J7_fill_53178 hn tg 58 721 0 (by decide) kq58 (by decide) hw) dX1_prepareWays_18 lkRX1_44 rfl ⟨Nat.le_of_ble_eq_true rfl, Nat.le_of_ble_eq_true rfl⟩ rfl (Nat.le_of_ble_eq_true rfl) rfl (fun h3 hw => ?_)
    refine ok_iconst (pc := 21) a dX1_prepareWays_21 ?_
    refine ok_sI_n (pc := 22) a [some (vR 52), some (vR 4), some (vI 0), none, none, none, none] dX1_prepareWays_22 rfl (by decide) rfl rfl ?_
    refine lp.use (P := fun y => OK Γ p l e (rmd 1 n n) s m args below meth c n (MQ below (QQ Γ n (RV g Q)) args s (n - n) (sl n - sl n) (AA Γ)) 23 [some (vR 52), some (vR 4), some (vI y.1), none, none, none, none] [] n g y.2) ?_ (0, h3) hw
    clear hw
    intro X23 hX23 y hw
    obtain ⟨x2_23, h_23⟩ := y
    have hw : wp_X1_prepareWays_B23 Q X23 x2_23 h_23 := hw
    unfold wp_X1_prepareWays_B23 at hw
    try dsimp only
    refine ok_iload_n (pc := 23) a dX1_prepareWays_23 rfl rfl ?_
    refine ok_bipush (pc := 24) a dX1_prepareWays_24 (by decide) ?_
    obtain ⟨hc4, hw⟩ := hw
    refine ok_icmp_gt (pc := 26) a 119 dX1_prepareWays_26 (by decide) hc4 ⟨by decide, by decide⟩ (fun hd13 => ?_) (fun hd13 => ?_)
    · have hw := hw.1 hd13
      exact ok_vret (pc := 119) a dX1_prepareWays_119 ⟨rfl, rfl, hw⟩
    · have hw := hw.2 hd13
      refine ok_iconst (pc := 29) a dX1_prepareWays_29 ?_
      refine ok_sI_n (pc := 30) a [some (vR 52), some (vR 4), some (vI x2_23), some (vI 0), none, none, none] dX1_prepareWays_30 rfl (by decide) rfl rfl ?_
      refine lp.use (P := fun y => OK Γ p l e (rmd 1 n n) s m args below meth c n (MQ below (QQ Γ n (RV g Q)) args s (n - n) (sl n - sl n) (AA Γ)) 31 [some (vR 52), some (vR 4), some (vI x2_23), some (vI y.1), none, none, none] [] n g y.2) ?_ (0, h_23) hw
      clear hw
      intro X31 hX31 y hw
      obtain ⟨x3_31, h_31⟩ := y
      have hw : wp_X1_prepareWays_B31 X23 x2_23 X31 x3_31 h_31 := hw
      unfold wp_X1_prepareWays_B31 at hw
      try dsimp only
      refine ok_iload_n (pc := 31) a dX1_prepareWays_31 rfl rfl ?_
      refine ok_bipush (pc := 32) a dX1_prepareWays_32 (by decide) ?_
      obtain ⟨hc5, hw⟩ := hw
      refine ok_icmp_gt (pc := 34) a 113 dX1_prepareWays_34 (by decide) hc5 ⟨by decide, by decide⟩ (fun hd12 => ?_) (fun hd12 => ?_)
      · have hw := hw.1 hd12
        refine ok_inc (pc := 113) a [some (vR 52), some (vR 4), some (vI (x2_23 + 1)), some (vI x3_31), none, none, none] dX1_prepareWays_113 rfl (by decide) rfl rfl ?_
        refine ok_goto (pc := 116) a 23 dX1_prepareWays_116 (by decide) ?_
        refine ok_forget 3 ?_
        exact hX23 ((x2_23 + 1), h_31) hw
      · have hw := hw.2 hd12
        refine ok_iconst (pc := 37) a dX1_prepareWays_37 ?_
        refine ok_sI (pc := 38) a [some (vR 52), some (vR 4), some (vI x2_23), some (vI x3_31), some (vI 0), none, none] dX1_prepareWays_38 (by decide) rfl rfl ?_
        refine lp.use (P := fun y => OK Γ p l e (rmd 1 n n) s m args below meth c n (MQ below (QQ Γ n (RV g Q)) args s (n - n) (sl n - sl n) (AA Γ)) 40 [some (vR 52), some (vR 4), some (vI x2_23), some (vI x3_31), some (vI y.1), none, none] [] n g y.2) ?_ (0, h_31) hw
        clear hw
        intro X40 hX40 y hw
        obtain ⟨x4_40, h_40⟩ := y
        have hw : wp_X1_prepareWays_B40 x2_23 X31 x3_31 X40 x4_40 h_40 := hw
        unfold wp_X1_prepareWays_B40 at hw
        try dsimp only
        refine ok_iload (pc := 40) a dX1_prepareWays_40 rfl ?_
        refine ok_bipush (pc := 42) a dX1_prepareWays_42 (by decide) ?_
        obtain ⟨hc6, hw⟩ := hw
        refine ok_icmp_gt (pc := 44) a 107 dX1_prepareWays_44 (by decide) hc6 ⟨by decide, by decide⟩ (fun hd11 => ?_) (fun hd11 => ?_)
        · have hw := hw.1 hd11
          refine ok_inc (pc := 107) a [some (vR 52), some (vR 4), some (vI x2_23), some (vI (x3_31 + 1)), some (vI x4_40), none, none] dX1_prepareWays_107 rfl (by decide) rfl rfl ?_
          refine ok_goto (pc := 110) a 31 dX1_prepareWays_110 (by decide) ?_
          refine ok_forget 4 ?_
          exact hX31 ((x3_31 + 1), h_40) hw
        · have hw := hw.2 hd11
          refine ok_iload_n (pc := 47) a dX1_prepareWays_47 rfl rfl ?_
          refine ok_aload_n (pc := 48) a dX1_prepareWays_48 rfl rfl ?_
          refine ok_iconst (pc := 49) a dX1_prepareWays_49 ?_
          refine ok_iald (pc := 50) a dX1_prepareWays_50 (Nat.lt_of_lt_of_le (by decide) hn) kq4 (by decide) ⟨by decide, by decide⟩ ?_
          refine ok_imul (pc := 51) a dX1_prepareWays_51 ?_
          refine ok_iload_n (pc := 52) a dX1_prepareWays_52 rfl rfl ?_
          refine ok_aload_n (pc := 53) a dX1_prepareWays_53 rfl rfl ?_
          refine ok_iconst (pc := 54) a dX1_prepareWays_54 ?_
          refine ok_iald (pc := 55) a dX1_prepareWays_55 (Nat.lt_of_lt_of_le (by decide) hn) kq4 (by decide) ⟨by decide, by decide⟩ ?_
          refine ok_imul (pc := 56) a dX1_prepareWays_56 ?_
          refine ok_iadd (pc := 57) a dX1_prepareWays_57 ?_
          refine ok_iload (pc := 58) a dX1_prepareWays_58 rfl ?_
          refine ok_aload_n (pc := 60) a dX1_prepareWays_60 rfl rfl ?_
          refine ok_iconst (pc := 61) a dX1_prepareWays_61 ?_
          refine ok_iald (pc := 62) a dX1_prepareWays_62 (Nat.lt_of_lt_of_le (by decide) hn) kq4 (by decide) ⟨by decide, by decide⟩ ?_
          refine ok_imul (pc := 63) a dX1_prepareWays_63 ?_
          refine ok_iadd (pc := 64) a dX1_prepareWays_64 ?_
          refine ok_nmI (fun x5_65 ex5_65 => ?_)
          have hw := hw x5_65 ex5_65
          refine ok_sI (pc := 65) a [some (vR 52), some (vR 4), some (vI x2_23), some (vI x3_31), some (vI x4_40), some (vI x5_65), none] dX1_prepareWays_65 (by decide) rfl rfl ?_
          refine ok_iconst (pc := 67) a dX1_prepareWays_67 ?_
          refine ok_sI (pc := 68) a [some (vR 52), some (vR 4), some (vI x2_23), some (vI x3_31), some (vI x4_40), some (vI x5_65), some (vI 0)] dX1_prepareWays_68 (by decide) rfl rfl ?_
          refine lp.use (P := fun y => OK Γ p l e (rmd 1 n n) s m args below meth c n (MQ below (QQ Γ n (RV g Q)) args s (n - n) (sl n - sl n) (AA Γ)) 70 [some (vR 52), some (vR 4), some (vI x2_23), some (vI x3_31), some (vI x4_40), some (vI x5_65), some (vI y.1)] [] n g y.2) ?_ (0, h_40) hw
          clear hw
          intro X70 hX70 y hw
          obtain ⟨x6_70, h_70⟩ := y
          have hw : wp_X1_prepareWays_B70 X40 x4_40 x5_65 X70 x6_70 h_70 := hw
          unfold wp_X1_prepareWays_B70 at hw
          try dsimp only
          refine ok_iload (pc := 70) a dX1_prepareWays_70 rfl ?_
          refine ok_bipush (pc := 72) a dX1_prepareWays_72 (by decide) ?_
          obtain ⟨hc7, hw⟩ := hw
          refine ok_icmp_gt (pc := 74) a 101 dX1_prepareWays_74 (by decide) hc7 ⟨by decide, by decide⟩ (fun hd10 => ?_) (fun hd10 => ?_)
          · have hw := hw.1 hd10
            refine ok_inc (pc := 101) a [some (vR 52), some (vR 4), some (vI x2_23), some (vI x3_31), some (vI (x4_40 + 1)), some (vI x5_65), some (vI x6_70)] dX1_prepareWays_101 rfl (by decide) rfl rfl ?_
            refine ok_goto (pc := 104) a 40 dX1_prepareWays_104 (by decide) ?_
            refine ok_forget 5 ?_
            refine ok_forget 6 ?_
            exact hX40 ((x4_40 + 1), h_70) hw
          · have hw := hw.2 hd10
            refine ok_aload_n (pc := 77) a dX1_prepareWays_77 rfl rfl ?_
            refine ok_getR (pc := 78) a dX1_prepareWays_78 lfRX1_27 (Nat.lt_of_lt_of_le (by decide) hn) kq52 rfl (tg.at 52 5 58 (by decide) (by decide)) ?_
            refine ok_iload (pc := 81) a dX1_prepareWays_81 rfl ?_
            refine ok_iload (pc := 83) a dX1_prepareWays_83 rfl ?_
            refine ok_aload_n (pc := 85) a dX1_prepareWays_85 rfl rfl ?_
            refine ok_iconst (pc := 86) a dX1_prepareWays_86 ?_
            refine ok_iald (pc := 87) a dX1_prepareWays_87 (Nat.lt_of_lt_of_le (by decide) hn) kq4 (by decide) ⟨by decide, by decide⟩ ?_
            refine ok_imul (pc := 88) a dX1_prepareWays_88 ?_
            refine ok_iadd (pc := 89) a dX1_prepareWays_89 ?_
            refine ok_dup2 (pc := 90) a dX1_prepareWays_90 (by rfl) (by rfl) ?_
            obtain ⟨hc8, hw⟩ := hw
            refine ok_iald (pc := 91) a dX1_prepareWays_91 (Nat.lt_of_lt_of_le (by decide) hn) kq58 (by decide) hc8 ?_
            refine ok_iconst (pc := 92) a dX1_prepareWays_92 ?_
            refine ok_iadd (pc := 93) a dX1_prepareWays_93 ?_
            refine ok_iast (pc := 94) a dX1_prepareWays_94 (Nat.lt_of_lt_of_le (by decide) hn) kq58 (by decide) hc8 (ok_nmH (fun h9 eh9 => ?_))
            have hw := hw h9 eh9
            refine ok_inc (pc := 95) a [some (vR 52), some (vR 4), some (vI x2_23), some (vI x3_31), some (vI x4_40), some (vI x5_65), some (vI (x6_70 + 1))] dX1_prepareWays_95 rfl (by decide) rfl rfl ?_
            refine ok_goto (pc := 98) a 70 dX1_prepareWays_98 (by decide) ?_
            exact hX70 ((x6_70 + 1), h9) hw
  · have hw := hw.2 hd14
    exact ok_vret (pc := 7) a dX1_prepareWays_7 ⟨rfl, rfl, hw⟩

def wp_J9_max_7cf53 (x0 : Int) (x1 : Int) (h : aH) (Q : Int → Prop) : Prop :=
  (inR x0 ∧ inR x1 ∧ True) ∧ Q (if x0 < x1 then x1 else x0 : Int)
set_option maxRecDepth 100000 in
set_option maxHeartbeats 4000000 in
theorem M_J9_max_7cf53 {Γ : Gm} {l : Launch} {n : Nat} {g : aG} (hn : 59 ≤ n) (tg : TC g) (x0 : Int) (x1 : Int)  {h : aH} {Q : Int → Prop} (hw : wp_J9_max_7cf53 x0 x1 h Q) : Cl Γ l mJ9_max_7cf53 [vI x0, vI x1] n g h (PI g h Q) := by
  refine Cl.of (by decide) [some (vI x0), some (vI x1)] rfl (Nat.le_of_ble_eq_true rfl) ?_
  intro p e s m args below meth c a
  unfold wp_J9_max_7cf53 at hw
  refine ok_iload_n (pc := 0) a dJ9_max_7cf53_0 rfl rfl ?_
  refine ok_iload_n (pc := 1) a dJ9_max_7cf53_1 rfl rfl ?_
  obtain ⟨hR, hw⟩ := hw
  have hK : OK Γ p l e (rmd 0 n n) s m args below meth c n (MQ below (QQ Γ n (PI g h Q)) args s (n - n) (sl n - sl n) (AA Γ)) 10 [some (vI x0), some (vI x1)] [(vI (if x0 < x1 then x1 else x0 : Int))] n g h := by
    exact ok_iret (pc := 10) a dJ9_max_7cf53_10 ⟨_, rfl, rfl, rfl, hw⟩
  have hw := hR
  obtain ⟨hc1, hw⟩ := hw
  obtain ⟨hc2, hw⟩ := hw
  refine ok_icmp_lt (pc := 2) a 9 dJ9_max_7cf53_2 (by decide) hc1 hc2 (fun hd3 => ?_) (fun hd3 => ?_)
  · refine ok_iload_n (pc := 9) a dJ9_max_7cf53_9 rfl rfl ?_
    simp only [if_pos hd3] at hK
    exact hK
  · refine ok_iload_n (pc := 5) a dJ9_max_7cf53_5 rfl rfl ?_
    refine ok_goto (pc := 6) a 10 dJ9_max_7cf53_6 (by decide) ?_
    simp only [if_neg hd3] at hK
    exact hK

def wp_X1_lowestOf_J68 (X4 : Int × Int → Prop) (x3_4 : Int) (x2_68 : Int) : Prop :=
  X4 (x2_68, (x3_4 + 1))
def wp_X1_lowestOf_B4 (x1 : Int) (h : aH) (Q : Int → Prop) (X4 : Int × Int → Prop) (x2_4 : Int) (x3_4 : Int) : Prop :=
  inR x3_4 ∧ inR (h 52 7) ∧ (((h 52 7) ≤ x3_4 → Q x2_4) ∧ (¬ (h 52 7) ≤ x3_4 → (0 ≤ x3_4 ∧ x3_4 < 6) ∧ inR (h 53 x3_4) ∧ inR x1 ∧ (((h 53 x3_4) = x1 → inR (h 55 x3_4) ∧ (((h 55 x3_4) = 2 → wp_X1_lowestOf_J68 X4 x3_4 x2_4) ∧ (¬ (h 55 x3_4) = 2 → ∀ x4_59, x4_59 = (if (h 55 x3_4) = 1 then ((h 54 x3_4) + 1) else (h 54 x3_4) : Int) → wp_J9_max_7cf53 x2_4 x4_59 h (fun r8 => wp_X1_lowestOf_J68 X4 x3_4 r8)))) ∧ (¬ (h 53 x3_4) = x1 → wp_X1_lowestOf_J68 X4 x3_4 x2_4))))
def wp_X1_lowestOf (x1 : Int) (h : aH) (Q : Int → Prop) : Prop :=
  lp (fun X y => wp_X1_lowestOf_B4 x1 h Q X y.1 y.2) (0, 0)
set_option maxRecDepth 100000 in
set_option maxHeartbeats 4000000 in
theorem M_X1_lowestOf {Γ : Gm} {l : Launch} {n : Nat} {g : aG} (hn : 59 ≤ n) (tg : TC g) (x1 : Int)  {h : aH} {Q : Int → Prop} (hw : wp_X1_lowestOf x1 h Q) : Cl Γ l mX1_lowestOf [vR 52, vI x1] n g h (PI g h Q) := by
  refine Cl.of (by decide) [some (vR 52), some (vI x1), none, none, none] rfl (Nat.le_of_ble_eq_true rfl) ?_
  intro p e s m args below meth c a
  unfold wp_X1_lowestOf at hw
  refine ok_iconst (pc := 0) a dX1_lowestOf_0 ?_
  refine ok_sI_n (pc := 1) a [some (vR 52), some (vI x1), some (vI 0), none, none] dX1_lowestOf_1 rfl (by decide) rfl rfl ?_
  refine ok_iconst (pc := 2) a dX1_lowestOf_2 ?_
  refine ok_sI_n (pc := 3) a [some (vR 52), some (vI x1), some (vI 0), some (vI 0), none] dX1_lowestOf_3 rfl (by decide) rfl rfl ?_
  refine lp.use (P := fun y => OK Γ p l e (rmd 1 n n) s m args below meth c n (MQ below (QQ Γ n (PI g h Q)) args s (n - n) (sl n - sl n) (AA Γ)) 4 [some (vR 52), some (vI x1), some (vI y.1), some (vI y.2), none] [] n g h) ?_ (0, 0) hw
  clear hw
  intro X4 hX4 y hw
  obtain ⟨x2_4, x3_4⟩ := y
  have hw : wp_X1_lowestOf_B4 x1 h Q X4 x2_4 x3_4 := hw
  unfold wp_X1_lowestOf_B4 at hw
  try dsimp only
  refine ok_iload_n (pc := 4) a dX1_lowestOf_4 rfl rfl ?_
  refine ok_aload_n (pc := 5) a dX1_lowestOf_5 rfl rfl ?_
  refine ok_fI (pc := 6) 7 a dX1_lowestOf_6 lfRX1_37 (Nat.lt_of_lt_of_le (by decide) hn) kq52 ty_1_7 rfl ?_
  obtain ⟨hc1, hw⟩ := hw
  obtain ⟨hc2, hw⟩ := hw
  refine ok_icmp_ge (pc := 9) a 74 dX1_lowestOf_9 (by decide) hc1 hc2 (fun hd11 => ?_) (fun hd11 => ?_)
  · have hw := hw.1 hd11
    refine ok_iload_n (pc := 74) a dX1_lowestOf_74 rfl rfl ?_
    exact ok_iret (pc := 75) a dX1_lowestOf_75 ⟨_, rfl, rfl, rfl, hw⟩
  · have hw := hw.2 hd11
    refine ok_aload_n (pc := 12) a dX1_lowestOf_12 rfl rfl ?_
    refine ok_getR (pc := 13) a dX1_lowestOf_13 lfRX1_11 (Nat.lt_of_lt_of_le (by decide) hn) kq52 rfl (tg.at 52 0 53 (by decide) (by decide)) ?_
    refine ok_iload_n (pc := 16) a dX1_lowestOf_16 rfl rfl ?_
    obtain ⟨hc3, hw⟩ := hw
    refine ok_iald (pc := 17) a dX1_lowestOf_17 (Nat.lt_of_lt_of_le (by decide) hn) kq53 (by decide) hc3 ?_
    refine ok_iload_n (pc := 18) a dX1_lowestOf_18 rfl rfl ?_
    obtain ⟨hc4, hw⟩ := hw
    obtain ⟨hc5, hw⟩ := hw
    have hJ68 : ∀ (x2_68 : Int), wp_X1_lowestOf_J68 X4 x3_4 x2_68 → OK Γ p l e (rmd 1 n n) s m args below meth c n (MQ below (QQ Γ n (PI g h Q)) args s (n - n) (sl n - sl n) (AA Γ)) 68 [some (vR 52), some (vI x1), some (vI x2_68), some (vI x3_4), none] [] n g h := by
      intro x2_68 hw
      unfold wp_X1_lowestOf_J68 at hw
      refine ok_inc (pc := 68) a [some (vR 52), some (vI x1), some (vI x2_68), some (vI (x3_4 + 1)), none] dX1_lowestOf_68 rfl (by decide) rfl rfl ?_
      refine ok_goto (pc := 71) a 4 dX1_lowestOf_71 (by decide) ?_
      exact hX4 (x2_68, (x3_4 + 1)) hw
    refine ok_icmp_ne (pc := 19) a 68 dX1_lowestOf_19 (by decide) hc4 hc5 (fun hd10 => ?_) (fun hd10 => ?_)
    · have hw := hw.2 hd10
      exact hJ68 x2_4 hw
    · have hw := hw.1 hd10
      refine ok_aload_n (pc := 22) a dX1_lowestOf_22 rfl rfl ?_
      refine ok_getR (pc := 23) a dX1_lowestOf_23 lfRX1_18 (Nat.lt_of_lt_of_le (by decide) hn) kq52 rfl (tg.at 52 2 55 (by decide) (by decide)) ?_
      refine ok_iload_n (pc := 26) a dX1_lowestOf_26 rfl rfl ?_
      refine ok_iald (pc := 27) a dX1_lowestOf_27 (Nat.lt_of_lt_of_le (by decide) hn) kq55 (by decide) hc3 ?_
      refine ok_iconst (pc := 28) a dX1_lowestOf_28 ?_
      obtain ⟨hc6, hw⟩ := hw
      refine ok_icmp_eq (pc := 29) a 68 dX1_lowestOf_29 (by decide) hc6 ⟨by decide, by decide⟩ (fun hd9 => ?_) (fun hd9 => ?_)
      · have hw := hw.1 hd9
        exact hJ68 x2_4 hw
      · have hw := hw.2 hd9
        refine ok_aload_n (pc := 32) a dX1_lowestOf_32 rfl rfl ?_
        refine ok_getR (pc := 33) a dX1_lowestOf_33 lfRX1_18 (Nat.lt_of_lt_of_le (by decide) hn) kq52 rfl (tg.at 52 2 55 (by decide) (by decide)) ?_
        refine ok_iload_n (pc := 36) a dX1_lowestOf_36 rfl rfl ?_
        refine ok_iald (pc := 37) a dX1_lowestOf_37 (Nat.lt_of_lt_of_le (by decide) hn) kq55 (by decide) hc3 ?_
        refine ok_iconst (pc := 38) a dX1_lowestOf_38 ?_
        have hK : OK Γ p l e (rmd 1 n n) s m args below meth c n (MQ below (QQ Γ n (PI g h Q)) args s (n - n) (sl n - sl n) (AA Γ)) 59 [some (vR 52), some (vI x1), some (vI x2_4), some (vI x3_4), none] [(vI (if (h 55 x3_4) = 1 then ((h 54 x3_4) + 1) else (h 54 x3_4) : Int))] n g h := by
          refine ok_nmI (fun x4_59 ex4_59 => ?_)
          have hw := hw x4_59 ex4_59
          refine ok_sI (pc := 59) a [some (vR 52), some (vI x1), some (vI x2_4), some (vI x3_4), some (vI x4_59)] dX1_lowestOf_59 (by decide) rfl rfl ?_
          refine ok_iload_n (pc := 61) a dX1_lowestOf_61 rfl rfl ?_
          refine ok_iload (pc := 62) a dX1_lowestOf_62 rfl ?_
          refine ok_SPI (pc := 64) a [(vI x2_4), (vI x4_59)] [] (M_J9_max_7cf53 hn tg x2_4 x4_59  hw) dX1_lowestOf_64 lkRX1_50 rfl ⟨Nat.le_of_ble_eq_true rfl, Nat.le_of_ble_eq_true rfl⟩ rfl (Nat.le_of_ble_eq_true rfl) rfl (fun r8 hw => ?_)
          refine ok_sI_n (pc := 67) a [some (vR 52), some (vI x1), some (vI r8), some (vI x3_4), some (vI x4_59)] dX1_lowestOf_67 rfl (by decide) rfl rfl ?_
          refine ok_forget 4 ?_
          exact hJ68 r8 hw
        refine ok_icmp_ne (pc := 39) a 53 dX1_lowestOf_39 (by decide) hc6 ⟨by decide, by decide⟩ (fun hd7 => ?_) (fun hd7 => ?_)
        · refine ok_aload_n (pc := 53) a dX1_lowestOf_53 rfl rfl ?_
          refine ok_getR (pc := 54) a dX1_lowestOf_54 lfRX1_15 (Nat.lt_of_lt_of_le (by decide) hn) kq52 rfl (tg.at 52 1 54 (by decide) (by decide)) ?_
          refine ok_iload_n (pc := 57) a dX1_lowestOf_57 rfl rfl ?_
          refine ok_iald (pc := 58) a dX1_lowestOf_58 (Nat.lt_of_lt_of_le (by decide) hn) kq54 (by decide) hc3 ?_
          simp only [if_neg hd7] at hK
          exact hK
        · refine ok_aload_n (pc := 42) a dX1_lowestOf_42 rfl rfl ?_
          refine ok_getR (pc := 43) a dX1_lowestOf_43 lfRX1_15 (Nat.lt_of_lt_of_le (by decide) hn) kq52 rfl (tg.at 52 1 54 (by decide) (by decide)) ?_
          refine ok_iload_n (pc := 46) a dX1_lowestOf_46 rfl rfl ?_
          refine ok_iald (pc := 47) a dX1_lowestOf_47 (Nat.lt_of_lt_of_le (by decide) hn) kq54 (by decide) hc3 ?_
          refine ok_iconst (pc := 48) a dX1_lowestOf_48 ?_
          refine ok_iadd (pc := 49) a dX1_lowestOf_49 ?_
          refine ok_goto (pc := 50) a 59 dX1_lowestOf_50 (by decide) ?_
          simp only [if_pos hd7] at hK
          exact hK

def wp_J9_min_7cf53 (x0 : Int) (x1 : Int) (h : aH) (Q : Int → Prop) : Prop :=
  (inR x0 ∧ inR x1 ∧ True) ∧ Q (if x1 < x0 then x1 else x0 : Int)
set_option maxRecDepth 100000 in
set_option maxHeartbeats 4000000 in
theorem M_J9_min_7cf53 {Γ : Gm} {l : Launch} {n : Nat} {g : aG} (hn : 59 ≤ n) (tg : TC g) (x0 : Int) (x1 : Int)  {h : aH} {Q : Int → Prop} (hw : wp_J9_min_7cf53 x0 x1 h Q) : Cl Γ l mJ9_min_7cf53 [vI x0, vI x1] n g h (PI g h Q) := by
  refine Cl.of (by decide) [some (vI x0), some (vI x1)] rfl (Nat.le_of_ble_eq_true rfl) ?_
  intro p e s m args below meth c a
  unfold wp_J9_min_7cf53 at hw
  refine ok_iload_n (pc := 0) a dJ9_min_7cf53_0 rfl rfl ?_
  refine ok_iload_n (pc := 1) a dJ9_min_7cf53_1 rfl rfl ?_
  obtain ⟨hR, hw⟩ := hw
  have hK : OK Γ p l e (rmd 0 n n) s m args below meth c n (MQ below (QQ Γ n (PI g h Q)) args s (n - n) (sl n - sl n) (AA Γ)) 10 [some (vI x0), some (vI x1)] [(vI (if x1 < x0 then x1 else x0 : Int))] n g h := by
    exact ok_iret (pc := 10) a dJ9_min_7cf53_10 ⟨_, rfl, rfl, rfl, hw⟩
  have hw := hR
  obtain ⟨hc1, hw⟩ := hw
  obtain ⟨hc2, hw⟩ := hw
  refine ok_icmp_gt (pc := 2) a 9 dJ9_min_7cf53_2 (by decide) hc1 hc2 (fun hd3 => ?_) (fun hd3 => ?_)
  · refine ok_iload_n (pc := 9) a dJ9_min_7cf53_9 rfl rfl ?_
    simp only [if_pos hd3] at hK
    exact hK
  · refine ok_iload_n (pc := 5) a dJ9_min_7cf53_5 rfl rfl ?_
    refine ok_goto (pc := 6) a 10 dJ9_min_7cf53_6 (by decide) ?_
    simp only [if_neg hd3] at hK
    exact hK

def wp_X1_highestOf_J70 (X6 : Int × Int → Prop) (x3_6 : Int) (x2_70 : Int) : Prop :=
  X6 (x2_70, (x3_6 + 1))
def wp_X1_highestOf_B6 (x1 : Int) (h : aH) (Q : Int → Prop) (X6 : Int × Int → Prop) (x2_6 : Int) (x3_6 : Int) : Prop :=
  inR x3_6 ∧ inR (h 52 7) ∧ (((h 52 7) ≤ x3_6 → Q x2_6) ∧ (¬ (h 52 7) ≤ x3_6 → (0 ≤ x3_6 ∧ x3_6 < 6) ∧ inR (h 53 x3_6) ∧ inR x1 ∧ (((h 53 x3_6) = x1 → inR (h 55 x3_6) ∧ (((h 55 x3_6) = 1 → wp_X1_highestOf_J70 X6 x3_6 x2_6) ∧ (¬ (h 55 x3_6) = 1 → ∀ x4_61, x4_61 = (if (h 55 x3_6) = 2 then ((h 54 x3_6) - 1) else (h 54 x3_6) : Int) → wp_J9_min_7cf53 x2_6 x4_61 h (fun r8 => wp_X1_highestOf_J70 X6 x3_6 r8)))) ∧ (¬ (h 53 x3_6) = x1 → wp_X1_highestOf_J70 X6 x3_6 x2_6))))
def wp_X1_highestOf (x1 : Int) (h : aH) (Q : Int → Prop) : Prop :=
  lp (fun X y => wp_X1_highestOf_B6 x1 h Q X y.1 y.2) (720, 0)
set_option maxRecDepth 100000 in
set_option maxHeartbeats 4000000 in
theorem M_X1_highestOf {Γ : Gm} {l : Launch} {n : Nat} {g : aG} (hn : 59 ≤ n) (tg : TC g) (x1 : Int)  {h : aH} {Q : Int → Prop} (hw : wp_X1_highestOf x1 h Q) : Cl Γ l mX1_highestOf [vR 52, vI x1] n g h (PI g h Q) := by
  refine Cl.of (by decide) [some (vR 52), some (vI x1), none, none, none] rfl (Nat.le_of_ble_eq_true rfl) ?_
  intro p e s m args below meth c a
  unfold wp_X1_highestOf at hw
  refine ok_sipush (pc := 0) a dX1_highestOf_0 (by decide) ?_
  refine ok_sI_n (pc := 3) a [some (vR 52), some (vI x1), some (vI 720), none, none] dX1_highestOf_3 rfl (by decide) rfl rfl ?_
  refine ok_iconst (pc := 4) a dX1_highestOf_4 ?_
  refine ok_sI_n (pc := 5) a [some (vR 52), some (vI x1), some (vI 720), some (vI 0), none] dX1_highestOf_5 rfl (by decide) rfl rfl ?_
  refine lp.use (P := fun y => OK Γ p l e (rmd 1 n n) s m args below meth c n (MQ below (QQ Γ n (PI g h Q)) args s (n - n) (sl n - sl n) (AA Γ)) 6 [some (vR 52), some (vI x1), some (vI y.1), some (vI y.2), none] [] n g h) ?_ (720, 0) hw
  clear hw
  intro X6 hX6 y hw
  obtain ⟨x2_6, x3_6⟩ := y
  have hw : wp_X1_highestOf_B6 x1 h Q X6 x2_6 x3_6 := hw
  unfold wp_X1_highestOf_B6 at hw
  try dsimp only
  refine ok_iload_n (pc := 6) a dX1_highestOf_6 rfl rfl ?_
  refine ok_aload_n (pc := 7) a dX1_highestOf_7 rfl rfl ?_
  refine ok_fI (pc := 8) 7 a dX1_highestOf_8 lfRX1_37 (Nat.lt_of_lt_of_le (by decide) hn) kq52 ty_1_7 rfl ?_
  obtain ⟨hc1, hw⟩ := hw
  obtain ⟨hc2, hw⟩ := hw
  refine ok_icmp_ge (pc := 11) a 76 dX1_highestOf_11 (by decide) hc1 hc2 (fun hd11 => ?_) (fun hd11 => ?_)
  · have hw := hw.1 hd11
    refine ok_iload_n (pc := 76) a dX1_highestOf_76 rfl rfl ?_
    exact ok_iret (pc := 77) a dX1_highestOf_77 ⟨_, rfl, rfl, rfl, hw⟩
  · have hw := hw.2 hd11
    refine ok_aload_n (pc := 14) a dX1_highestOf_14 rfl rfl ?_
    refine ok_getR (pc := 15) a dX1_highestOf_15 lfRX1_11 (Nat.lt_of_lt_of_le (by decide) hn) kq52 rfl (tg.at 52 0 53 (by decide) (by decide)) ?_
    refine ok_iload_n (pc := 18) a dX1_highestOf_18 rfl rfl ?_
    obtain ⟨hc3, hw⟩ := hw
    refine ok_iald (pc := 19) a dX1_highestOf_19 (Nat.lt_of_lt_of_le (by decide) hn) kq53 (by decide) hc3 ?_
    refine ok_iload_n (pc := 20) a dX1_highestOf_20 rfl rfl ?_
    obtain ⟨hc4, hw⟩ := hw
    obtain ⟨hc5, hw⟩ := hw
    have hJ70 : ∀ (x2_70 : Int), wp_X1_highestOf_J70 X6 x3_6 x2_70 → OK Γ p l e (rmd 1 n n) s m args below meth c n (MQ below (QQ Γ n (PI g h Q)) args s (n - n) (sl n - sl n) (AA Γ)) 70 [some (vR 52), some (vI x1), some (vI x2_70), some (vI x3_6), none] [] n g h := by
      intro x2_70 hw
      unfold wp_X1_highestOf_J70 at hw
      refine ok_inc (pc := 70) a [some (vR 52), some (vI x1), some (vI x2_70), some (vI (x3_6 + 1)), none] dX1_highestOf_70 rfl (by decide) rfl rfl ?_
      refine ok_goto (pc := 73) a 6 dX1_highestOf_73 (by decide) ?_
      exact hX6 (x2_70, (x3_6 + 1)) hw
    refine ok_icmp_ne (pc := 21) a 70 dX1_highestOf_21 (by decide) hc4 hc5 (fun hd10 => ?_) (fun hd10 => ?_)
    · have hw := hw.2 hd10
      exact hJ70 x2_6 hw
    · have hw := hw.1 hd10
      refine ok_aload_n (pc := 24) a dX1_highestOf_24 rfl rfl ?_
      refine ok_getR (pc := 25) a dX1_highestOf_25 lfRX1_18 (Nat.lt_of_lt_of_le (by decide) hn) kq52 rfl (tg.at 52 2 55 (by decide) (by decide)) ?_
      refine ok_iload_n (pc := 28) a dX1_highestOf_28 rfl rfl ?_
      refine ok_iald (pc := 29) a dX1_highestOf_29 (Nat.lt_of_lt_of_le (by decide) hn) kq55 (by decide) hc3 ?_
      refine ok_iconst (pc := 30) a dX1_highestOf_30 ?_
      obtain ⟨hc6, hw⟩ := hw
      refine ok_icmp_eq (pc := 31) a 70 dX1_highestOf_31 (by decide) hc6 ⟨by decide, by decide⟩ (fun hd9 => ?_) (fun hd9 => ?_)
      · have hw := hw.1 hd9
        exact hJ70 x2_6 hw
      · have hw := hw.2 hd9
        refine ok_aload_n (pc := 34) a dX1_highestOf_34 rfl rfl ?_
        refine ok_getR (pc := 35) a dX1_highestOf_35 lfRX1_18 (Nat.lt_of_lt_of_le (by decide) hn) kq52 rfl (tg.at 52 2 55 (by decide) (by decide)) ?_
        refine ok_iload_n (pc := 38) a dX1_highestOf_38 rfl rfl ?_
        refine ok_iald (pc := 39) a dX1_highestOf_39 (Nat.lt_of_lt_of_le (by decide) hn) kq55 (by decide) hc3 ?_
        refine ok_iconst (pc := 40) a dX1_highestOf_40 ?_
        have hK : OK Γ p l e (rmd 1 n n) s m args below meth c n (MQ below (QQ Γ n (PI g h Q)) args s (n - n) (sl n - sl n) (AA Γ)) 61 [some (vR 52), some (vI x1), some (vI x2_6), some (vI x3_6), none] [(vI (if (h 55 x3_6) = 2 then ((h 54 x3_6) - 1) else (h 54 x3_6) : Int))] n g h := by
          refine ok_nmI (fun x4_61 ex4_61 => ?_)
          have hw := hw x4_61 ex4_61
          refine ok_sI (pc := 61) a [some (vR 52), some (vI x1), some (vI x2_6), some (vI x3_6), some (vI x4_61)] dX1_highestOf_61 (by decide) rfl rfl ?_
          refine ok_iload_n (pc := 63) a dX1_highestOf_63 rfl rfl ?_
          refine ok_iload (pc := 64) a dX1_highestOf_64 rfl ?_
          refine ok_SPI (pc := 66) a [(vI x2_6), (vI x4_61)] [] (M_J9_min_7cf53 hn tg x2_6 x4_61  hw) dX1_highestOf_66 lkRX1_56 rfl ⟨Nat.le_of_ble_eq_true rfl, Nat.le_of_ble_eq_true rfl⟩ rfl (Nat.le_of_ble_eq_true rfl) rfl (fun r8 hw => ?_)
          refine ok_sI_n (pc := 69) a [some (vR 52), some (vI x1), some (vI r8), some (vI x3_6), some (vI x4_61)] dX1_highestOf_69 rfl (by decide) rfl rfl ?_
          refine ok_forget 4 ?_
          exact hJ70 r8 hw
        refine ok_icmp_ne (pc := 41) a 55 dX1_highestOf_41 (by decide) hc6 ⟨by decide, by decide⟩ (fun hd7 => ?_) (fun hd7 => ?_)
        · refine ok_aload_n (pc := 55) a dX1_highestOf_55 rfl rfl ?_
          refine ok_getR (pc := 56) a dX1_highestOf_56 lfRX1_15 (Nat.lt_of_lt_of_le (by decide) hn) kq52 rfl (tg.at 52 1 54 (by decide) (by decide)) ?_
          refine ok_iload_n (pc := 59) a dX1_highestOf_59 rfl rfl ?_
          refine ok_iald (pc := 60) a dX1_highestOf_60 (Nat.lt_of_lt_of_le (by decide) hn) kq54 (by decide) hc3 ?_
          simp only [if_neg hd7] at hK
          exact hK
        · refine ok_aload_n (pc := 44) a dX1_highestOf_44 rfl rfl ?_
          refine ok_getR (pc := 45) a dX1_highestOf_45 lfRX1_15 (Nat.lt_of_lt_of_le (by decide) hn) kq52 rfl (tg.at 52 1 54 (by decide) (by decide)) ?_
          refine ok_iload_n (pc := 48) a dX1_highestOf_48 rfl rfl ?_
          refine ok_iald (pc := 49) a dX1_highestOf_49 (Nat.lt_of_lt_of_le (by decide) hn) kq54 (by decide) hc3 ?_
          refine ok_iconst (pc := 50) a dX1_highestOf_50 ?_
          refine ok_isub (pc := 51) a dX1_highestOf_51 ?_
          refine ok_goto (pc := 52) a 61 dX1_highestOf_52 (by decide) ?_
          simp only [if_pos hd7] at hK
          exact hK

def wp_X1_waysBetween_B5 (x2 : Int) (h : aH) (Q : Int → Prop) (X5 : Int × Int → Prop) (x3_5 : Int) (x4_5 : Int) : Prop :=
  inR x4_5 ∧ inR x2 ∧ ((x2 < x4_5 → Q x3_5) ∧ (¬ x2 < x4_5 → (0 ≤ x4_5 ∧ x4_5 < 721) ∧ ∀ x3_20, x3_20 = (x3_5 + (h 58 x4_5)) → X5 (x3_20, (x4_5 + 1))))
def wp_X1_waysBetween (x1 : Int) (x2 : Int) (h : aH) (Q : Int → Prop) : Prop :=
  lp (fun X y => wp_X1_waysBetween_B5 x2 h Q X y.1 y.2) (0, x1)
set_option maxRecDepth 100000 in
set_option maxHeartbeats 4000000 in
theorem M_X1_waysBetween {Γ : Gm} {l : Launch} {n : Nat} {g : aG} (hn : 59 ≤ n) (tg : TC g) (x1 : Int) (x2 : Int)  {h : aH} {Q : Int → Prop} (hw : wp_X1_waysBetween x1 x2 h Q) : Cl Γ l mX1_waysBetween [vR 52, vI x1, vI x2] n g h (PI g h Q) := by
  refine Cl.of (by decide) [some (vR 52), some (vI x1), some (vI x2), none, none] rfl (Nat.le_of_ble_eq_true rfl) ?_
  intro p e s m args below meth c a
  unfold wp_X1_waysBetween at hw
  refine ok_iconst (pc := 0) a dX1_waysBetween_0 ?_
  refine ok_sI_n (pc := 1) a [some (vR 52), some (vI x1), some (vI x2), some (vI 0), none] dX1_waysBetween_1 rfl (by decide) rfl rfl ?_
  refine ok_iload_n (pc := 2) a dX1_waysBetween_2 rfl rfl ?_
  refine ok_sI (pc := 3) a [some (vR 52), some (vI x1), some (vI x2), some (vI 0), some (vI x1)] dX1_waysBetween_3 (by decide) rfl rfl ?_
  refine lp.use (P := fun y => OK Γ p l e (rmd 0 n n) s m args below meth c n (MQ below (QQ Γ n (PI g h Q)) args s (n - n) (sl n - sl n) (AA Γ)) 5 [some (vR 52), some (vI x1), some (vI x2), some (vI y.1), some (vI y.2)] [] n g h) ?_ (0, x1) hw
  clear hw
  intro X5 hX5 y hw
  obtain ⟨x3_5, x4_5⟩ := y
  have hw : wp_X1_waysBetween_B5 x2 h Q X5 x3_5 x4_5 := hw
  unfold wp_X1_waysBetween_B5 at hw
  try dsimp only
  refine ok_iload (pc := 5) a dX1_waysBetween_5 rfl ?_
  refine ok_iload_n (pc := 7) a dX1_waysBetween_7 rfl rfl ?_
  obtain ⟨hc1, hw⟩ := hw
  obtain ⟨hc2, hw⟩ := hw
  refine ok_icmp_gt (pc := 8) a 27 dX1_waysBetween_8 (by decide) hc1 hc2 (fun hd4 => ?_) (fun hd4 => ?_)
  · have hw := hw.1 hd4
    refine ok_iload_n (pc := 27) a dX1_waysBetween_27 rfl rfl ?_
    exact ok_iret (pc := 28) a dX1_waysBetween_28 ⟨_, rfl, rfl, rfl, hw⟩
  · have hw := hw.2 hd4
    refine ok_iload_n (pc := 11) a dX1_waysBetween_11 rfl rfl ?_
    refine ok_aload_n (pc := 12) a dX1_waysBetween_12 rfl rfl ?_
    refine ok_getR (pc := 13) a dX1_waysBetween_13 lfRX1_27 (Nat.lt_of_lt_of_le (by decide) hn) kq52 rfl (tg.at 52 5 58 (by decide) (by decide)) ?_
    refine ok_iload (pc := 16) a dX1_waysBetween_16 rfl ?_
    obtain ⟨hc3, hw⟩ := hw
    refine ok_iald (pc := 18) a dX1_waysBetween_18 (Nat.lt_of_lt_of_le (by decide) hn) kq58 (by decide) hc3 ?_
    refine ok_iadd (pc := 19) a dX1_waysBetween_19 ?_
    refine ok_nmI (fun x3_20 ex3_20 => ?_)
    have hw := hw x3_20 ex3_20
    refine ok_sI_n (pc := 20) a [some (vR 52), some (vI x1), some (vI x2), some (vI x3_20), some (vI x4_5)] dX1_waysBetween_20 rfl (by decide) rfl rfl ?_
    refine ok_inc (pc := 21) a [some (vR 52), some (vI x1), some (vI x2), some (vI x3_20), some (vI (x4_5 + 1))] dX1_waysBetween_21 rfl (by decide) rfl rfl ?_
    refine ok_goto (pc := 24) a 5 dX1_waysBetween_24 (by decide) ?_
    exact hX5 (x3_20, (x4_5 + 1)) hw

def wp_X1_leastBetween_B2 (x2 : Int) (h : aH) (Q : Int → Prop) (X2 : Int → Prop) (x3_2 : Int) : Prop :=
  inR x3_2 ∧ inR x2 ∧ ((x2 < x3_2 → Q (-9)) ∧ (¬ x2 < x3_2 → (0 ≤ x3_2 ∧ x3_2 < 721) ∧ inR (h 58 x3_2) ∧ (((h 58 x3_2) ≤ 0 → X2 (x3_2 + 1)) ∧ (¬ (h 58 x3_2) ≤ 0 → Q x3_2))))
def wp_X1_leastBetween (x1 : Int) (x2 : Int) (h : aH) (Q : Int → Prop) : Prop :=
  lp (fun X y => wp_X1_leastBetween_B2 x2 h Q X y) x1
set_option maxRecDepth 100000 in
set_option maxHeartbeats 4000000 in
theorem M_X1_leastBetween {Γ : Gm} {l : Launch} {n : Nat} {g : aG} (hn : 59 ≤ n) (tg : TC g) (x1 : Int) (x2 : Int)  {h : aH} {Q : Int → Prop} (hw : wp_X1_leastBetween x1 x2 h Q) : Cl Γ l mX1_leastBetween [vR 52, vI x1, vI x2] n g h (PI g h Q) := by
  refine Cl.of (by decide) [some (vR 52), some (vI x1), some (vI x2), none] rfl (Nat.le_of_ble_eq_true rfl) ?_
  intro p e s m args below meth c a
  unfold wp_X1_leastBetween at hw
  refine ok_iload_n (pc := 0) a dX1_leastBetween_0 rfl rfl ?_
  refine ok_sI_n (pc := 1) a [some (vR 52), some (vI x1), some (vI x2), some (vI x1)] dX1_leastBetween_1 rfl (by decide) rfl rfl ?_
  refine lp.use (P := fun y => OK Γ p l e (rmd 0 n n) s m args below meth c n (MQ below (QQ Γ n (PI g h Q)) args s (n - n) (sl n - sl n) (AA Γ)) 2 [some (vR 52), some (vI x1), some (vI x2), some (vI y)] [] n g h) ?_ x1 hw
  clear hw
  intro X2 hX2 y hw
  generalize y = x3_2 at hw ⊢
  have hw : wp_X1_leastBetween_B2 x2 h Q X2 x3_2 := hw
  unfold wp_X1_leastBetween_B2 at hw
  try dsimp only
  refine ok_iload_n (pc := 2) a dX1_leastBetween_2 rfl rfl ?_
  refine ok_iload_n (pc := 3) a dX1_leastBetween_3 rfl rfl ?_
  obtain ⟨hc1, hw⟩ := hw
  obtain ⟨hc2, hw⟩ := hw
  refine ok_icmp_gt (pc := 4) a 24 dX1_leastBetween_4 (by decide) hc1 hc2 (fun hd6 => ?_) (fun hd6 => ?_)
  · have hw := hw.1 hd6
    refine ok_bipush (pc := 24) a dX1_leastBetween_24 (by decide) ?_
    exact ok_iret (pc := 26) a dX1_leastBetween_26 ⟨_, rfl, rfl, rfl, hw⟩
  · have hw := hw.2 hd6
    refine ok_aload_n (pc := 7) a dX1_leastBetween_7 rfl rfl ?_
    refine ok_getR (pc := 8) a dX1_leastBetween_8 lfRX1_27 (Nat.lt_of_lt_of_le (by decide) hn) kq52 rfl (tg.at 52 5 58 (by decide) (by decide)) ?_
    refine ok_iload_n (pc := 11) a dX1_leastBetween_11 rfl rfl ?_
    obtain ⟨hc3, hw⟩ := hw
    refine ok_iald (pc := 12) a dX1_leastBetween_12 (Nat.lt_of_lt_of_le (by decide) hn) kq58 (by decide) hc3 ?_
    obtain ⟨hc4, hw⟩ := hw
    refine ok_if_le (pc := 13) a 18 dX1_leastBetween_13 (by decide) hc4 (fun hd5 => ?_) (fun hd5 => ?_)
    · have hw := hw.1 hd5
      refine ok_inc (pc := 18) a [some (vR 52), some (vI x1), some (vI x2), some (vI (x3_2 + 1))] dX1_leastBetween_18 rfl (by decide) rfl rfl ?_
      refine ok_goto (pc := 21) a 2 dX1_leastBetween_21 (by decide) ?_
      exact hX2 (x3_2 + 1) hw
    · have hw := hw.2 hd5
      refine ok_iload_n (pc := 16) a dX1_leastBetween_16 rfl rfl ?_
      exact ok_iret (pc := 17) a dX1_leastBetween_17 ⟨_, rfl, rfl, rfl, hw⟩

def wp_X1_greatestBetween_B2 (x1 : Int) (h : aH) (Q : Int → Prop) (X2 : Int → Prop) (x3_2 : Int) : Prop :=
  inR x3_2 ∧ inR x1 ∧ ((x3_2 < x1 → Q (-9)) ∧ (¬ x3_2 < x1 → (0 ≤ x3_2 ∧ x3_2 < 721) ∧ inR (h 58 x3_2) ∧ (((h 58 x3_2) ≤ 0 → X2 (x3_2 + (-1))) ∧ (¬ (h 58 x3_2) ≤ 0 → Q x3_2))))
def wp_X1_greatestBetween (x1 : Int) (x2 : Int) (h : aH) (Q : Int → Prop) : Prop :=
  lp (fun X y => wp_X1_greatestBetween_B2 x1 h Q X y) x2
set_option maxRecDepth 100000 in
set_option maxHeartbeats 4000000 in
theorem M_X1_greatestBetween {Γ : Gm} {l : Launch} {n : Nat} {g : aG} (hn : 59 ≤ n) (tg : TC g) (x1 : Int) (x2 : Int)  {h : aH} {Q : Int → Prop} (hw : wp_X1_greatestBetween x1 x2 h Q) : Cl Γ l mX1_greatestBetween [vR 52, vI x1, vI x2] n g h (PI g h Q) := by
  refine Cl.of (by decide) [some (vR 52), some (vI x1), some (vI x2), none] rfl (Nat.le_of_ble_eq_true rfl) ?_
  intro p e s m args below meth c a
  unfold wp_X1_greatestBetween at hw
  refine ok_iload_n (pc := 0) a dX1_greatestBetween_0 rfl rfl ?_
  refine ok_sI_n (pc := 1) a [some (vR 52), some (vI x1), some (vI x2), some (vI x2)] dX1_greatestBetween_1 rfl (by decide) rfl rfl ?_
  refine lp.use (P := fun y => OK Γ p l e (rmd 0 n n) s m args below meth c n (MQ below (QQ Γ n (PI g h Q)) args s (n - n) (sl n - sl n) (AA Γ)) 2 [some (vR 52), some (vI x1), some (vI x2), some (vI y)] [] n g h) ?_ x2 hw
  clear hw
  intro X2 hX2 y hw
  generalize y = x3_2 at hw ⊢
  have hw : wp_X1_greatestBetween_B2 x1 h Q X2 x3_2 := hw
  unfold wp_X1_greatestBetween_B2 at hw
  try dsimp only
  refine ok_iload_n (pc := 2) a dX1_greatestBetween_2 rfl rfl ?_
  refine ok_iload_n (pc := 3) a dX1_greatestBetween_3 rfl rfl ?_
  obtain ⟨hc1, hw⟩ := hw
  obtain ⟨hc2, hw⟩ := hw
  refine ok_icmp_lt (pc := 4) a 24 dX1_greatestBetween_4 (by decide) hc1 hc2 (fun hd6 => ?_) (fun hd6 => ?_)
  · have hw := hw.1 hd6
    refine ok_bipush (pc := 24) a dX1_greatestBetween_24 (by decide) ?_
    exact ok_iret (pc := 26) a dX1_greatestBetween_26 ⟨_, rfl, rfl, rfl, hw⟩
  · have hw := hw.2 hd6
    refine ok_aload_n (pc := 7) a dX1_greatestBetween_7 rfl rfl ?_
    refine ok_getR (pc := 8) a dX1_greatestBetween_8 lfRX1_27 (Nat.lt_of_lt_of_le (by decide) hn) kq52 rfl (tg.at 52 5 58 (by decide) (by decide)) ?_
    refine ok_iload_n (pc := 11) a dX1_greatestBetween_11 rfl rfl ?_
    obtain ⟨hc3, hw⟩ := hw
    refine ok_iald (pc := 12) a dX1_greatestBetween_12 (Nat.lt_of_lt_of_le (by decide) hn) kq58 (by decide) hc3 ?_
    obtain ⟨hc4, hw⟩ := hw
    refine ok_if_le (pc := 13) a 18 dX1_greatestBetween_13 (by decide) hc4 (fun hd5 => ?_) (fun hd5 => ?_)
    · have hw := hw.1 hd5
      refine ok_inc (pc := 18) a [some (vR 52), some (vI x1), some (vI x2), some (vI (x3_2 + (-1)))] dX1_greatestBetween_18 rfl (by decide) rfl rfl ?_
      refine ok_goto (pc := 21) a 2 dX1_greatestBetween_21 (by decide) ?_
      exact hX2 (x3_2 + (-1)) hw
    · have hw := hw.2 hd5
      refine ok_iload_n (pc := 16) a dX1_greatestBetween_16 rfl rfl ?_
      exact ok_iret (pc := 17) a dX1_greatestBetween_17 ⟨_, rfl, rfl, rfl, hw⟩

def wp_X1_gainOf_B7 (h : aH) (Q : Int → Prop) (X7 : Int × Int × Int → Prop) (x2_7 : Int) (x3_7 : Int) (x4_7 : Int) : Prop :=
  inR x4_7 ∧ ((x4_7 < 0 → Q x3_7) ∧ (¬ x4_7 < 0 → (0 ≤ x2_7 ∧ x2_7 < 2147483648) ∧ (0 ≤ x4_7 ∧ x4_7 < 4) ∧ ∀ x3_22, x3_22 = (x3_7 + ((x2_7 % 4) * (h 4 x4_7))) → ∀ x2_26, x2_26 = (x2_7 / 4) → X7 (x2_26, x3_22, (x4_7 + (-1)))))
def wp_X1_gainOf (x0 : Int) (h : aH) (Q : Int → Prop) : Prop :=
  lp (fun X y => wp_X1_gainOf_B7 h Q X y.1 y.2.1 y.2.2) (x0, 0, 3)
set_option maxRecDepth 100000 in
set_option maxHeartbeats 4000000 in
theorem M_X1_gainOf {Γ : Gm} {l : Launch} {n : Nat} {g : aG} (hn : 59 ≤ n) (tg : TC g) (x0 : Int)  {h : aH} {Q : Int → Prop} (hw : wp_X1_gainOf x0 h Q) : Cl Γ l mX1_gainOf [vI x0, vR 4] n g h (PI g h Q) := by
  refine Cl.of (by decide) [some (vI x0), some (vR 4), none, none, none] rfl (Nat.le_of_ble_eq_true rfl) ?_
  intro p e s m args below meth c a
  unfold wp_X1_gainOf at hw
  refine ok_iload_n (pc := 0) a dX1_gainOf_0 rfl rfl ?_
  refine ok_sI_n (pc := 1) a [some (vI x0), some (vR 4), some (vI x0), none, none] dX1_gainOf_1 rfl (by decide) rfl rfl ?_
  refine ok_iconst (pc := 2) a dX1_gainOf_2 ?_
  refine ok_sI_n (pc := 3) a [some (vI x0), some (vR 4), some (vI x0), some (vI 0), none] dX1_gainOf_3 rfl (by decide) rfl rfl ?_
  refine ok_iconst (pc := 4) a dX1_gainOf_4 ?_
  refine ok_sI (pc := 5) a [some (vI x0), some (vR 4), some (vI x0), some (vI 0), some (vI 3)] dX1_gainOf_5 (by decide) rfl rfl ?_
  refine lp.use (P := fun y => OK Γ p l e (rmd 0 n n) s m args below meth c n (MQ below (QQ Γ n (PI g h Q)) args s (n - n) (sl n - sl n) (AA Γ)) 7 [some (vI x0), some (vR 4), some (vI y.1), some (vI y.2.1), some (vI y.2.2)] [] n g h) ?_ (x0, 0, 3) hw
  clear hw
  intro X7 hX7 y hw
  obtain ⟨x2_7, x3_7, x4_7⟩ := y
  have hw : wp_X1_gainOf_B7 h Q X7 x2_7 x3_7 x4_7 := hw
  unfold wp_X1_gainOf_B7 at hw
  try dsimp only
  refine ok_iload (pc := 7) a dX1_gainOf_7 rfl ?_
  obtain ⟨hc1, hw⟩ := hw
  refine ok_if_lt (pc := 9) a 33 dX1_gainOf_9 (by decide) hc1 (fun hd4 => ?_) (fun hd4 => ?_)
  · have hw := hw.1 hd4
    refine ok_iload_n (pc := 33) a dX1_gainOf_33 rfl rfl ?_
    exact ok_iret (pc := 34) a dX1_gainOf_34 ⟨_, rfl, rfl, rfl, hw⟩
  · have hw := hw.2 hd4
    refine ok_iload_n (pc := 12) a dX1_gainOf_12 rfl rfl ?_
    refine ok_iload_n (pc := 13) a dX1_gainOf_13 rfl rfl ?_
    refine ok_iconst (pc := 14) a dX1_gainOf_14 ?_
    obtain ⟨hc2, hw⟩ := hw
    refine ok_irem (pc := 15) a dX1_gainOf_15 ⟨hc2, by decide, by decide⟩ ?_
    refine ok_aload_n (pc := 16) a dX1_gainOf_16 rfl rfl ?_
    refine ok_iload (pc := 17) a dX1_gainOf_17 rfl ?_
    obtain ⟨hc3, hw⟩ := hw
    refine ok_iald (pc := 19) a dX1_gainOf_19 (Nat.lt_of_lt_of_le (by decide) hn) kq4 (by decide) hc3 ?_
    refine ok_imul (pc := 20) a dX1_gainOf_20 ?_
    refine ok_iadd (pc := 21) a dX1_gainOf_21 ?_
    refine ok_nmI (fun x3_22 ex3_22 => ?_)
    have hw := hw x3_22 ex3_22
    refine ok_sI_n (pc := 22) a [some (vI x0), some (vR 4), some (vI x2_7), some (vI x3_22), some (vI x4_7)] dX1_gainOf_22 rfl (by decide) rfl rfl ?_
    refine ok_iload_n (pc := 23) a dX1_gainOf_23 rfl rfl ?_
    refine ok_iconst (pc := 24) a dX1_gainOf_24 ?_
    refine ok_idiv (pc := 25) a dX1_gainOf_25 ⟨hc2, by decide, by decide⟩ ?_
    refine ok_nmI (fun x2_26 ex2_26 => ?_)
    have hw := hw x2_26 ex2_26
    refine ok_sI_n (pc := 26) a [some (vI x0), some (vR 4), some (vI x2_26), some (vI x3_22), some (vI x4_7)] dX1_gainOf_26 rfl (by decide) rfl rfl ?_
    refine ok_inc (pc := 27) a [some (vI x0), some (vR 4), some (vI x2_26), some (vI x3_22), some (vI (x4_7 + (-1)))] dX1_gainOf_27 rfl (by decide) rfl rfl ?_
    refine ok_goto (pc := 30) a 7 dX1_gainOf_30 (by decide) ?_
    exact hX7 (x2_26, x3_22, (x4_7 + (-1))) hw
end
