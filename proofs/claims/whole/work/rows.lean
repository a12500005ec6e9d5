section
-- ===== PART A: goes FIRST, ahead of the names: the tables' words, and 'selects' of the private methods out of them =====
/-- a private method of a class that the tables say can be made, by its rows of tables_1 -/
def lw_okq (q : MethodName × Nat) : Prop := (q.1.cls ≠ "java/lang/invoke/MethodHandle" ∧ q.1.cls ≠ "java/lang/invoke/VarHandle") ∧ Cond.instantiable q.1.cls q.2 ∈ tables_1 ∧ Cond.privateMethod q.1 ∈ tables_1 ∧ Cond.instanceMethod q.1 ∈ tables_1
theorem lw_p0 : lw_okq (⟨"UnsaidScales", "beginAnew", "()V"⟩, 12) := ⟨⟨by decide +kernel, by decide +kernel⟩, List.mem_of_getElem? (i := 16) (by decide +kernel), List.mem_of_getElem? (i := 234) (by decide +kernel), List.mem_of_getElem? (i := 235) (by decide +kernel)⟩
theorem lw_p1 : lw_okq (⟨"UnsaidScales$Drawer", "offer", "(II)V"⟩, 2) := ⟨⟨by decide +kernel, by decide +kernel⟩, List.mem_of_getElem? (i := 146) (by decide +kernel), List.mem_of_getElem? (i := 251) (by decide +kernel), List.mem_of_getElem? (i := 252) (by decide +kernel)⟩
theorem lw_p2 : lw_okq (⟨"UnsaidScales$TextReader", "skipBlanks", "()V"⟩, 4) := ⟨⟨by decide +kernel, by decide +kernel⟩, List.mem_of_getElem? (i := 24) (by decide +kernel), List.mem_of_getElem? (i := 339) (by decide +kernel), List.mem_of_getElem? (i := 340) (by decide +kernel)⟩
theorem lw_p3 : lw_okq (⟨"UnsaidScales$TextReader", "readItem", "(LUnsaidScales$ToldShop;)V"⟩, 4) := ⟨⟨by decide +kernel, by decide +kernel⟩, List.mem_of_getElem? (i := 24) (by decide +kernel), List.mem_of_getElem? (i := 347) (by decide +kernel), List.mem_of_getElem? (i := 348) (by decide +kernel)⟩
theorem lw_p4 : lw_okq (⟨"UnsaidScales$TextReader", "readWeight", "(LUnsaidScales$ToldShop;)V"⟩, 4) := ⟨⟨by decide +kernel, by decide +kernel⟩, List.mem_of_getElem? (i := 24) (by decide +kernel), List.mem_of_getElem? (i := 351) (by decide +kernel), List.mem_of_getElem? (i := 352) (by decide +kernel)⟩
theorem lw_p5 : lw_okq (⟨"UnsaidScales$TextReader", "readNumber", "(II)I"⟩, 4) := ⟨⟨by decide +kernel, by decide +kernel⟩, List.mem_of_getElem? (i := 24) (by decide +kernel), List.mem_of_getElem? (i := 355) (by decide +kernel), List.mem_of_getElem? (i := 356) (by decide +kernel)⟩
theorem lw_p6 : lw_okq (⟨"UnsaidScales$TextReader", "readEnd", "()V"⟩, 4) := ⟨⟨by decide +kernel, by decide +kernel⟩, List.mem_of_getElem? (i := 24) (by decide +kernel), List.mem_of_getElem? (i := 363) (by decide +kernel), List.mem_of_getElem? (i := 364) (by decide +kernel)⟩
theorem lw_p7 : lw_okq (⟨"UnsaidScales$TextReader", "readPerson", "(LUnsaidScales$ToldShop;)V"⟩, 4) := ⟨⟨by decide +kernel, by decide +kernel⟩, List.mem_of_getElem? (i := 24) (by decide +kernel), List.mem_of_getElem? (i := 367) (by decide +kernel), List.mem_of_getElem? (i := 368) (by decide +kernel)⟩
theorem lw_p8 : lw_okq (⟨"UnsaidScales$TextReader", "readGrowth", "(LUnsaidScales$ToldShop;)V"⟩, 4) := ⟨⟨by decide +kernel, by decide +kernel⟩, List.mem_of_getElem? (i := 24) (by decide +kernel), List.mem_of_getElem? (i := 371) (by decide +kernel), List.mem_of_getElem? (i := 372) (by decide +kernel)⟩
theorem lw_p9 : lw_okq (⟨"UnsaidScales$TextReader", "readPiece", "(LUnsaidScales$ToldShop;)V"⟩, 4) := ⟨⟨by decide +kernel, by decide +kernel⟩, List.mem_of_getElem? (i := 24) (by decide +kernel), List.mem_of_getElem? (i := 375) (by decide +kernel), List.mem_of_getElem? (i := 376) (by decide +kernel)⟩
theorem lw_p10 : lw_okq (⟨"UnsaidScales", "isPerson", "(I)Z"⟩, 12) := ⟨⟨by decide +kernel, by decide +kernel⟩, List.mem_of_getElem? (i := 16) (by decide +kernel), List.mem_of_getElem? (i := 388) (by decide +kernel), List.mem_of_getElem? (i := 389) (by decide +kernel)⟩
theorem lw_p11 : lw_okq (⟨"UnsaidScales", "heavinessOf", "(I)I"⟩, 12) := ⟨⟨by decide +kernel, by decide +kernel⟩, List.mem_of_getElem? (i := 16) (by decide +kernel), List.mem_of_getElem? (i := 407) (by decide +kernel), List.mem_of_getElem? (i := 408) (by decide +kernel)⟩
theorem lw_p12 : lw_okq (⟨"UnsaidScales", "heavinessAhead", "(II)I"⟩, 12) := ⟨⟨by decide +kernel, by decide +kernel⟩, List.mem_of_getElem? (i := 16) (by decide +kernel), List.mem_of_getElem? (i := 411) (by decide +kernel), List.mem_of_getElem? (i := 412) (by decide +kernel)⟩
theorem lw_p13 : lw_okq (⟨"UnsaidScales", "isPair", "(II)Z"⟩, 12) := ⟨⟨by decide +kernel, by decide +kernel⟩, List.mem_of_getElem? (i := 16) (by decide +kernel), List.mem_of_getElem? (i := 422) (by decide +kernel), List.mem_of_getElem? (i := 423) (by decide +kernel)⟩
theorem lw_p14 : lw_okq (⟨"UnsaidScales", "knownOf", "(II)I"⟩, 12) := ⟨⟨by decide +kernel, by decide +kernel⟩, List.mem_of_getElem? (i := 16) (by decide +kernel), List.mem_of_getElem? (i := 426) (by decide +kernel), List.mem_of_getElem? (i := 427) (by decide +kernel)⟩
theorem lw_p15 : lw_okq (⟨"UnsaidScales", "knownPairs", "()I"⟩, 12) := ⟨⟨by decide +kernel, by decide +kernel⟩, List.mem_of_getElem? (i := 16) (by decide +kernel), List.mem_of_getElem? (i := 443) (by decide +kernel), List.mem_of_getElem? (i := 444) (by decide +kernel)⟩
def lw_privs_1 : List (MethodName × Nat) := [(⟨"UnsaidScales", "beginAnew", "()V"⟩, 12), (⟨"UnsaidScales$Drawer", "offer", "(II)V"⟩, 2), (⟨"UnsaidScales$TextReader", "skipBlanks", "()V"⟩, 4), (⟨"UnsaidScales$TextReader", "readItem", "(LUnsaidScales$ToldShop;)V"⟩, 4), (⟨"UnsaidScales$TextReader", "readWeight", "(LUnsaidScales$ToldShop;)V"⟩, 4), (⟨"UnsaidScales$TextReader", "readNumber", "(II)I"⟩, 4), (⟨"UnsaidScales$TextReader", "readEnd", "()V"⟩, 4), (⟨"UnsaidScales$TextReader", "readPerson", "(LUnsaidScales$ToldShop;)V"⟩, 4), (⟨"UnsaidScales$TextReader", "readGrowth", "(LUnsaidScales$ToldShop;)V"⟩, 4), (⟨"UnsaidScales$TextReader", "readPiece", "(LUnsaidScales$ToldShop;)V"⟩, 4), (⟨"UnsaidScales", "isPerson", "(I)Z"⟩, 12), (⟨"UnsaidScales", "heavinessOf", "(I)I"⟩, 12), (⟨"UnsaidScales", "heavinessAhead", "(II)I"⟩, 12), (⟨"UnsaidScales", "isPair", "(II)Z"⟩, 12), (⟨"UnsaidScales", "knownOf", "(II)I"⟩, 12), (⟨"UnsaidScales", "knownPairs", "()I"⟩, 12)]
theorem lw_r1 : ∀ q ∈ lw_privs_1, lw_okq q := List.forall_mem_cons.mpr ⟨lw_p0, List.forall_mem_cons.mpr ⟨lw_p1, List.forall_mem_cons.mpr ⟨lw_p2, List.forall_mem_cons.mpr ⟨lw_p3, List.forall_mem_cons.mpr ⟨lw_p4, List.forall_mem_cons.mpr ⟨lw_p5, List.forall_mem_cons.mpr ⟨lw_p6, List.forall_mem_cons.mpr ⟨lw_p7, List.forall_mem_cons.mpr ⟨lw_p8, List.forall_mem_cons.mpr ⟨lw_p9, List.forall_mem_cons.mpr ⟨lw_p10, List.forall_mem_cons.mpr ⟨lw_p11, List.forall_mem_cons.mpr ⟨lw_p12, List.forall_mem_cons.mpr ⟨lw_p13, List.forall_mem_cons.mpr ⟨lw_p14, List.forall_mem_cons.mpr ⟨lw_p15, fun _ h => absurd h List.not_mem_nil⟩⟩⟩⟩⟩⟩⟩⟩⟩⟩⟩⟩⟩⟩⟩⟩
theorem lw_p16 : lw_okq (⟨"UnsaidScales", "planned", "(I)I"⟩, 12) := ⟨⟨by decide +kernel, by decide +kernel⟩, List.mem_of_getElem? (i := 16) (by decide +kernel), List.mem_of_getElem? (i := 447) (by decide +kernel), List.mem_of_getElem? (i := 448) (by decide +kernel)⟩
theorem lw_p17 : lw_okq (⟨"UnsaidScales$OrderTable", "countOrders", "(I)I"⟩, 4) := ⟨⟨by decide +kernel, by decide +kernel⟩, List.mem_of_getElem? (i := 125) (by decide +kernel), List.mem_of_getElem? (i := 455) (by decide +kernel), List.mem_of_getElem? (i := 456) (by decide +kernel)⟩
theorem lw_p18 : lw_okq (⟨"UnsaidScales$OrderTable", "isOrder", "(I)Z"⟩, 4) := ⟨⟨by decide +kernel, by decide +kernel⟩, List.mem_of_getElem? (i := 125) (by decide +kernel), List.mem_of_getElem? (i := 467) (by decide +kernel), List.mem_of_getElem? (i := 468) (by decide +kernel)⟩
theorem lw_p19 : lw_okq (⟨"UnsaidScales$OrderTable", "countHeavierOnes", "(I)V"⟩, 4) := ⟨⟨by decide +kernel, by decide +kernel⟩, List.mem_of_getElem? (i := 125) (by decide +kernel), List.mem_of_getElem? (i := 471) (by decide +kernel), List.mem_of_getElem? (i := 472) (by decide +kernel)⟩
theorem lw_p20 : lw_okq (⟨"UnsaidScales$OrderTable", "leastBehind", "(I)I"⟩, 4) := ⟨⟨by decide +kernel, by decide +kernel⟩, List.mem_of_getElem? (i := 125) (by decide +kernel), List.mem_of_getElem? (i := 479) (by decide +kernel), List.mem_of_getElem? (i := 480) (by decide +kernel)⟩
theorem lw_p21 : lw_okq (⟨"UnsaidScales$OrderTable", "worstBehind", "(II)I"⟩, 4) := ⟨⟨by decide +kernel, by decide +kernel⟩, List.mem_of_getElem? (i := 125) (by decide +kernel), List.mem_of_getElem? (i := 483) (by decide +kernel), List.mem_of_getElem? (i := 484) (by decide +kernel)⟩
theorem lw_p22 : lw_okq (⟨"UnsaidScales", "compareLower", "(II)I"⟩, 12) := ⟨⟨by decide +kernel, by decide +kernel⟩, List.mem_of_getElem? (i := 16) (by decide +kernel), List.mem_of_getElem? (i := 534) (by decide +kernel), List.mem_of_getElem? (i := 535) (by decide +kernel)⟩
theorem lw_p23 : lw_okq (⟨"UnsaidScales", "lighterWays", "(IIII)J"⟩, 12) := ⟨⟨by decide +kernel, by decide +kernel⟩, List.mem_of_getElem? (i := 16) (by decide +kernel), List.mem_of_getElem? (i := 596) (by decide +kernel), List.mem_of_getElem? (i := 597) (by decide +kernel)⟩
theorem lw_p24 : lw_okq (⟨"UnsaidScales$Evidence", "fits", "(II)Z"⟩, 9) := ⟨⟨by decide +kernel, by decide +kernel⟩, List.mem_of_getElem? (i := 186) (by decide +kernel), List.mem_of_getElem? (i := 678) (by decide +kernel), List.mem_of_getElem? (i := 679) (by decide +kernel)⟩
theorem lw_p25 : lw_okq (⟨"UnsaidScales", "asPerson", "(I)I"⟩, 12) := ⟨⟨by decide +kernel, by decide +kernel⟩, List.mem_of_getElem? (i := 16) (by decide +kernel), List.mem_of_getElem? (i := 698) (by decide +kernel), List.mem_of_getElem? (i := 699) (by decide +kernel)⟩
theorem lw_p26 : lw_okq (⟨"UnsaidScales", "asBride", "(I)I"⟩, 12) := ⟨⟨by decide +kernel, by decide +kernel⟩, List.mem_of_getElem? (i := 16) (by decide +kernel), List.mem_of_getElem? (i := 702) (by decide +kernel), List.mem_of_getElem? (i := 703) (by decide +kernel)⟩
theorem lw_p27 : lw_okq (⟨"UnsaidScales", "asPartner", "(I)I"⟩, 12) := ⟨⟨by decide +kernel, by decide +kernel⟩, List.mem_of_getElem? (i := 16) (by decide +kernel), List.mem_of_getElem? (i := 710) (by decide +kernel), List.mem_of_getElem? (i := 711) (by decide +kernel)⟩
theorem lw_p28 : lw_okq (⟨"UnsaidScales", "asBrother", "(I)I"⟩, 12) := ⟨⟨by decide +kernel, by decide +kernel⟩, List.mem_of_getElem? (i := 16) (by decide +kernel), List.mem_of_getElem? (i := 715) (by decide +kernel), List.mem_of_getElem? (i := 716) (by decide +kernel)⟩
theorem lw_p29 : lw_okq (⟨"UnsaidScales", "asBankrupt", "(I)I"⟩, 12) := ⟨⟨by decide +kernel, by decide +kernel⟩, List.mem_of_getElem? (i := 16) (by decide +kernel), List.mem_of_getElem? (i := 720) (by decide +kernel), List.mem_of_getElem? (i := 721) (by decide +kernel)⟩
theorem lw_p30 : lw_okq (⟨"UnsaidScales", "asStranger", "(I)I"⟩, 12) := ⟨⟨by decide +kernel, by decide +kernel⟩, List.mem_of_getElem? (i := 16) (by decide +kernel), List.mem_of_getElem? (i := 725) (by decide +kernel), List.mem_of_getElem? (i := 726) (by decide +kernel)⟩
theorem lw_p31 : lw_okq (⟨"UnsaidScalesModel", "begins", "()V"⟩, 34) := ⟨⟨by decide +kernel, by decide +kernel⟩, List.mem_of_getElem? (i := 747) (by decide +kernel), List.mem_of_getElem? (i := 753) (by decide +kernel), List.mem_of_getElem? (i := 754) (by decide +kernel)⟩
def lw_privs_2 : List (MethodName × Nat) := [(⟨"UnsaidScales", "planned", "(I)I"⟩, 12), (⟨"UnsaidScales$OrderTable", "countOrders", "(I)I"⟩, 4), (⟨"UnsaidScales$OrderTable", "isOrder", "(I)Z"⟩, 4), (⟨"UnsaidScales$OrderTable", "countHeavierOnes", "(I)V"⟩, 4), (⟨"UnsaidScales$OrderTable", "leastBehind", "(I)I"⟩, 4), (⟨"UnsaidScales$OrderTable", "worstBehind", "(II)I"⟩, 4), (⟨"UnsaidScales", "compareLower", "(II)I"⟩, 12), (⟨"UnsaidScales", "lighterWays", "(IIII)J"⟩, 12), (⟨"UnsaidScales$Evidence", "fits", "(II)Z"⟩, 9), (⟨"UnsaidScales", "asPerson", "(I)I"⟩, 12), (⟨"UnsaidScales", "asBride", "(I)I"⟩, 12), (⟨"UnsaidScales", "asPartner", "(I)I"⟩, 12), (⟨"UnsaidScales", "asBrother", "(I)I"⟩, 12), (⟨"UnsaidScales", "asBankrupt", "(I)I"⟩, 12), (⟨"UnsaidScales", "asStranger", "(I)I"⟩, 12), (⟨"UnsaidScalesModel", "begins", "()V"⟩, 34)]
theorem lw_r2 : ∀ q ∈ lw_privs_2, lw_okq q := List.forall_mem_cons.mpr ⟨lw_p16, List.forall_mem_cons.mpr ⟨lw_p17, List.forall_mem_cons.mpr ⟨lw_p18, List.forall_mem_cons.mpr ⟨lw_p19, List.forall_mem_cons.mpr ⟨lw_p20, List.forall_mem_cons.mpr ⟨lw_p21, List.forall_mem_cons.mpr ⟨lw_p22, List.forall_mem_cons.mpr ⟨lw_p23, List.forall_mem_cons.mpr ⟨lw_p24, List.forall_mem_cons.mpr ⟨lw_p25, List.forall_mem_cons.mpr ⟨lw_p26, List.forall_mem_cons.mpr ⟨lw_p27, List.forall_mem_cons.mpr ⟨lw_p28, List.forall_mem_cons.mpr ⟨lw_p29, List.forall_mem_cons.mpr ⟨lw_p30, List.forall_mem_cons.mpr ⟨lw_p31, fun _ h => absurd h List.not_mem_nil⟩⟩⟩⟩⟩⟩⟩⟩⟩⟩⟩⟩⟩⟩⟩⟩
theorem lw_p32 : lw_okq (⟨"UnsaidScalesModel", "settles", "()V"⟩, 34) := ⟨⟨by decide +kernel, by decide +kernel⟩, List.mem_of_getElem? (i := 747) (by decide +kernel), List.mem_of_getElem? (i := 757) (by decide +kernel), List.mem_of_getElem? (i := 758) (by decide +kernel)⟩
theorem lw_p33 : lw_okq (⟨"UnsaidScalesModel", "orders", "()V"⟩, 34) := ⟨⟨by decide +kernel, by decide +kernel⟩, List.mem_of_getElem? (i := 747) (by decide +kernel), List.mem_of_getElem? (i := 761) (by decide +kernel), List.mem_of_getElem? (i := 762) (by decide +kernel)⟩
theorem lw_p34 : lw_okq (⟨"UnsaidScalesModel", "isPairNumber", "(I)Z"⟩, 34) := ⟨⟨by decide +kernel, by decide +kernel⟩, List.mem_of_getElem? (i := 747) (by decide +kernel), List.mem_of_getElem? (i := 771) (by decide +kernel), List.mem_of_getElem? (i := 772) (by decide +kernel)⟩
theorem lw_p35 : lw_okq (⟨"UnsaidScalesModel", "worsts", "()V"⟩, 34) := ⟨⟨by decide +kernel, by decide +kernel⟩, List.mem_of_getElem? (i := 747) (by decide +kernel), List.mem_of_getElem? (i := 775) (by decide +kernel), List.mem_of_getElem? (i := 776) (by decide +kernel)⟩
theorem lw_p36 : lw_okq (⟨"UnsaidScalesModel", "worstBehind", "(II)I"⟩, 34) := ⟨⟨by decide +kernel, by decide +kernel⟩, List.mem_of_getElem? (i := 747) (by decide +kernel), List.mem_of_getElem? (i := 780) (by decide +kernel), List.mem_of_getElem? (i := 781) (by decide +kernel)⟩
theorem lw_p37 : lw_okq (⟨"UnsaidScalesModel", "advances", "()V"⟩, 34) := ⟨⟨by decide +kernel, by decide +kernel⟩, List.mem_of_getElem? (i := 747) (by decide +kernel), List.mem_of_getElem? (i := 902) (by decide +kernel), List.mem_of_getElem? (i := 903) (by decide +kernel)⟩
theorem lw_p38 : lw_okq (⟨"UnsaidScalesModel", "letterAt", "(I)I"⟩, 34) := ⟨⟨by decide +kernel, by decide +kernel⟩, List.mem_of_getElem? (i := 747) (by decide +kernel), List.mem_of_getElem? (i := 906) (by decide +kernel), List.mem_of_getElem? (i := 907) (by decide +kernel)⟩
theorem lw_p39 : lw_okq (⟨"UnsaidScalesModel", "isWell", "()Z"⟩, 34) := ⟨⟨by decide +kernel, by decide +kernel⟩, List.mem_of_getElem? (i := 747) (by decide +kernel), List.mem_of_getElem? (i := 910) (by decide +kernel), List.mem_of_getElem? (i := 911) (by decide +kernel)⟩
theorem lw_p40 : lw_okq (⟨"UnsaidScalesModel", "mayBegin", "()Z"⟩, 34) := ⟨⟨by decide +kernel, by decide +kernel⟩, List.mem_of_getElem? (i := 747) (by decide +kernel), List.mem_of_getElem? (i := 914) (by decide +kernel), List.mem_of_getElem? (i := 915) (by decide +kernel)⟩
theorem lw_p41 : lw_okq (⟨"UnsaidScalesModel", "takes", "(Z)I"⟩, 34) := ⟨⟨by decide +kernel, by decide +kernel⟩, List.mem_of_getElem? (i := 747) (by decide +kernel), List.mem_of_getElem? (i := 918) (by decide +kernel), List.mem_of_getElem? (i := 919) (by decide +kernel)⟩
theorem lw_p42 : lw_okq (⟨"UnsaidScalesModel", "readsItem", "(I)V"⟩, 34) := ⟨⟨by decide +kernel, by decide +kernel⟩, List.mem_of_getElem? (i := 747) (by decide +kernel), List.mem_of_getElem? (i := 922) (by decide +kernel), List.mem_of_getElem? (i := 923) (by decide +kernel)⟩
theorem lw_p43 : lw_okq (⟨"UnsaidScalesModel", "number", "(II)I"⟩, 34) := ⟨⟨by decide +kernel, by decide +kernel⟩, List.mem_of_getElem? (i := 747) (by decide +kernel), List.mem_of_getElem? (i := 926) (by decide +kernel), List.mem_of_getElem? (i := 927) (by decide +kernel)⟩
theorem lw_p44 : lw_okq (⟨"UnsaidScalesModel", "isPerson", "(I)Z"⟩, 34) := ⟨⟨by decide +kernel, by decide +kernel⟩, List.mem_of_getElem? (i := 747) (by decide +kernel), List.mem_of_getElem? (i := 934) (by decide +kernel), List.mem_of_getElem? (i := 935) (by decide +kernel)⟩
theorem lw_p45 : lw_okq (⟨"UnsaidScalesModel", "heaviness", "(I)I"⟩, 34) := ⟨⟨by decide +kernel, by decide +kernel⟩, List.mem_of_getElem? (i := 747) (by decide +kernel), List.mem_of_getElem? (i := 953) (by decide +kernel), List.mem_of_getElem? (i := 954) (by decide +kernel)⟩
theorem lw_p46 : lw_okq (⟨"UnsaidScalesModel", "isPair", "(II)Z"⟩, 34) := ⟨⟨by decide +kernel, by decide +kernel⟩, List.mem_of_getElem? (i := 747) (by decide +kernel), List.mem_of_getElem? (i := 961) (by decide +kernel), List.mem_of_getElem? (i := 962) (by decide +kernel)⟩
theorem lw_p47 : lw_okq (⟨"UnsaidScalesModel", "knownMany", "()I"⟩, 34) := ⟨⟨by decide +kernel, by decide +kernel⟩, List.mem_of_getElem? (i := 747) (by decide +kernel), List.mem_of_getElem? (i := 975) (by decide +kernel), List.mem_of_getElem? (i := 976) (by decide +kernel)⟩
def lw_privs_3 : List (MethodName × Nat) := [(⟨"UnsaidScalesModel", "settles", "()V"⟩, 34), (⟨"UnsaidScalesModel", "orders", "()V"⟩, 34), (⟨"UnsaidScalesModel", "isPairNumber", "(I)Z"⟩, 34), (⟨"UnsaidScalesModel", "worsts", "()V"⟩, 34), (⟨"UnsaidScalesModel", "worstBehind", "(II)I"⟩, 34), (⟨"UnsaidScalesModel", "advances", "()V"⟩, 34), (⟨"UnsaidScalesModel", "letterAt", "(I)I"⟩, 34), (⟨"UnsaidScalesModel", "isWell", "()Z"⟩, 34), (⟨"UnsaidScalesModel", "mayBegin", "()Z"⟩, 34), (⟨"UnsaidScalesModel", "takes", "(Z)I"⟩, 34), (⟨"UnsaidScalesModel", "readsItem", "(I)V"⟩, 34), (⟨"UnsaidScalesModel", "number", "(II)I"⟩, 34), (⟨"UnsaidScalesModel", "isPerson", "(I)Z"⟩, 34), (⟨"UnsaidScalesModel", "heaviness", "(I)I"⟩, 34), (⟨"UnsaidScalesModel", "isPair", "(II)Z"⟩, 34), (⟨"UnsaidScalesModel", "knownMany", "()I"⟩, 34)]
theorem lw_r3 : ∀ q ∈ lw_privs_3, lw_okq q := List.forall_mem_cons.mpr ⟨lw_p32, List.forall_mem_cons.mpr ⟨lw_p33, List.forall_mem_cons.mpr ⟨lw_p34, List.forall_mem_cons.mpr ⟨lw_p35, List.forall_mem_cons.mpr ⟨lw_p36, List.forall_mem_cons.mpr ⟨lw_p37, List.forall_mem_cons.mpr ⟨lw_p38, List.forall_mem_cons.mpr ⟨lw_p39, List.forall_mem_cons.mpr ⟨lw_p40, List.forall_mem_cons.mpr ⟨lw_p41, List.forall_mem_cons.mpr ⟨lw_p42, List.forall_mem_cons.mpr ⟨lw_p43, List.forall_mem_cons.mpr ⟨lw_p44, List.forall_mem_cons.mpr ⟨lw_p45, List.forall_mem_cons.mpr ⟨lw_p46, List.forall_mem_cons.mpr ⟨lw_p47, fun _ h => absurd h List.not_mem_nil⟩⟩⟩⟩⟩⟩⟩⟩⟩⟩⟩⟩⟩⟩⟩⟩
theorem lw_p48 : lw_okq (⟨"UnsaidScalesModel", "codeNow", "()I"⟩, 34) := ⟨⟨by decide +kernel, by decide +kernel⟩, List.mem_of_getElem? (i := 747) (by decide +kernel), List.mem_of_getElem? (i := 979) (by decide +kernel), List.mem_of_getElem? (i := 980) (by decide +kernel)⟩
theorem lw_p49 : lw_okq (⟨"UnsaidScalesModel", "nextPair", "()I"⟩, 34) := ⟨⟨by decide +kernel, by decide +kernel⟩, List.mem_of_getElem? (i := 747) (by decide +kernel), List.mem_of_getElem? (i := 983) (by decide +kernel), List.mem_of_getElem? (i := 984) (by decide +kernel)⟩
theorem lw_p50 : lw_okq (⟨"UnsaidScalesModel", "range", "()I"⟩, 34) := ⟨⟨by decide +kernel, by decide +kernel⟩, List.mem_of_getElem? (i := 747) (by decide +kernel), List.mem_of_getElem? (i := 987) (by decide +kernel), List.mem_of_getElem? (i := 988) (by decide +kernel)⟩
theorem lw_p51 : lw_okq (⟨"UnsaidScalesModel", "sumOf", "(I)I"⟩, 34) := ⟨⟨by decide +kernel, by decide +kernel⟩, List.mem_of_getElem? (i := 747) (by decide +kernel), List.mem_of_getElem? (i := 991) (by decide +kernel), List.mem_of_getElem? (i := 992) (by decide +kernel)⟩
theorem lw_p52 : lw_okq (⟨"UnsaidScalesModel", "notes", "()V"⟩, 34) := ⟨⟨by decide +kernel, by decide +kernel⟩, List.mem_of_getElem? (i := 747) (by decide +kernel), List.mem_of_getElem? (i := 999) (by decide +kernel), List.mem_of_getElem? (i := 1000) (by decide +kernel)⟩
theorem lw_p53 : lw_okq (⟨"UnsaidScalesModel", "gets", "(III)V"⟩, 34) := ⟨⟨by decide +kernel, by decide +kernel⟩, List.mem_of_getElem? (i := 747) (by decide +kernel), List.mem_of_getElem? (i := 1003) (by decide +kernel), List.mem_of_getElem? (i := 1004) (by decide +kernel)⟩
theorem lw_p54 : lw_okq (⟨"UnsaidScalesModel", "sheds", "(II)V"⟩, 34) := ⟨⟨by decide +kernel, by decide +kernel⟩, List.mem_of_getElem? (i := 747) (by decide +kernel), List.mem_of_getElem? (i := 1036) (by decide +kernel), List.mem_of_getElem? (i := 1037) (by decide +kernel)⟩
theorem lw_p55 : lw_okq (⟨"UnsaidScalesModel", "canSay", "(II)Z"⟩, 34) := ⟨⟨by decide +kernel, by decide +kernel⟩, List.mem_of_getElem? (i := 747) (by decide +kernel), List.mem_of_getElem? (i := 1040) (by decide +kernel), List.mem_of_getElem? (i := 1041) (by decide +kernel)⟩
theorem lw_p56 : lw_okq (⟨"UnsaidScalesModel", "weighsOf", "(I)I"⟩, 34) := ⟨⟨by decide +kernel, by decide +kernel⟩, List.mem_of_getElem? (i := 747) (by decide +kernel), List.mem_of_getElem? (i := 1044) (by decide +kernel), List.mem_of_getElem? (i := 1045) (by decide +kernel)⟩
theorem lw_p57 : lw_okq (⟨"UnsaidScalesModel", "wayOf", "(III)I"⟩, 34) := ⟨⟨by decide +kernel, by decide +kernel⟩, List.mem_of_getElem? (i := 747) (by decide +kernel), List.mem_of_getElem? (i := 1048) (by decide +kernel), List.mem_of_getElem? (i := 1049) (by decide +kernel)⟩
theorem lw_p58 : lw_okq (⟨"UnsaidScalesModel", "heavinessThen", "(II)I"⟩, 34) := ⟨⟨by decide +kernel, by decide +kernel⟩, List.mem_of_getElem? (i := 747) (by decide +kernel), List.mem_of_getElem? (i := 1056) (by decide +kernel), List.mem_of_getElem? (i := 1057) (by decide +kernel)⟩
theorem lw_p59 : lw_okq (⟨"UnsaidScalesModel", "pieces", "(I)I"⟩, 34) := ⟨⟨by decide +kernel, by decide +kernel⟩, List.mem_of_getElem? (i := 747) (by decide +kernel), List.mem_of_getElem? (i := 1073) (by decide +kernel), List.mem_of_getElem? (i := 1074) (by decide +kernel)⟩
theorem lw_p60 : lw_okq (⟨"UnsaidScalesModel", "isAsShown", "(II)Z"⟩, 34) := ⟨⟨by decide +kernel, by decide +kernel⟩, List.mem_of_getElem? (i := 747) (by decide +kernel), List.mem_of_getElem? (i := 1085) (by decide +kernel), List.mem_of_getElem? (i := 1086) (by decide +kernel)⟩
def lw_privs_4 : List (MethodName × Nat) := [(⟨"UnsaidScalesModel", "codeNow", "()I"⟩, 34), (⟨"UnsaidScalesModel", "nextPair", "()I"⟩, 34), (⟨"UnsaidScalesModel", "range", "()I"⟩, 34), (⟨"UnsaidScalesModel", "sumOf", "(I)I"⟩, 34), (⟨"UnsaidScalesModel", "notes", "()V"⟩, 34), (⟨"UnsaidScalesModel", "gets", "(III)V"⟩, 34), (⟨"UnsaidScalesModel", "sheds", "(II)V"⟩, 34), (⟨"UnsaidScalesModel", "canSay", "(II)Z"⟩, 34), (⟨"UnsaidScalesModel", "weighsOf", "(I)I"⟩, 34), (⟨"UnsaidScalesModel", "wayOf", "(III)I"⟩, 34), (⟨"UnsaidScalesModel", "heavinessThen", "(II)I"⟩, 34), (⟨"UnsaidScalesModel", "pieces", "(I)I"⟩, 34), (⟨"UnsaidScalesModel", "isAsShown", "(II)Z"⟩, 34)]
theorem lw_r4 : ∀ q ∈ lw_privs_4, lw_okq q := List.forall_mem_cons.mpr ⟨lw_p48, List.forall_mem_cons.mpr ⟨lw_p49, List.forall_mem_cons.mpr ⟨lw_p50, List.forall_mem_cons.mpr ⟨lw_p51, List.forall_mem_cons.mpr ⟨lw_p52, List.forall_mem_cons.mpr ⟨lw_p53, List.forall_mem_cons.mpr ⟨lw_p54, List.forall_mem_cons.mpr ⟨lw_p55, List.forall_mem_cons.mpr ⟨lw_p56, List.forall_mem_cons.mpr ⟨lw_p57, List.forall_mem_cons.mpr ⟨lw_p58, List.forall_mem_cons.mpr ⟨lw_p59, List.forall_mem_cons.mpr ⟨lw_p60, fun _ h => absurd h List.not_mem_nil⟩⟩⟩⟩⟩⟩⟩⟩⟩⟩⟩⟩⟩
def lw_privs : List (MethodName × Nat) := lw_privs_1 ++ (lw_privs_2 ++ (lw_privs_3 ++ (lw_privs_4)))
def lw_tbl : List Cond := k2_sels lw_privs ++ tables_1
theorem lw_privs_ok : ∀ q ∈ lw_privs, lw_okq q := by
  show ∀ q ∈ lw_privs_1 ++ (lw_privs_2 ++ (lw_privs_3 ++ (lw_privs_4))), lw_okq q
  exact List.forall_mem_append.mpr ⟨lw_r1, List.forall_mem_append.mpr ⟨lw_r2, List.forall_mem_append.mpr ⟨lw_r3, lw_r4⟩⟩⟩
def RX0 : String := "UnsaidScales$Drawer"
def TX0 : u_T := fun k => match k with
  | 0 => ("UnsaidScales$Drawer", "panWeights", "[I", true)
  | _ => ("UnsaidScales$Drawer", "ways", "[I", true)
def tyX0 : Nat → FieldType := fun k => match k with
  | 0 => .array .int
  | _ => .array .int
abbrev wsX00 : List Cond := u_ws RX0 TX0 2
theorem nmX0 : ∀ a, a < 2 → ∀ b, b < 2 → a ≠ b → (TX0 a).2.1 ≠ (TX0 b).2.1 := by decide +kernel
theorem tyX0_ok : ∀ k, k < 2 → parseFieldDescriptor (TX0 k).2.2.1 = some (tyX0 k) := by decide +kernel
abbrev cX0_init : ByteArray := prog_2_method_1_code
def yX0_init : MethodName := ⟨RX0, "<init>", "()V"⟩
abbrev cX0_layOut : ByteArray := prog_2_method_2_code
def yX0_layOut : MethodName := ⟨RX0, "layOut", "(LUnsaidScales$ToldShop;)V"⟩
abbrev cX0_canWeigh : ByteArray := prog_2_method_3_code
def yX0_canWeigh : MethodName := ⟨RX0, "canWeigh", "(I)Z"⟩
abbrev cX0_fewestPieces : ByteArray := prog_2_method_4_code
def yX0_fewestPieces : MethodName := ⟨RX0, "fewestPieces", "(I)I"⟩
abbrev cX0_heavierPan : ByteArray := prog_2_method_5_code
def yX0_heavierPan : MethodName := ⟨RX0, "heavierPan", "(I)I"⟩
abbrev cX0_otherPan : ByteArray := prog_2_method_6_code
def yX0_otherPan : MethodName := ⟨RX0, "otherPan", "(I)I"⟩
abbrev cX0_range : ByteArray := prog_2_method_7_code
def yX0_range : MethodName := ⟨RX0, "range", "()I"⟩
abbrev cX0_offer : ByteArray := prog_2_method_8_code
def yX0_offer : MethodName := ⟨RX0, "offer", "(II)V"⟩
abbrev cX0_weigh : ByteArray := prog_2_method_9_code
def yX0_weigh : MethodName := ⟨RX0, "weigh", "(ILUnsaidScales$ToldShop;)I"⟩
def RX1 : String := "UnsaidScales$Evidence"
def TX1 : u_T := fun k => match k with
  | 0 => ("UnsaidScales$Evidence", "shownOf", "[I", true)
  | 1 => ("UnsaidScales$Evidence", "shownBrass", "[I", true)
  | 2 => ("UnsaidScales$Evidence", "shownHow", "[I", true)
  | 3 => ("UnsaidScales$Evidence", "seenOf", "[I", true)
  | 4 => ("UnsaidScales$Evidence", "seenGain", "[I", true)
  | 5 => ("UnsaidScales$Evidence", "waysOfHeaviness", "[I", true)
  | 6 => ("UnsaidScales$Evidence", "waysStand", "Z", false)
  | 7 => ("UnsaidScales$Evidence", "shown", "I", false)
  | _ => ("UnsaidScales$Evidence", "seen", "I", false)
def tyX1 : Nat → FieldType := fun k => match k with
  | 0 => .array .int
  | 1 => .array .int
  | 2 => .array .int
  | 3 => .array .int
  | 4 => .array .int
  | 5 => .array .int
  | 6 => .boolean
  | 7 => .int
  | _ => .int
abbrev wsX10 : List Cond := u_ws RX1 TX1 9
theorem nmX1 : ∀ a, a < 9 → ∀ b, b < 9 → a ≠ b → (TX1 a).2.1 ≠ (TX1 b).2.1 := by decide +kernel
theorem tyX1_ok : ∀ k, k < 9 → parseFieldDescriptor (TX1 k).2.2.1 = some (tyX1 k) := by decide +kernel
abbrev cX1_init : ByteArray := prog_3_method_1_code
def yX1_init : MethodName := ⟨RX1, "<init>", "()V"⟩
abbrev cX1_begin : ByteArray := prog_3_method_2_code
def yX1_begin : MethodName := ⟨RX1, "begin", "()V"⟩
abbrev cX1_addShown : ByteArray := prog_3_method_3_code
def yX1_addShown : MethodName := ⟨RX1, "addShown", "(III)Z"⟩
abbrev cX1_addSeen : ByteArray := prog_3_method_4_code
def yX1_addSeen : MethodName := ⟨RX1, "addSeen", "(II)Z"⟩
abbrev cX1_dropRecords : ByteArray := prog_3_method_5_code
def yX1_dropRecords : MethodName := ⟨RX1, "dropRecords", "()V"⟩
abbrev cX1_prepareWays : ByteArray := prog_3_method_6_code
def yX1_prepareWays : MethodName := ⟨RX1, "prepareWays", "([I)V"⟩
abbrev cX1_lowestOf : ByteArray := prog_3_method_7_code
def yX1_lowestOf : MethodName := ⟨RX1, "lowestOf", "(I)I"⟩
abbrev cX1_highestOf : ByteArray := prog_3_method_8_code
def yX1_highestOf : MethodName := ⟨RX1, "highestOf", "(I)I"⟩
abbrev cX1_waysBetween : ByteArray := prog_3_method_9_code
def yX1_waysBetween : MethodName := ⟨RX1, "waysBetween", "(II)I"⟩
abbrev cX1_leastBetween : ByteArray := prog_3_method_10_code
def yX1_leastBetween : MethodName := ⟨RX1, "leastBetween", "(II)I"⟩
abbrev cX1_greatestBetween : ByteArray := prog_3_method_11_code
def yX1_greatestBetween : MethodName := ⟨RX1, "greatestBetween", "(II)I"⟩
abbrev cX1_lawsOf : ByteArray := prog_3_method_12_code
def yX1_lawsOf : MethodName := ⟨RX1, "lawsOf", "(I[I)I"⟩
abbrev cX1_firstLawOf : ByteArray := prog_3_method_13_code
def yX1_firstLawOf : MethodName := ⟨RX1, "firstLawOf", "(I[I)I"⟩
abbrev cX1_gainOf : ByteArray := prog_3_method_14_code
def yX1_gainOf : MethodName := ⟨RX1, "gainOf", "(I[I)I"⟩
abbrev cX1_figuresOf : ByteArray := prog_3_method_15_code
def yX1_figuresOf : MethodName := ⟨RX1, "figuresOf", "(I)I"⟩
abbrev cX1_fits : ByteArray := prog_3_method_16_code
def yX1_fits : MethodName := ⟨RX1, "fits", "(II)Z"⟩
def RX2 : String := "UnsaidScales$History"
def TX2 : u_T := fun k => match k with
  | 0 => ("UnsaidScales$History", "ring", "[LUnsaidScales$Moment;", true)
  | 1 => ("UnsaidScales$History", "next", "I", false)
  | _ => ("UnsaidScales$History", "size", "I", false)
def tyX2 : Nat → FieldType := fun k => match k with
  | 0 => .array (.object "UnsaidScales$Moment")
  | 1 => .int
  | _ => .int
abbrev wsX20 : List Cond := u_ws RX2 TX2 3
theorem nmX2 : ∀ a, a < 3 → ∀ b, b < 3 → a ≠ b → (TX2 a).2.1 ≠ (TX2 b).2.1 := by decide +kernel
theorem tyX2_ok : ∀ k, k < 3 → parseFieldDescriptor (TX2 k).2.2.1 = some (tyX2 k) := by decide +kernel
abbrev cX2_init : ByteArray := prog_4_method_1_code
def yX2_init : MethodName := ⟨RX2, "<init>", "()V"⟩
abbrev cX2_push : ByteArray := prog_4_method_2_code
def yX2_push : MethodName := ⟨RX2, "push", "(LUnsaidScales$Moment;)V"⟩
abbrev cX2_popInto : ByteArray := prog_4_method_3_code
def yX2_popInto : MethodName := ⟨RX2, "popInto", "(LUnsaidScales$Moment;)V"⟩
def RX3 : String := "UnsaidScales$LeastSaid"
def TX3 : u_T := fun k => match k with
  | 0 => ("UnsaidScales$LeastSaid", "firstFewest", "[I", true)
  | 1 => ("UnsaidScales$LeastSaid", "secondFewest", "[I", true)
  | 2 => ("UnsaidScales$LeastSaid", "things", "I", false)
  | 3 => ("UnsaidScales$LeastSaid", "heaviness", "I", false)
  | 4 => ("UnsaidScales$LeastSaid", "firstSheds", "I", false)
  | _ => ("UnsaidScales$LeastSaid", "secondSheds", "I", false)
def tyX3 : Nat → FieldType := fun k => match k with
  | 0 => .array .int
  | 1 => .array .int
  | 2 => .int
  | 3 => .int
  | 4 => .int
  | _ => .int
abbrev wsX30 : List Cond := u_ws RX3 TX3 6
theorem nmX3 : ∀ a, a < 6 → ∀ b, b < 6 → a ≠ b → (TX3 a).2.1 ≠ (TX3 b).2.1 := by decide +kernel
theorem tyX3_ok : ∀ k, k < 6 → parseFieldDescriptor (TX3 k).2.2.1 = some (tyX3 k) := by decide +kernel
abbrev cX3_init : ByteArray := prog_5_method_1_code
def yX3_init : MethodName := ⟨RX3, "<init>", "()V"⟩
abbrev cX3_find : ByteArray := prog_5_method_2_code
def yX3_find : MethodName := ⟨RX3, "find", "([I[III)V"⟩
abbrev cX3_firstSays : ByteArray := prog_5_method_3_code
def yX3_firstSays : MethodName := ⟨RX3, "firstSays", "([I[III)I"⟩
abbrev cX3_secondSays : ByteArray := prog_5_method_4_code
def yX3_secondSays : MethodName := ⟨RX3, "secondSays", "([I[III)I"⟩
abbrev cX3_countFewest : ByteArray := prog_5_method_5_code
def yX3_countFewest : MethodName := ⟨RX3, "countFewest", "([I[I[II)I"⟩
abbrev cX3_offerBundle : ByteArray := prog_5_method_6_code
def yX3_offerBundle : MethodName := ⟨RX3, "offerBundle", "([IIII)V"⟩
abbrev cX3_firstWay : ByteArray := prog_5_method_7_code
def yX3_firstWay : MethodName := ⟨RX3, "firstWay", "([I[IIII)I"⟩
abbrev cX3_figureOf : ByteArray := prog_5_method_8_code
def yX3_figureOf : MethodName := ⟨RX3, "figureOf", "(II)I"⟩
def RX4 : String := "UnsaidScales$Moment"
def TX4 : u_T := fun k => match k with
  | 0 => ("UnsaidScales$Moment", "held", "[I", true)
  | 1 => ("UnsaidScales$Moment", "day", "I", false)
  | _ => ("UnsaidScales$Moment", "pairs", "I", false)
def tyX4 : Nat → FieldType := fun k => match k with
  | 0 => .array .int
  | 1 => .int
  | _ => .int
abbrev wsX40 : List Cond := u_ws RX4 TX4 3
theorem nmX4 : ∀ a, a < 3 → ∀ b, b < 3 → a ≠ b → (TX4 a).2.1 ≠ (TX4 b).2.1 := by decide +kernel
theorem tyX4_ok : ∀ k, k < 3 → parseFieldDescriptor (TX4 k).2.2.1 = some (tyX4 k) := by decide +kernel
abbrev cX4_init : ByteArray := prog_6_method_1_code
def yX4_init : MethodName := ⟨RX4, "<init>", "()V"⟩
abbrev cX4_begin : ByteArray := prog_6_method_2_code
def yX4_begin : MethodName := ⟨RX4, "begin", "(LUnsaidScales$ToldShop;)V"⟩
abbrev cX4_copyFrom : ByteArray := prog_6_method_3_code
def yX4_copyFrom : MethodName := ⟨RX4, "copyFrom", "(LUnsaidScales$Moment;)V"⟩
abbrev cX4_add : ByteArray := prog_6_method_4_code
def yX4_add : MethodName := ⟨RX4, "add", "(II)V"⟩
def RX5 : String := "UnsaidScales$OrderTable"
def TX5 : u_T := fun k => match k with
  | 0 => ("UnsaidScales$OrderTable", "plans", "[S", true)
  | 1 => ("UnsaidScales$OrderTable", "heavierOnes", "[I", true)
  | 2 => ("UnsaidScales$OrderTable", "people", "I", false)
  | _ => ("UnsaidScales$OrderTable", "pairCount", "I", false)
def tyX5 : Nat → FieldType := fun k => match k with
  | 0 => .array .short
  | 1 => .array .int
  | 2 => .int
  | _ => .int
abbrev wsX50 : List Cond := u_ws RX5 TX5 4
theorem nmX5 : ∀ a, a < 4 → ∀ b, b < 4 → a ≠ b → (TX5 a).2.1 ≠ (TX5 b).2.1 := by decide +kernel
theorem tyX5_ok : ∀ k, k < 4 → parseFieldDescriptor (TX5 k).2.2.1 = some (tyX5 k) := by decide +kernel
abbrev cX5_init : ByteArray := prog_7_method_1_code
def yX5_init : MethodName := ⟨RX5, "<init>", "()V"⟩
abbrev cX5_prepare : ByteArray := prog_7_method_2_code
def yX5_prepare : MethodName := ⟨RX5, "prepare", "(I)V"⟩
abbrev cX5_ordersLeft : ByteArray := prog_7_method_3_code
def yX5_ordersLeft : MethodName := ⟨RX5, "ordersLeft", "(I)I"⟩
abbrev cX5_worstOf : ByteArray := prog_7_method_4_code
def yX5_worstOf : MethodName := ⟨RX5, "worstOf", "(I)I"⟩
abbrev cX5_nextPair : ByteArray := prog_7_method_5_code
def yX5_nextPair : MethodName := ⟨RX5, "nextPair", "(I)I"⟩
abbrev cX5_countOrders : ByteArray := prog_7_method_6_code
def yX5_countOrders : MethodName := ⟨RX5, "countOrders", "(I)I"⟩
abbrev cX5_leastBehind : ByteArray := prog_7_method_7_code
def yX5_leastBehind : MethodName := ⟨RX5, "leastBehind", "(I)I"⟩
abbrev cX5_worstBehind : ByteArray := prog_7_method_8_code
def yX5_worstBehind : MethodName := ⟨RX5, "worstBehind", "(II)I"⟩
abbrev cX5_isOrder : ByteArray := prog_7_method_9_code
def yX5_isOrder : MethodName := ⟨RX5, "isOrder", "(I)Z"⟩
abbrev cX5_countHeavierOnes : ByteArray := prog_7_method_10_code
def yX5_countHeavierOnes : MethodName := ⟨RX5, "countHeavierOnes", "(I)V"⟩
abbrev cX5_dueFinding : ByteArray := prog_7_method_11_code
def yX5_dueFinding : MethodName := ⟨RX5, "dueFinding", "(II)I"⟩
def RX6 : String := "UnsaidScales$TextReader"
def TX6 : u_T := fun k => match k with
  | 0 => ("UnsaidScales$TextReader", "letters", "[C", true)
  | 1 => ("UnsaidScales$TextReader", "length", "I", false)
  | 2 => ("UnsaidScales$TextReader", "at", "I", false)
  | _ => ("UnsaidScales$TextReader", "fault", "I", false)
def tyX6 : Nat → FieldType := fun k => match k with
  | 0 => .array .char
  | 1 => .int
  | 2 => .int
  | _ => .int
abbrev wsX60 : List Cond := u_ws RX6 TX6 4
theorem nmX6 : ∀ a, a < 4 → ∀ b, b < 4 → a ≠ b → (TX6 a).2.1 ≠ (TX6 b).2.1 := by decide +kernel
theorem tyX6_ok : ∀ k, k < 4 → parseFieldDescriptor (TX6 k).2.2.1 = some (tyX6 k) := by decide +kernel
abbrev cX6_init : ByteArray := prog_8_method_1_code
def yX6_init : MethodName := ⟨RX6, "<init>", "()V"⟩
abbrev cX6_append : ByteArray := prog_8_method_2_code
def yX6_append : MethodName := ⟨RX6, "append", "(C)Z"⟩
abbrev cX6_hasFault : ByteArray := prog_8_method_3_code
def yX6_hasFault : MethodName := ⟨RX6, "hasFault", "()Z"⟩
abbrev cX6_readInto : ByteArray := prog_8_method_4_code
def yX6_readInto : MethodName := ⟨RX6, "readInto", "(LUnsaidScales$ToldShop;)I"⟩
abbrev cX6_readItem : ByteArray := prog_8_method_5_code
def yX6_readItem : MethodName := ⟨RX6, "readItem", "(LUnsaidScales$ToldShop;)V"⟩
abbrev cX6_readWeight : ByteArray := prog_8_method_6_code
def yX6_readWeight : MethodName := ⟨RX6, "readWeight", "(LUnsaidScales$ToldShop;)V"⟩
abbrev cX6_readPerson : ByteArray := prog_8_method_7_code
def yX6_readPerson : MethodName := ⟨RX6, "readPerson", "(LUnsaidScales$ToldShop;)V"⟩
abbrev cX6_readGrowth : ByteArray := prog_8_method_8_code
def yX6_readGrowth : MethodName := ⟨RX6, "readGrowth", "(LUnsaidScales$ToldShop;)V"⟩
abbrev cX6_readPiece : ByteArray := prog_8_method_9_code
def yX6_readPiece : MethodName := ⟨RX6, "readPiece", "(LUnsaidScales$ToldShop;)V"⟩
abbrev cX6_readNumber : ByteArray := prog_8_method_10_code
def yX6_readNumber : MethodName := ⟨RX6, "readNumber", "(II)I"⟩
abbrev cX6_readEnd : ByteArray := prog_8_method_11_code
def yX6_readEnd : MethodName := ⟨RX6, "readEnd", "()V"⟩
abbrev cX6_skipBlanks : ByteArray := prog_8_method_12_code
def yX6_skipBlanks : MethodName := ⟨RX6, "skipBlanks", "()V"⟩
abbrev cX6_isFigure : ByteArray := prog_8_method_13_code
def yX6_isFigure : MethodName := ⟨RX6, "isFigure", "(C)Z"⟩
def RX7 : String := "UnsaidScales$ToldShop"
def TX7 : u_T := fun k => match k with
  | 0 => ("UnsaidScales$ToldShop", "weights", "[I", true)
  | 1 => ("UnsaidScales$ToldShop", "firstHeld", "[I", true)
  | 2 => ("UnsaidScales$ToldShop", "growth", "[I", true)
  | 3 => ("UnsaidScales$ToldShop", "pieces", "[I", true)
  | 4 => ("UnsaidScales$ToldShop", "people", "I", false)
  | _ => ("UnsaidScales$ToldShop", "pieceCount", "I", false)
def tyX7 : Nat → FieldType := fun k => match k with
  | 0 => .array .int
  | 1 => .array .int
  | 2 => .array .int
  | 3 => .array .int
  | 4 => .int
  | _ => .int
abbrev wsX70 : List Cond := u_ws RX7 TX7 6
theorem nmX7 : ∀ a, a < 6 → ∀ b, b < 6 → a ≠ b → (TX7 a).2.1 ≠ (TX7 b).2.1 := by decide +kernel
theorem tyX7_ok : ∀ k, k < 6 → parseFieldDescriptor (TX7 k).2.2.1 = some (tyX7 k) := by decide +kernel
abbrev cX7_init : ByteArray := prog_9_method_1_code
def yX7_init : MethodName := ⟨RX7, "<init>", "()V"⟩
abbrev cX7_makeEmpty : ByteArray := prog_9_method_2_code
def yX7_makeEmpty : MethodName := ⟨RX7, "makeEmpty", "()V"⟩
abbrev cX7_copyFrom : ByteArray := prog_9_method_3_code
def yX7_copyFrom : MethodName := ⟨RX7, "copyFrom", "(LUnsaidScales$ToldShop;)V"⟩
def RX8 : String := "UnsaidScales"
def TX8 : u_T := fun k => match k with
  | 0 => ("UnsaidScales", "text", "LUnsaidScales$TextReader;", true)
  | 1 => ("UnsaidScales", "told", "LUnsaidScales$ToldShop;", true)
  | 2 => ("UnsaidScales", "draft", "LUnsaidScales$ToldShop;", true)
  | 3 => ("UnsaidScales", "present", "LUnsaidScales$Moment;", true)
  | 4 => ("UnsaidScales", "history", "LUnsaidScales$History;", true)
  | 5 => ("UnsaidScales", "images", "[LUnsaidScales$Moment;", true)
  | 6 => ("UnsaidScales", "kept", "[Z", true)
  | 7 => ("UnsaidScales", "orders", "LUnsaidScales$OrderTable;", true)
  | 8 => ("UnsaidScales", "drawer", "LUnsaidScales$Drawer;", true)
  | 9 => ("UnsaidScales", "leastSaid", "LUnsaidScales$LeastSaid;", true)
  | 10 => ("UnsaidScales", "evidence", "LUnsaidScales$Evidence;", true)
  | _ => ("UnsaidScales", "traced", "J", false)
def tyX8 : Nat → FieldType := fun k => match k with
  | 0 => .object "UnsaidScales$TextReader"
  | 1 => .object "UnsaidScales$ToldShop"
  | 2 => .object "UnsaidScales$ToldShop"
  | 3 => .object "UnsaidScales$Moment"
  | 4 => .object "UnsaidScales$History"
  | 5 => .array (.object "UnsaidScales$Moment")
  | 6 => .array .boolean
  | 7 => .object "UnsaidScales$OrderTable"
  | 8 => .object "UnsaidScales$Drawer"
  | 9 => .object "UnsaidScales$LeastSaid"
  | 10 => .object "UnsaidScales$Evidence"
  | _ => .long
abbrev wsX80 : List Cond := u_ws RX8 TX8 12
theorem nmX8 : ∀ a, a < 12 → ∀ b, b < 12 → a ≠ b → (TX8 a).2.1 ≠ (TX8 b).2.1 := by decide +kernel
theorem tyX8_ok : ∀ k, k < 12 → parseFieldDescriptor (TX8 k).2.2.1 = some (tyX8 k) := by decide +kernel
abbrev cX8_init : ByteArray := prog_1_method_1_code
def yX8_init : MethodName := ⟨RX8, "<init>", "()V"⟩
abbrev cX8_type : ByteArray := prog_1_method_2_code
def yX8_type : MethodName := ⟨RX8, "type", "(I)I"⟩
abbrev cX8_clear : ByteArray := prog_1_method_3_code
def yX8_clear : MethodName := ⟨RX8, "clear", "()I"⟩
abbrev cX8_shop : ByteArray := prog_1_method_4_code
def yX8_shop : MethodName := ⟨RX8, "shop", "()I"⟩
abbrev cX8_holds : ByteArray := prog_1_method_5_code
def yX8_holds : MethodName := ⟨RX8, "holds", "(II)I"⟩
abbrev cX8_grows : ByteArray := prog_1_method_6_code
def yX8_grows : MethodName := ⟨RX8, "grows", "(II)I"⟩
abbrev cX8_weight : ByteArray := prog_1_method_7_code
def yX8_weight : MethodName := ⟨RX8, "weight", "(I)I"⟩
abbrev cX8_heavy : ByteArray := prog_1_method_8_code
def yX8_heavy : MethodName := ⟨RX8, "heavy", "(I)I"⟩
abbrev cX8_known : ByteArray := prog_1_method_9_code
def yX8_known : MethodName := ⟨RX8, "known", "(II)I"⟩
abbrev cX8_now : ByteArray := prog_1_method_10_code
def yX8_now : MethodName := ⟨RX8, "now", "(I)I"⟩
abbrev cX8_tells : ByteArray := prog_1_method_11_code
def yX8_tells : MethodName := ⟨RX8, "tells", "(III)I"⟩
abbrev cX8_keeps : ByteArray := prog_1_method_12_code
def yX8_keeps : MethodName := ⟨RX8, "keeps", "(II)I"⟩
abbrev cX8_day : ByteArray := prog_1_method_13_code
def yX8_day : MethodName := ⟨RX8, "day", "()I"⟩
abbrev cX8_weighs : ByteArray := prog_1_method_14_code
def yX8_weighs : MethodName := ⟨RX8, "weighs", "(II)I"⟩
abbrev cX8_forgets : ByteArray := prog_1_method_15_code
def yX8_forgets : MethodName := ⟨RX8, "forgets", "()I"⟩
abbrev cX8_undo : ByteArray := prog_1_method_16_code
def yX8_undo : MethodName := ⟨RX8, "undo", "()I"⟩
abbrev cX8_beam : ByteArray := prog_1_method_17_code
def yX8_beam : MethodName := ⟨RX8, "beam", "(II)I"⟩
abbrev cX8_level : ByteArray := prog_1_method_18_code
def yX8_level : MethodName := ⟨RX8, "level", "(III)I"⟩
abbrev cX8_when : ByteArray := prog_1_method_19_code
def yX8_when : MethodName := ⟨RX8, "when", "(II)I"⟩
abbrev cX8_odds : ByteArray := prog_1_method_20_code
def yX8_odds : MethodName := ⟨RX8, "odds", "(IIIII)J"⟩
abbrev cX8_brass : ByteArray := prog_1_method_21_code
def yX8_brass : MethodName := ⟨RX8, "brass", "(II)I"⟩
abbrev cX8_shows : ByteArray := prog_1_method_22_code
def yX8_shows : MethodName := ⟨RX8, "shows", "(III)I"⟩
abbrev cX8_can : ByteArray := prog_1_method_23_code
def yX8_can : MethodName := ⟨RX8, "can", "(II)I"⟩
abbrev cX8_saw : ByteArray := prog_1_method_24_code
def yX8_saw : MethodName := ⟨RX8, "saw", "(II)I"⟩
abbrev cX8_laws : ByteArray := prog_1_method_25_code
def yX8_laws : MethodName := ⟨RX8, "laws", "(II)I"⟩
abbrev cX8_clean : ByteArray := prog_1_method_26_code
def yX8_clean : MethodName := ⟨RX8, "clean", "()I"⟩
abbrev cX8_rate : ByteArray := prog_1_method_27_code
def yX8_rate : MethodName := ⟨RX8, "rate", "(II)I"⟩
abbrev cX8_keep : ByteArray := prog_1_method_28_code
def yX8_keep : MethodName := ⟨RX8, "keep", "(I)I"⟩
abbrev cX8_back : ByteArray := prog_1_method_29_code
def yX8_back : MethodName := ⟨RX8, "back", "(I)I"⟩
abbrev cX8_count : ByteArray := prog_1_method_30_code
def yX8_count : MethodName := ⟨RX8, "count", "(I)I"⟩
abbrev cX8_trace : ByteArray := prog_1_method_31_code
def yX8_trace : MethodName := ⟨RX8, "trace", "()J"⟩
abbrev cX8_beginAnew : ByteArray := prog_1_method_32_code
def yX8_beginAnew : MethodName := ⟨RX8, "beginAnew", "()V"⟩
abbrev cX8_within : ByteArray := prog_1_method_33_code
def yX8_within : MethodName := ⟨RX8, "within", "(III)Z"⟩
abbrev cX8_isSort : ByteArray := prog_1_method_34_code
def yX8_isSort : MethodName := ⟨RX8, "isSort", "(I)Z"⟩
abbrev cX8_isPerson : ByteArray := prog_1_method_35_code
def yX8_isPerson : MethodName := ⟨RX8, "isPerson", "(I)Z"⟩
abbrev cX8_isPair : ByteArray := prog_1_method_36_code
def yX8_isPair : MethodName := ⟨RX8, "isPair", "(II)Z"⟩
abbrev cX8_heavinessOf : ByteArray := prog_1_method_37_code
def yX8_heavinessOf : MethodName := ⟨RX8, "heavinessOf", "(I)I"⟩
abbrev cX8_heavinessAhead : ByteArray := prog_1_method_38_code
def yX8_heavinessAhead : MethodName := ⟨RX8, "heavinessAhead", "(II)I"⟩
abbrev cX8_pairOf : ByteArray := prog_1_method_39_code
def yX8_pairOf : MethodName := ⟨RX8, "pairOf", "(II)I"⟩
abbrev cX8_foundOf : ByteArray := prog_1_method_40_code
def yX8_foundOf : MethodName := ⟨RX8, "foundOf", "(II)I"⟩
abbrev cX8_withFound : ByteArray := prog_1_method_41_code
def yX8_withFound : MethodName := ⟨RX8, "withFound", "(III)I"⟩
abbrev cX8_compareLower : ByteArray := prog_1_method_42_code
def yX8_compareLower : MethodName := ⟨RX8, "compareLower", "(II)I"⟩
abbrev cX8_knownOf : ByteArray := prog_1_method_43_code
def yX8_knownOf : MethodName := ⟨RX8, "knownOf", "(II)I"⟩
abbrev cX8_knownPairs : ByteArray := prog_1_method_44_code
def yX8_knownPairs : MethodName := ⟨RX8, "knownPairs", "()I"⟩
abbrev cX8_planned : ByteArray := prog_1_method_45_code
def yX8_planned : MethodName := ⟨RX8, "planned", "(I)I"⟩
abbrev cX8_lighterWays : ByteArray := prog_1_method_46_code
def yX8_lighterWays : MethodName := ⟨RX8, "lighterWays", "(IIII)J"⟩
abbrev cX8_power : ByteArray := prog_1_method_47_code
def yX8_power : MethodName := ⟨RX8, "power", "(II)J"⟩
abbrev cX8_commonDivisor : ByteArray := prog_1_method_48_code
def yX8_commonDivisor : MethodName := ⟨RX8, "commonDivisor", "(JJ)J"⟩
abbrev cX8_asPerson : ByteArray := prog_1_method_49_code
def yX8_asPerson : MethodName := ⟨RX8, "asPerson", "(I)I"⟩
abbrev cX8_asBride : ByteArray := prog_1_method_50_code
def yX8_asBride : MethodName := ⟨RX8, "asBride", "(I)I"⟩
abbrev cX8_asPartner : ByteArray := prog_1_method_51_code
def yX8_asPartner : MethodName := ⟨RX8, "asPartner", "(I)I"⟩
abbrev cX8_asBrother : ByteArray := prog_1_method_52_code
def yX8_asBrother : MethodName := ⟨RX8, "asBrother", "(I)I"⟩
abbrev cX8_asBankrupt : ByteArray := prog_1_method_53_code
def yX8_asBankrupt : MethodName := ⟨RX8, "asBankrupt", "(I)I"⟩
abbrev cX8_asStranger : ByteArray := prog_1_method_54_code
def yX8_asStranger : MethodName := ⟨RX8, "asStranger", "(I)I"⟩
abbrev cX8_sumOfSorts : ByteArray := prog_1_method_55_code
def yX8_sumOfSorts : MethodName := ⟨RX8, "sumOfSorts", "([II)I"⟩
def RX9 : String := "UnsaidScalesModel"
def TX9 : u_T := fun k => match k with
  | 0 => ("UnsaidScalesModel", "thrown", "I", false)
  | 1 => ("UnsaidScalesModel", "trace", "J", false)
  | 2 => ("UnsaidScalesModel", "text", "[I", true)
  | 3 => ("UnsaidScalesModel", "typed", "I", false)
  | 4 => ("UnsaidScalesModel", "next", "I", false)
  | 5 => ("UnsaidScalesModel", "token", "I", false)
  | 6 => ("UnsaidScalesModel", "place", "I", false)
  | 7 => ("UnsaidScalesModel", "value", "I", false)
  | 8 => ("UnsaidScalesModel", "fault", "I", false)
  | 9 => ("UnsaidScalesModel", "many", "[I", true)
  | 10 => ("UnsaidScalesModel", "weight", "[I", true)
  | 11 => ("UnsaidScalesModel", "begun", "[I", true)
  | 12 => ("UnsaidScalesModel", "grows", "[I", true)
  | 13 => ("UnsaidScalesModel", "brass", "[I", true)
  | 14 => ("UnsaidScalesModel", "s", "[I", true)
  | 15 => ("UnsaidScalesModel", "kept", "[I", true)
  | 16 => ("UnsaidScalesModel", "isKept", "[Z", true)
  | 17 => ("UnsaidScalesModel", "undos", "[I", true)
  | 18 => ("UnsaidScalesModel", "undoMany", "I", false)
  | 19 => ("UnsaidScalesModel", "shownOf", "[I", true)
  | 20 => ("UnsaidScalesModel", "shownBrass", "[I", true)
  | 21 => ("UnsaidScalesModel", "shownHow", "[I", true)
  | 22 => ("UnsaidScalesModel", "shown", "I", false)
  | 23 => ("UnsaidScalesModel", "seenOf", "[I", true)
  | 24 => ("UnsaidScalesModel", "seenMore", "[I", true)
  | 25 => ("UnsaidScalesModel", "seen", "I", false)
  | 26 => ("UnsaidScalesModel", "orders", "[I", true)
  | 27 => ("UnsaidScalesModel", "orderMany", "I", false)
  | 28 => ("UnsaidScalesModel", "ordersBy", "[I", true)
  | 29 => ("UnsaidScalesModel", "worstBy", "[I", true)
  | 30 => ("UnsaidScalesModel", "fewest", "[I", true)
  | 31 => ("UnsaidScalesModel", "canWeigh", "[Z", true)
  | 32 => ("UnsaidScalesModel", "pan", "I", false)
  | _ => ("UnsaidScalesModel", "otherPan", "I", false)
def tyX9 : Nat → FieldType := fun k => match k with
  | 0 => .int
  | 1 => .long
  | 2 => .array .int
  | 3 => .int
  | 4 => .int
  | 5 => .int
  | 6 => .int
  | 7 => .int
  | 8 => .int
  | 9 => .array .int
  | 10 => .array .int
  | 11 => .array .int
  | 12 => .array .int
  | 13 => .array .int
  | 14 => .array .int
  | 15 => .array .int
  | 16 => .array .boolean
  | 17 => .array .int
  | 18 => .int
  | 19 => .array .int
  | 20 => .array .int
  | 21 => .array .int
  | 22 => .int
  | 23 => .array .int
  | 24 => .array .int
  | 25 => .int
  | 26 => .array .int
  | 27 => .int
  | 28 => .array .int
  | 29 => .array .int
  | 30 => .array .int
  | 31 => .array .boolean
  | 32 => .int
  | _ => .int
abbrev wsX90 : List Cond := u_ws RX9 TX9 34
theorem nmX9 : ∀ a, a < 34 → ∀ b, b < 34 → a ≠ b → (TX9 a).2.1 ≠ (TX9 b).2.1 := by decide +kernel
theorem tyX9_ok : ∀ k, k < 34 → parseFieldDescriptor (TX9 k).2.2.1 = some (tyX9 k) := by decide +kernel
abbrev cX9_init : ByteArray := prog_11_method_1_code
def yX9_init : MethodName := ⟨RX9, "<init>", "()V"⟩
abbrev cX9_in : ByteArray := prog_11_method_3_code
def yX9_in : MethodName := ⟨RX9, "in", "(III)Z"⟩
abbrev cX9_type : ByteArray := prog_11_method_4_code
def yX9_type : MethodName := ⟨RX9, "type", "(I)I"⟩
abbrev cX9_clear : ByteArray := prog_11_method_5_code
def yX9_clear : MethodName := ⟨RX9, "clear", "()I"⟩
abbrev cX9_letterAt : ByteArray := prog_11_method_6_code
def yX9_letterAt : MethodName := ⟨RX9, "letterAt", "(I)I"⟩
abbrev cX9_advances : ByteArray := prog_11_method_7_code
def yX9_advances : MethodName := ⟨RX9, "advances", "()V"⟩
abbrev cX9_isWell : ByteArray := prog_11_method_8_code
def yX9_isWell : MethodName := ⟨RX9, "isWell", "()Z"⟩
abbrev cX9_takes : ByteArray := prog_11_method_9_code
def yX9_takes : MethodName := ⟨RX9, "takes", "(Z)I"⟩
abbrev cX9_number : ByteArray := prog_11_method_10_code
def yX9_number : MethodName := ⟨RX9, "number", "(II)I"⟩
abbrev cX9_begins : ByteArray := prog_11_method_11_code
def yX9_begins : MethodName := ⟨RX9, "begins", "()V"⟩
abbrev cX9_readsItem : ByteArray := prog_11_method_12_code
def yX9_readsItem : MethodName := ⟨RX9, "readsItem", "(I)V"⟩
abbrev cX9_mayBegin : ByteArray := prog_11_method_13_code
def yX9_mayBegin : MethodName := ⟨RX9, "mayBegin", "()Z"⟩
abbrev cX9_shop : ByteArray := prog_11_method_14_code
def yX9_shop : MethodName := ⟨RX9, "shop", "()I"⟩
abbrev cX9_settles : ByteArray := prog_11_method_15_code
def yX9_settles : MethodName := ⟨RX9, "settles", "()V"⟩
abbrev cX9_isPerson : ByteArray := prog_11_method_16_code
def yX9_isPerson : MethodName := ⟨RX9, "isPerson", "(I)Z"⟩
abbrev cX9_isSort : ByteArray := prog_11_method_17_code
def yX9_isSort : MethodName := ⟨RX9, "isSort", "(I)Z"⟩
abbrev cX9_isPair : ByteArray := prog_11_method_18_code
def yX9_isPair : MethodName := ⟨RX9, "isPair", "(II)Z"⟩
abbrev cX9_heaviness : ByteArray := prog_11_method_19_code
def yX9_heaviness : MethodName := ⟨RX9, "heaviness", "(I)I"⟩
abbrev cX9_holds : ByteArray := prog_11_method_20_code
def yX9_holds : MethodName := ⟨RX9, "holds", "(II)I"⟩
abbrev cX9_grows : ByteArray := prog_11_method_21_code
def yX9_grows : MethodName := ⟨RX9, "grows", "(II)I"⟩
abbrev cX9_weight : ByteArray := prog_11_method_22_code
def yX9_weight : MethodName := ⟨RX9, "weight", "(I)I"⟩
abbrev cX9_heavy : ByteArray := prog_11_method_23_code
def yX9_heavy : MethodName := ⟨RX9, "heavy", "(I)I"⟩
abbrev cX9_pairOf : ByteArray := prog_11_method_24_code
def yX9_pairOf : MethodName := ⟨RX9, "pairOf", "(II)I"⟩
abbrev cX9_lowerOf : ByteArray := prog_11_method_25_code
def yX9_lowerOf : MethodName := ⟨RX9, "lowerOf", "(I)I"⟩
abbrev cX9_upperOf : ByteArray := prog_11_method_26_code
def yX9_upperOf : MethodName := ⟨RX9, "upperOf", "(I)I"⟩
abbrev cX9_isPairNumber : ByteArray := prog_11_method_27_code
def yX9_isPairNumber : MethodName := ⟨RX9, "isPairNumber", "(I)Z"⟩
abbrev cX9_turned : ByteArray := prog_11_method_28_code
def yX9_turned : MethodName := ⟨RX9, "turned", "(I)I"⟩
abbrev cX9_known : ByteArray := prog_11_method_29_code
def yX9_known : MethodName := ⟨RX9, "known", "(II)I"⟩
abbrev cX9_orders : ByteArray := prog_11_method_30_code
def yX9_orders : MethodName := ⟨RX9, "orders", "()V"⟩
abbrev cX9_worsts : ByteArray := prog_11_method_31_code
def yX9_worsts : MethodName := ⟨RX9, "worsts", "()V"⟩
abbrev cX9_worstBehind : ByteArray := prog_11_method_32_code
def yX9_worstBehind : MethodName := ⟨RX9, "worstBehind", "(II)I"⟩
abbrev cX9_codeNow : ByteArray := prog_11_method_33_code
def yX9_codeNow : MethodName := ⟨RX9, "codeNow", "()I"⟩
abbrev cX9_nextPair : ByteArray := prog_11_method_34_code
def yX9_nextPair : MethodName := ⟨RX9, "nextPair", "()I"⟩
abbrev cX9_knownMany : ByteArray := prog_11_method_35_code
def yX9_knownMany : MethodName := ⟨RX9, "knownMany", "()I"⟩
abbrev cX9_range : ByteArray := prog_11_method_36_code
def yX9_range : MethodName := ⟨RX9, "range", "()I"⟩
abbrev cX9_now : ByteArray := prog_11_method_37_code
def yX9_now : MethodName := ⟨RX9, "now", "(I)I"⟩
abbrev cX9_notes : ByteArray := prog_11_method_38_code
def yX9_notes : MethodName := ⟨RX9, "notes", "()V"⟩
abbrev cX9_gets : ByteArray := prog_11_method_39_code
def yX9_gets : MethodName := ⟨RX9, "gets", "(III)V"⟩
abbrev cX9_tells : ByteArray := prog_11_method_40_code
def yX9_tells : MethodName := ⟨RX9, "tells", "(III)I"⟩
abbrev cX9_keeps : ByteArray := prog_11_method_41_code
def yX9_keeps : MethodName := ⟨RX9, "keeps", "(II)I"⟩
abbrev cX9_day : ByteArray := prog_11_method_42_code
def yX9_day : MethodName := ⟨RX9, "day", "()I"⟩
abbrev cX9_weighs : ByteArray := prog_11_method_43_code
def yX9_weighs : MethodName := ⟨RX9, "weighs", "(II)I"⟩
abbrev cX9_forgets : ByteArray := prog_11_method_44_code
def yX9_forgets : MethodName := ⟨RX9, "forgets", "()I"⟩
abbrev cX9_undo : ByteArray := prog_11_method_45_code
def yX9_undo : MethodName := ⟨RX9, "undo", "()I"⟩
abbrev cX9_beam : ByteArray := prog_11_method_46_code
def yX9_beam : MethodName := ⟨RX9, "beam", "(II)I"⟩
abbrev cX9_sheds : ByteArray := prog_11_method_47_code
def yX9_sheds : MethodName := ⟨RX9, "sheds", "(II)V"⟩
abbrev cX9_canSay : ByteArray := prog_11_method_48_code
def yX9_canSay : MethodName := ⟨RX9, "canSay", "(II)Z"⟩
abbrev cX9_weighsOf : ByteArray := prog_11_method_49_code
def yX9_weighsOf : MethodName := ⟨RX9, "weighsOf", "(I)I"⟩
abbrev cX9_wayOf : ByteArray := prog_11_method_50_code
def yX9_wayOf : MethodName := ⟨RX9, "wayOf", "(III)I"⟩
abbrev cX9_level : ByteArray := prog_11_method_51_code
def yX9_level : MethodName := ⟨RX9, "level", "(III)I"⟩
abbrev cX9_heavinessThen : ByteArray := prog_11_method_52_code
def yX9_heavinessThen : MethodName := ⟨RX9, "heavinessThen", "(II)I"⟩
abbrev cX9_when : ByteArray := prog_11_method_53_code
def yX9_when : MethodName := ⟨RX9, "when", "(II)I"⟩
abbrev cX9_gcd : ByteArray := prog_11_method_54_code
def yX9_gcd : MethodName := ⟨RX9, "gcd", "(JJ)J"⟩
abbrev cX9_odds : ByteArray := prog_11_method_55_code
def yX9_odds : MethodName := ⟨RX9, "odds", "(IIIII)J"⟩
abbrev cX9_sumOf : ByteArray := prog_11_method_56_code
def yX9_sumOf : MethodName := ⟨RX9, "sumOf", "(I)I"⟩
abbrev cX9_pieces : ByteArray := prog_11_method_57_code
def yX9_pieces : MethodName := ⟨RX9, "pieces", "(I)I"⟩
abbrev cX9_brass : ByteArray := prog_11_method_58_code
def yX9_brass : MethodName := ⟨RX9, "brass", "(II)I"⟩
abbrev cX9_shows : ByteArray := prog_11_method_59_code
def yX9_shows : MethodName := ⟨RX9, "shows", "(III)I"⟩
abbrev cX9_isAsShown : ByteArray := prog_11_method_60_code
def yX9_isAsShown : MethodName := ⟨RX9, "isAsShown", "(II)Z"⟩
abbrev cX9_can : ByteArray := prog_11_method_61_code
def yX9_can : MethodName := ⟨RX9, "can", "(II)I"⟩
abbrev cX9_saw : ByteArray := prog_11_method_62_code
def yX9_saw : MethodName := ⟨RX9, "saw", "(II)I"⟩
abbrev cX9_laws : ByteArray := prog_11_method_63_code
def yX9_laws : MethodName := ⟨RX9, "laws", "(II)I"⟩
abbrev cX9_clean : ByteArray := prog_11_method_64_code
def yX9_clean : MethodName := ⟨RX9, "clean", "()I"⟩
abbrev cX9_rate : ByteArray := prog_11_method_65_code
def yX9_rate : MethodName := ⟨RX9, "rate", "(II)I"⟩
abbrev cX9_keep : ByteArray := prog_11_method_66_code
def yX9_keep : MethodName := ⟨RX9, "keep", "(I)I"⟩
abbrev cX9_back : ByteArray := prog_11_method_67_code
def yX9_back : MethodName := ⟨RX9, "back", "(I)I"⟩
abbrev cX9_count : ByteArray := prog_11_method_68_code
def yX9_count : MethodName := ⟨RX9, "count", "(I)I"⟩
abbrev cX9_trace : ByteArray := prog_11_method_69_code
def yX9_trace : MethodName := ⟨RX9, "trace", "()J"⟩
def RJ6 : String := "java/lang/Integer"
def TJ6 : u_T := fun k => match k with
  | _ => ("", "", "", false)
def tyJ6 : Nat → FieldType := fun k => match k with
  | _ => .int
abbrev wsJ60 : List Cond := u_ws RJ6 TJ6 0
theorem nmJ6 : ∀ a, a < 0 → ∀ b, b < 0 → a ≠ b → (TJ6 a).2.1 ≠ (TJ6 b).2.1 := by decide +kernel
theorem tyJ6_ok : ∀ k, k < 0 → parseFieldDescriptor (TJ6 k).2.2.1 = some (tyJ6 k) := by decide +kernel
abbrev cJ6_bitCount_0f7a4 : ByteArray := prog_12_method_49_code
def yJ6_bitCount_0f7a4 : MethodName := ⟨RJ6, "bitCount", "(I)I"⟩
def RJ9 : String := "java/lang/Math"
def TJ9 : u_T := fun k => match k with
  | _ => ("", "", "", false)
def tyJ9 : Nat → FieldType := fun k => match k with
  | _ => .int
abbrev wsJ90 : List Cond := u_ws RJ9 TJ9 0
theorem nmJ9 : ∀ a, a < 0 → ∀ b, b < 0 → a ≠ b → (TJ9 a).2.1 ≠ (TJ9 b).2.1 := by decide +kernel
theorem tyJ9_ok : ∀ k, k < 0 → parseFieldDescriptor (TJ9 k).2.2.1 = some (tyJ9 k) := by decide +kernel
abbrev cJ9_max_7cf53 : ByteArray := prog_13_method_65_code
def yJ9_max_7cf53 : MethodName := ⟨RJ9, "max", "(II)I"⟩
abbrev cJ9_min_7cf53 : ByteArray := prog_13_method_69_code
def yJ9_min_7cf53 : MethodName := ⟨RJ9, "min", "(II)I"⟩
def RJ10 : String := "java/lang/System"
def TJ10 : u_T := fun k => match k with
  | _ => ("", "", "", false)
def tyJ10 : Nat → FieldType := fun k => match k with
  | _ => .int
abbrev wsJ100 : List Cond := u_ws RJ10 TJ10 0
theorem nmJ10 : ∀ a, a < 0 → ∀ b, b < 0 → a ≠ b → (TJ10 a).2.1 ≠ (TJ10 b).2.1 := by decide +kernel
theorem tyJ10_ok : ∀ k, k < 0 → parseFieldDescriptor (TJ10 k).2.2.1 = some (tyJ10 k) := by decide +kernel
def RJ7 : String := "java/util/Arrays"
def TJ7 : u_T := fun k => match k with
  | _ => ("", "", "", false)
def tyJ7 : Nat → FieldType := fun k => match k with
  | _ => .int
abbrev wsJ70 : List Cond := u_ws RJ7 TJ7 0
theorem nmJ7 : ∀ a, a < 0 → ∀ b, b < 0 → a ≠ b → (TJ7 a).2.1 ≠ (TJ7 b).2.1 := by decide +kernel
theorem tyJ7_ok : ∀ k, k < 0 → parseFieldDescriptor (TJ7 k).2.2.1 = some (tyJ7 k) := by decide +kernel
abbrev cJ7_fill_53178 : ByteArray := prog_15_method_103_code
def yJ7_fill_53178 : MethodName := ⟨RJ7, "fill", "([II)V"⟩
def RL : String := "UnsaidScalesLaw"
abbrev cL_law : ByteArray := code
def yL_law : MethodName := ⟨RL, "law", "([I)Z"⟩
abbrev vwCl : List vw_C := [(RX0, TX0, 2), (RX1, TX1, 9), (RX2, TX2, 3), (RX3, TX3, 6), (RX4, TX4, 3), (RX5, TX5, 4), (RX6, TX6, 4), (RX7, TX7, 6), (RX8, TX8, 12), (RX9, TX9, 34)]
end
section
-- ABSTRACT STATE: values, heap (cell, place), references, and what the machine's heap must hold for it
abbrev aV : Type := Int ⊕ (Int ⊕ Option Nat)
abbrev vI (x : Int) : aV := Sum.inl x
abbrev vL (x : Int) : aV := Sum.inr (Sum.inl x)
abbrev vR (k : Nat) : aV := Sum.inr (Sum.inr (some k))
abbrev aH : Type := Nat → Int → Int
abbrev aG : Type := Nat → Int → Option Nat
abbrev Gm : Type := va_G × (Nat → ClassId) × Nat × Nat × Nat
def ad (Γ : Gm) (k : Nat) : Nat := if k = 1000 then Γ.2.2.2.1 else if k = 1001 then Γ.2.2.2.2 else Γ.2.2.1 + k
def AA (Γ : Gm) : Nat → Prop := fun q => Γ.2.2.1 ≤ q
def enc (Γ : Gm) (v : aV) : Value := match v with
  | .inl x => .int (Int32.ofInt x)
  | .inr (.inl x) => .long (Int64.ofInt x)
  | .inr (.inr r) => va_rf (r.map (ad Γ))
/-- the cells in the order in which they are made: (class 0 .. 9, 0) or (10 int, 11 char, 12 short, 13 boolean, 14 Moment; length) -/
def kdl : List (Nat × Nat) := [(8,0), (6,0), (11,150), (7,0), (10,4), (10,16), (10,16), (10,5), (7,0), (10,4), (10,16), (10,16), (10,5), (4,0), (10,16), (2,0), (14,10), (4,0), (10,16), (4,0), (10,16), (4,0), (10,16), (4,0), (10,16), (4,0), (10,16), (4,0), (10,16), (4,0), (10,16), (4,0), (10,16), (4,0), (10,16), (4,0), (10,16), (14,2), (4,0), (10,16), (4,0), (10,16), (13,2), (5,0), (12,4096), (10,4), (0,0), (10,32), (10,301), (3,0), (10,721), (10,721), (1,0), (10,6), (10,6), (10,6), (10,6), (10,6), (10,721), (9,0), (10,150), (10,4), (10,8), (10,16), (10,32), (10,10), (10,23), (10,46), (13,2), (10,230), (10,6), (10,6), (10,6), (10,6), (10,6), (10,75), (10,4096), (10,4096), (10,1442), (13,301)]
def kd (k : Nat) : Nat × Nat := kdl.getD k (10, 0)
def nf (ci : Nat) : Nat := ([2, 9, 3, 6, 3, 4, 4, 6, 12, 34] : List Nat).getD ci 0
def tyOf (ci : Nat) : Nat → FieldType := match ci with
  | 0 => tyX0
  | 1 => tyX1
  | 2 => tyX2
  | 3 => tyX3
  | 4 => tyX4
  | 5 => tyX5
  | 6 => tyX6
  | 7 => tyX7
  | 8 => tyX8
  | _ => tyX9
def fval (Γ : Gm) (ty : FieldType) (x : Int) (r : Option Nat) : Value := match ty with
  | .int => .int (Int32.ofInt x)
  | .boolean => .int (Int32.ofInt x)
  | .long => .long (Int64.ofInt x)
  | _ => va_rf (r.map (ad Γ))
def cw (Γ : Gm) (g : aG) (h : aH) (k : Nat) : va_E :=
  if (kd k).1 < 10 then .inr ((kd k).1, (List.range (nf (kd k).1)).map (fun j => fval Γ (tyOf (kd k).1 j) (h k (j : Int)) (g k (j : Int))))
  else if (kd k).1 < 14 then .inl (Γ.2.1 ((kd k).1 - 10), (kd k).2, .inl (fun j => Int32.ofInt (h k (j : Int))))
  else .inl (Γ.2.1 4, (kd k).2, .inr (.inr (.inr (.inr (fun j => (g k (j : Int)).map (ad Γ))))))
def aw (Γ : Gm) (n : Nat) (g : aG) (h : aH) : va_W := (List.range n).map (fun k => (Γ.2.2.1 + k, cw Γ g h k))
def tysG (Γ : Gm) : List (ClassId × FieldType) := [(Γ.2.1 0, .int), (Γ.2.1 1, .char), (Γ.2.1 2, .short), (Γ.2.1 3, .boolean), (Γ.2.1 4, .object RX4)]
def HR (Γ : Gm) (n : Nat) (g : aG) (h : aH) (H : Heap) : Prop := n ≤ 1000 ∧ va_P Γ.1 vwCl (aw Γ n g h) H
def sl (n : Nat) : Nat := ((List.range n).map (fun k => if (kd k).1 < 10 then nf (kd k).1 else (kd k).2)).sum
def up (h : aH) (k : Nat) (i : Int) (x : Int) : aH := fun k' i' => if k' = k ∧ i' = i then x else h k' i'
def upg (g : aG) (k : Nat) (i : Int) (x : Option Nat) : aG := fun k' i' => if k' = k ∧ i' = i then x else g k' i'
def inR (x : Int) : Prop := -2147483648 ≤ x ∧ x < 2147483648
def inL (x : Int) : Prop := -9223372036854775808 ≤ x ∧ x < 9223372036854775808
-- THE WORDS
def gtb : List Cond := lw_tbl.filter goodWord
theorem gtb_good : ∀ w ∈ gtb, (w.onTables && w.keeps) = true ∨ ∃ ty, w = .arrayClass ty := fun _ h => good_of_word (List.mem_filter.mp h).2
def isNest (w : Cond) : Bool := match w with
  | .fieldLinkNest _ _ _ _ _ _ => true
  | .methodLinkNest _ _ _ _ => true
  | _ => false
theorem isNest_warm {w : Cond} (hw : isNest w = true) {s U : State} (hW : s.WarmedH U.vm) (h : va_Nw w s) : va_Nw w U := by
  cases w <;> first | exact va_Nw.warmF hW h | exact va_Nw.warmM hW h | cases hw
theorem isNest_tab {w : Cond} (hw : isNest w = true) : w.onTables = true := by
  cases w <;> first | rfl | cases hw
def cC (ci : Nat) : String := (vwCl.getD ci (RX9, TX9, 34)).1
def cT (ci : Nat) : u_T := (vwCl.getD ci (RX9, TX9, 34)).2.1
def Cf (ci : Nat) : Prop := vwCl[ci]? = some (cC ci, cT ci, nf ci) ∧ (∀ w ∈ u_ws (cC ci) (cT ci) (nf ci), w ∈ gtb) ∧ (∀ k, k < nf ci → parseFieldDescriptor (cT ci k).2.2.1 = some (tyOf ci k)) ∧ (∀ a, a < nf ci → ∀ b, b < nf ci → a ≠ b → (cT ci a).2.1 ≠ (cT ci b).2.1) ∧ ∀ k, k < nf ci → (cT ci k).1 = cC ci
set_option maxRecDepth 100000 in
theorem cf0 : Cf 0 := ⟨rfl, by decide +kernel, tyX0_ok, nmX0, by decide +kernel⟩
set_option maxRecDepth 100000 in
theorem cf1 : Cf 1 := ⟨rfl, by decide +kernel, tyX1_ok, nmX1, by decide +kernel⟩
set_option maxRecDepth 100000 in
theorem cf2 : Cf 2 := ⟨rfl, by decide +kernel, tyX2_ok, nmX2, by decide +kernel⟩
set_option maxRecDepth 100000 in
theorem cf3 : Cf 3 := ⟨rfl, by decide +kernel, tyX3_ok, nmX3, by decide +kernel⟩
set_option maxRecDepth 100000 in
theorem cf4 : Cf 4 := ⟨rfl, by decide +kernel, tyX4_ok, nmX4, by decide +kernel⟩
set_option maxRecDepth 100000 in
theorem cf5 : Cf 5 := ⟨rfl, by decide +kernel, tyX5_ok, nmX5, by decide +kernel⟩
set_option maxRecDepth 100000 in
theorem cf6 : Cf 6 := ⟨rfl, by decide +kernel, tyX6_ok, nmX6, by decide +kernel⟩
set_option maxRecDepth 100000 in
theorem cf7 : Cf 7 := ⟨rfl, by decide +kernel, tyX7_ok, nmX7, by decide +kernel⟩
set_option maxRecDepth 100000 in
theorem cf8 : Cf 8 := ⟨rfl, by decide +kernel, tyX8_ok, nmX8, by decide +kernel⟩
set_option maxRecDepth 100000 in
theorem cf9 : Cf 9 := ⟨rfl, by decide +kernel, tyX9_ok, nmX9, by decide +kernel⟩
theorem cf_all {ci : Nat} (h : ci < 10) : Cf ci := by
  rcases (show ci = 0 ∨ ci = 1 ∨ ci = 2 ∨ ci = 3 ∨ ci = 4 ∨ ci = 5 ∨ ci = 6 ∨ ci = 7 ∨ ci = 8 ∨ ci = 9 by omega) with rfl | rfl | rfl | rfl | rfl | rfl | rfl | rfl | rfl | rfl
  · exact cf0
  · exact cf1
  · exact cf2
  · exact cf3
  · exact cf4
  · exact cf5
  · exact cf6
  · exact cf7
  · exact cf8
  · exact cf9
def Lf (own : String) (idx ci j : Nat) : Prop := ci < 10 ∧ j < nf ci ∧ ((Cond.fieldLink own idx (cC ci) (cT ci j).2.1 (cT ci j).2.2.1 ∈ gtb) ∨ ∃ host, Cond.fieldLinkNest own idx (cC ci) (cT ci j).2.1 (cT ci j).2.2.1 host ∈ lw_tbl)
def fwv (j : Nat) : Int := ([1, 4, 9, 16] : List Int).getD j 0
def KK (Γ : Gm) (U : State) : Prop := va_K Γ.1 vwCl (tysG Γ) U ∧ (∀ w ∈ lw_tbl, isNest w = true → va_Nw w U) ∧ va_Z RX8 "FIRST_WEIGHTS" "[I" (.ref Γ.2.2.2.2) (AA Γ) U U.heap ∧ va_T .int Γ.2.2.2.2 4 (fun j => .int (Int32.ofInt (fwv j))) (AA Γ) U U.heap ∧ Γ.2.2.2.1 < Γ.2.2.1 ∧ Γ.2.2.2.2 < Γ.2.2.1 ∧ Γ.2.2.1 ≤ U.heap.size
/-- from a method's start to a state that it comes to -/
theorem KK.go {Γ : Gm} {s U : State} {H : Heap} {locs : List Loc} (h : KK Γ s) (hS : va_S (AA Γ) s.heap H locs) (hU : U.heap = H) (hW : s.WarmedH U.vm) : KK Γ U := by
  obtain ⟨h1, h2, h3, h4, h5, h6, h7⟩ := h
  refine ⟨va_K.moved hW.alike h1, fun w hw hn => isNest_warm hn hW (h2 w hw hn), ?_, ?_, h5, h6, ?_⟩
  · rw [hU]; exact va_Z.kept (va_Z.moved hW.alike h3) (fun a ha hA => hS.2.1 a ha hA)
  · rw [hU]; exact va_T.kept (va_T.moved hW.alike h4) (fun a ha hA => hS.2.1 a ha hA)
  · rw [hU]; exact Nat.le_trans h7 hS.1
theorem KK.blind {Γ : Gm} {U : State} {g : JFrame} {mk : MethodId} {a : Array Value} (h : KK Γ U) : KK Γ (U.calling g mk a) := by
  obtain ⟨h1, h2, h3, h4, h5, h6, h7⟩ := h
  exact ⟨va_K.moved (u := U) (U := U.calling g mk a) (Vm.Alike.refl U.vm) h1, fun w hw hn => va_Nw.same (u := U) (U := U.calling g mk a) (isNest_tab hn) rfl (h2 w hw hn), va_Z.moved (u := U) (U := U.calling g mk a) (Vm.Alike.refl U.vm) h3, va_T.moved (u := U) (U := U.calling g mk a) (Vm.Alike.refl U.vm) h4, h5, h6, h7⟩
-- AN ACTIVATION
def Ac (Γ : Gm) (p : Program) (s : State) (m : MethodId) (args : Array Value) (meth : Method) (c : Code) (own : String) (cc : ByteArray) (nL : Nat) (rt : Option FieldType) : Prop :=
  p.tables.exec = Jvm.exec ∧ c.code = cc ∧ c.maxLocals = nL ∧ meth.sig.returnType = rt ∧ meth.locks = false ∧ s.vm.findClass own = some m.cls ∧ (∀ w ∈ gtb, w.before args s = true) ∧ KK Γ s
def LR (Γ : Gm) (nL : Nat) (L : List (Option aV)) (ls : Array Slot) : Prop := ls.size = nL ∧ lv_wf ls ∧ L.length = nL ∧ ∀ (i : Nat) (v : aV), L[i]? = some (some v) → ls[i]? = some (.val (enc Γ v))
def lvOf (Γ : Gm) (L : List (Option aV)) : List (Nat × Value) := (List.range L.length).filterMap (fun j => match L[j]? with
  | some (some w) => some (j, enc Γ w)
  | _ => none)
theorem lvOf_mem {Γ : Gm} {L : List (Option aV)} {j : Nat} {w : aV} (h : L[j]? = some (some w)) : (j, enc Γ w) ∈ lvOf Γ L := by
  have hj : j < L.length := (List.getElem?_eq_some_iff.mp h).1
  exact List.mem_filterMap.mpr ⟨j, List.mem_range.mpr hj, by rw [h]⟩
theorem lvOf_of {Γ : Gm} {L : List (Option aV)} {q : Nat × Value} (h : q ∈ lvOf Γ L) : ∃ w, L[q.1]? = some (some w) ∧ q.2 = enc Γ w := by
  obtain ⟨j, -, hj⟩ := List.mem_filterMap.mp h
  split at hj
  · rename_i w hw
    cases hj
    exact ⟨w, hw, rfl⟩
  · cases hj
theorem LR.has {Γ : Gm} {nL : Nat} {L : List (Option aV)} {ls : Array Slot} (h : LR Γ nL L ls) : lv_has ls nL (lvOf Γ L) := by
  refine ⟨h.1, h.2.1, fun q hq => ?_⟩
  obtain ⟨w, hw, e⟩ := lvOf_of hq
  rw [e]
  exact h.2.2.2 _ _ hw
def nlg (L : List (Option aV)) (i : Nat) : Bool := match i with
  | 0 => true
  | j + 1 => match L[j]? with
    | some (some (.inr (.inl _))) => false
    | _ => true
theorem enc_cat1 {Γ : Gm} {v : aV} (h : (enc Γ v).category = 2) : ∃ x, v = vL x := by
  rcases v with x | x | r
  · simp [enc, Value.category] at h
  · exact ⟨x, rfl⟩
  · cases r <;> simp [enc, va_rf, Value.category] at h
theorem nlg_spec {Γ : Gm} {L : List (Option aV)} {i j : Nat} {w : aV} (hn : nlg L i = true) (hj : L[j]? = some (some w)) (hi : j + 1 = i) : ¬ (enc Γ w).category = 2 := by
  intro h
  obtain ⟨x, rfl⟩ := enc_cat1 h
  subst hi
  simp [nlg, hj] at hn
theorem LR.st1 {Γ : Gm} {nL : Nat} {L : List (Option aV)} {ls ls' : Array Slot} {i : Nat} {v : aV} (h : LR Γ nL L ls) (hn : nlg L i = true)
    (h' : lv_has ls' nL ((i, enc Γ v) :: (lvOf Γ L).filter (fun q => !(q.1 == i) && !(q.1 + 1 == i && q.2.category == 2)))) : LR Γ nL (L.set i (some v)) ls' := by
  refine ⟨h'.1, h'.2.1, by rw [List.length_set]; exact h.2.2.1, fun j w hj => ?_⟩
  by_cases hij : i = j
  · subst hij
    rw [List.getElem?_set_self' ] at hj
    cases hl : L[i]? with
    | none => rw [hl] at hj; cases hj
    | some o =>
      rw [hl] at hj
      have hw : v = w := by simpa using hj
      subst hw
      exact h'.2.2 (i, enc Γ v) List.mem_cons_self
  · rw [List.getElem?_set_ne hij] at hj
    refine h'.2.2 (j, enc Γ w) (List.mem_cons_of_mem _ (List.mem_filter.mpr ⟨lvOf_mem hj, ?_⟩))
    have h1 : (j == i) = false := by simp; exact fun q => hij q.symm
    by_cases h2 : j + 1 = i
    · have := nlg_spec (Γ := Γ) hn hj h2
      simp [h1, h2, this]
    · simp [h1, h2]
theorem LR.st2 {Γ : Gm} {nL : Nat} {L : List (Option aV)} {ls ls' : Array Slot} {i : Nat} {v : aV} (h : LR Γ nL L ls) (hn : nlg L i = true)
    (h' : lv_has ls' nL ((i, enc Γ v) :: (lvOf Γ L).filter (fun q => !(q.1 == i) && (!(q.1 == i + 1) && !(q.1 + 1 == i && q.2.category == 2))))) : LR Γ nL ((L.set i (some v)).set (i + 1) none) ls' := by
  refine ⟨h'.1, h'.2.1, by rw [List.length_set, List.length_set]; exact h.2.2.1, fun j w hj => ?_⟩
  by_cases hj1 : i + 1 = j
  · subst hj1
    rw [List.getElem?_set_self'] at hj
    cases hl : (L.set i (some v))[i + 1]? with
    | none => rw [hl] at hj; cases hj
    | some o => rw [hl] at hj; cases hj
  rw [List.getElem?_set_ne hj1] at hj
  by_cases hij : i = j
  · subst hij
    rw [List.getElem?_set_self' ] at hj
    cases hl : L[i]? with
    | none => rw [hl] at hj; cases hj
    | some o =>
      rw [hl] at hj
      have hw : v = w := by simpa using hj
      subst hw
      exact h'.2.2 (i, enc Γ v) List.mem_cons_self
  · rw [List.getElem?_set_ne hij] at hj
    refine h'.2.2 (j, enc Γ w) (List.mem_cons_of_mem _ (List.mem_filter.mpr ⟨lvOf_mem hj, ?_⟩))
    have h1 : (j == i) = false := by simp; exact fun q => hij q.symm
    have h3 : (j == i + 1) = false := by simp; exact fun q => hj1 q.symm
    by_cases h2 : j + 1 = i
    · have := nlg_spec (Γ := Γ) hn hj h2
      simp [h1, h2, h3, this]
    · simp [h1, h2, h3]
theorem LR.drop {Γ : Gm} {nL : Nat} {L : List (Option aV)} {ls : Array Slot} (i : Nat) (h : LR Γ nL L ls) : LR Γ nL (L.set i none) ls := by
  refine ⟨h.1, h.2.1, by rw [List.length_set]; exact h.2.2.1, fun j w hj => h.2.2.2 j w ?_⟩
  by_cases hij : i = j
  · subst hij
    rw [List.getElem?_set_self'] at hj
    cases hl : L[i]? with
    | none => rw [hl] at hj; cases hj
    | some o => rw [hl] at hj; cases hj
  · rw [List.getElem?_set_ne hij] at hj
    exact hj
/-- the machine at a place of a method: whatever heap and locals stand for the abstract ones, it comes to Q -/
def OK (Γ : Gm) (p : Program) (l : Launch) (e : Env) (R : Room) (s : State) (m : MethodId) (args : Array Value) (below : List Frame) (meth : Method) (c : Code) (n0 : Nat) (Q : State → Prop) (pc : Nat) (L : List (Option aV)) (st : List aV) (n : Nat) (g : aG) (h : aH) : Prop :=
  ∀ (H : Heap) (locs : List Loc) (ls : Array Slot), HR Γ n g h H → va_S (AA Γ) s.heap H locs → LR Γ c.maxLocals L ls → W p l e R s m args below meth c H locs (n - n0) (sl n - sl n0) Q (F0 m pc ls (st.map (enc Γ)))
end
section
section ROWS
variable {Γ : Gm} {p : Program} {l : Launch} {e : Env} {R : Room} {s : State} {m : MethodId} {args : Array Value} {below : List Frame} {meth : Method} {c : Code} {own : String} {cc : ByteArray} {nL : Nat} {rt : Option FieldType} {n0 : Nat} {Q : State → Prop} {pc : Nat} {L : List (Option aV)} {st : List aV} {n : Nat} {g : aG} {h : aH}
theorem i32T {x : Int} (h : inR x) : (Int32.ofInt x).toInt = x := Int32.toInt_ofInt_of_le (by have := h.1; omega) (by have := h.2; omega)
theorem i64T {x : Int} (h : inL x) : (Int64.ofInt x).toInt = x := Int64.toInt_ofInt_of_le (by have := h.1; omega) (by have := h.2; omega)
theorem i32_eq {x y : Int} (hx : inR x) (hy : inR y) : Int32.ofInt x = Int32.ofInt y ↔ x = y := ⟨fun q => by rw [← i32T hx, ← i32T hy, q], fun q => by rw [q]⟩
theorem i32_lt {x y : Int} (hx : inR x) (hy : inR y) : Int32.ofInt x < Int32.ofInt y ↔ x < y := by rw [Int32.lt_iff_toInt_lt, i32T hx, i32T hy]
theorem i32_le {x y : Int} (hx : inR x) (hy : inR y) : Int32.ofInt x ≤ Int32.ofInt y ↔ x ≤ y := by rw [Int32.le_iff_toInt_le, i32T hx, i32T hy]
theorem inR0 : inR 0 := ⟨by decide, by decide⟩
theorem i32_0 : (0 : Int32) = Int32.ofInt 0 := by decide
theorem i32_cl {x : Int} (h0 : 0 ≤ x) (h1 : x < 2147483648) : (Int32.ofInt x).toNatClampNeg = x.toNat := by
  show (Int32.ofInt x).toInt.toNat = x.toNat
  rw [i32T ⟨by omega, h1⟩]
theorem i32_in {x : Int} {N : Nat} (h0 : 0 ≤ x) (h1 : x < N) (hN : N < 2147483648) : vp_in (Int32.ofInt x) N := by
  rw [vp_in_iff, i32T ⟨by omega, by omega⟩]
  exact ⟨h0, h1⟩
theorem ok_iconst (a : Ac Γ p s m args meth c own cc nL rt) {k : Int} (d : decode cc pc = .ok (.iconst k, 1)) (kk : OK Γ p l e R s m args below meth c n0 Q (pc + 1) L (vI k :: st) n g h) : OK Γ p l e R s m args below meth c n0 Q pc L st n g h := by
  intro H locs ls hH hS hL
  exact lv_iconst a.1 a.2.1 d rfl (kk H locs ls hH hS hL)
theorem ok_bipush (a : Ac Γ p s m args meth c own cc nL rt) {k : Int} (d : decode cc pc = .ok (.bipush k, 2)) (hv : (Int8.ofInt k).toInt32 = Int32.ofInt k) (kk : OK Γ p l e R s m args below meth c n0 Q (pc + 2) L (vI k :: st) n g h) : OK Γ p l e R s m args below meth c n0 Q pc L st n g h := by
  intro H locs ls hH hS hL
  exact lv_bipush a.1 a.2.1 d hv (kk H locs ls hH hS hL)
theorem ok_sipush (a : Ac Γ p s m args meth c own cc nL rt) {k : Int} (d : decode cc pc = .ok (.sipush k, 3)) (hv : (Int16.ofInt k).toInt32 = Int32.ofInt k) (kk : OK Γ p l e R s m args below meth c n0 Q (pc + 3) L (vI k :: st) n g h) : OK Γ p l e R s m args below meth c n0 Q pc L st n g h := by
  intro H locs ls hH hS hL
  exact lv_sipush a.1 a.2.1 d hv (kk H locs ls hH hS hL)
theorem ok_lconst (a : Ac Γ p s m args meth c own cc nL rt) {k : Fin 2} {x : Int} (d : decode cc pc = .ok (.lconst k, 1)) (hv : Int64.ofNat (k : Nat) = Int64.ofInt x) (kk : OK Γ p l e R s m args below meth c n0 Q (pc + 1) L (vL x :: st) n g h) : OK Γ p l e R s m args below meth c n0 Q pc L st n g h := by
  intro H locs ls hH hS hL
  exact lv_lconst a.1 a.2.1 d hv (kk H locs ls hH hS hL)
theorem ok_ldc (a : Ac Γ p s m args meth c own cc nL rt) {i : Nat} {v : Int32} {x : Int} (d : decode cc pc = .ok (.ldc i, 2)) (hw : Cond.constant own i v ∈ gtb) (hv : v = Int32.ofInt x) (kk : OK Γ p l e R s m args below meth c n0 Q (pc + 2) L (vI x :: st) n g h) : OK Γ p l e R s m args below meth c n0 Q pc L st n g h := by
  intro H locs ls hH hS hL
  subst hv
  exact lv_ldc a.1 a.2.1 a.2.2.2.2.2.1 (a.2.2.2.2.2.2.1 _ hw) d (kk H locs ls hH hS hL)
theorem ok_ldcw (a : Ac Γ p s m args meth c own cc nL rt) {i : Nat} {v : Int32} {x : Int} (d : decode cc pc = .ok (.ldc_w i, 3)) (hw : Cond.constant own i v ∈ gtb) (hv : v = Int32.ofInt x) (kk : OK Γ p l e R s m args below meth c n0 Q (pc + 3) L (vI x :: st) n g h) : OK Γ p l e R s m args below meth c n0 Q pc L st n g h := by
  intro H locs ls hH hS hL
  subst hv
  exact lv_ldcw a.1 a.2.1 a.2.2.2.2.2.1 (a.2.2.2.2.2.2.1 _ hw) d (kk H locs ls hH hS hL)
theorem ok_ldc2 (a : Ac Γ p s m args meth c own cc nL rt) {i : Nat} {v : Int64} {x : Int} (d : decode cc pc = .ok (.ldc2_w i, 3)) (hw : Cond.constantLong own i v ∈ gtb) (hv : v = Int64.ofInt x) (kk : OK Γ p l e R s m args below meth c n0 Q (pc + 3) L (vL x :: st) n g h) : OK Γ p l e R s m args below meth c n0 Q pc L st n g h := by
  intro H locs ls hH hS hL
  subst hv
  exact lv_ldc2 a.1 a.2.1 a.2.2.2.2.2.1 (a.2.2.2.2.2.2.1 _ hw) d (kk H locs ls hH hS hL)
theorem ok_iload_n (a : Ac Γ p s m args meth c own cc nL rt) {k : Fin 4} {i : Nat} {x : Int} (d : decode cc pc = .ok (.iload_n k, 1)) (hi : (k : Nat) = i) (hl : L[i]? = some (some (vI x))) (kk : OK Γ p l e R s m args below meth c n0 Q (pc + 1) L (vI x :: st) n g h) : OK Γ p l e R s m args below meth c n0 Q pc L st n g h := by
  intro H locs ls hH hS hL
  exact lv_iload_n a.1 a.2.1 d hi (hL.2.2.2 i _ hl) (kk H locs ls hH hS hL)
theorem ok_iload (a : Ac Γ p s m args meth c own cc nL rt) {i : Nat} {x : Int} (d : decode cc pc = .ok (.iload i, 2)) (hl : L[i]? = some (some (vI x))) (kk : OK Γ p l e R s m args below meth c n0 Q (pc + 2) L (vI x :: st) n g h) : OK Γ p l e R s m args below meth c n0 Q pc L st n g h := by
  intro H locs ls hH hS hL
  exact lv_iload a.1 a.2.1 d (hL.2.2.2 i _ hl) (kk H locs ls hH hS hL)
theorem ok_lload_n (a : Ac Γ p s m args meth c own cc nL rt) {k : Fin 4} {i : Nat} {x : Int} (d : decode cc pc = .ok (.lload_n k, 1)) (hi : (k : Nat) = i) (hl : L[i]? = some (some (vL x))) (kk : OK Γ p l e R s m args below meth c n0 Q (pc + 1) L (vL x :: st) n g h) : OK Γ p l e R s m args below meth c n0 Q pc L st n g h := by
  intro H locs ls hH hS hL
  exact lv_lload_n a.1 a.2.1 d hi (hL.2.2.2 i _ hl) (kk H locs ls hH hS hL)
theorem ok_lload (a : Ac Γ p s m args meth c own cc nL rt) {i : Nat} {x : Int} (d : decode cc pc = .ok (.lload i, 2)) (hl : L[i]? = some (some (vL x))) (kk : OK Γ p l e R s m args below meth c n0 Q (pc + 2) L (vL x :: st) n g h) : OK Γ p l e R s m args below meth c n0 Q pc L st n g h := by
  intro H locs ls hH hS hL
  exact lv_lload a.1 a.2.1 d (hL.2.2.2 i _ hl) (kk H locs ls hH hS hL)
theorem ok_aload_n (a : Ac Γ p s m args meth c own cc nL rt) {k : Fin 4} {i x : Nat} (d : decode cc pc = .ok (.aload_n k, 1)) (hi : (k : Nat) = i) (hl : L[i]? = some (some (vR x))) (kk : OK Γ p l e R s m args below meth c n0 Q (pc + 1) L (vR x :: st) n g h) : OK Γ p l e R s m args below meth c n0 Q pc L st n g h := by
  intro H locs ls hH hS hL
  exact lv_aload_n a.1 a.2.1 d hi (hL.2.2.2 i _ hl) (kk H locs ls hH hS hL)
theorem ok_aload (a : Ac Γ p s m args meth c own cc nL rt) {i x : Nat} (d : decode cc pc = .ok (.aload i, 2)) (hl : L[i]? = some (some (vR x))) (kk : OK Γ p l e R s m args below meth c n0 Q (pc + 2) L (vR x :: st) n g h) : OK Γ p l e R s m args below meth c n0 Q pc L st n g h := by
  intro H locs ls hH hS hL
  exact lv_aload a.1 a.2.1 d (hL.2.2.2 i _ hl) (kk H locs ls hH hS hL)
theorem ok_istore_n (a : Ac Γ p s m args meth c own cc nL rt) {k : Fin 4} {i : Nat} {x : Int} (d : decode cc pc = .ok (.istore_n k, 1)) (hi : (k : Nat) = i) (hn : i < nL) (hg : nlg L i = true) (kk : OK Γ p l e R s m args below meth c n0 Q (pc + 1) (L.set i (some (vI x))) st n g h) : OK Γ p l e R s m args below meth c n0 Q pc L (vI x :: st) n g h := by
  intro H locs ls hH hS hL
  exact lv_istore_n a.1 a.2.1 d hi hL.has (by rw [a.2.2.1]; exact hn) rfl (fun ls' hl' => kk H locs ls' hH hS (hL.st1 hg hl'))
theorem ok_istore (a : Ac Γ p s m args meth c own cc nL rt) {i : Nat} {x : Int} (d : decode cc pc = .ok (.istore i, 2)) (hn : i < nL) (hg : nlg L i = true) (kk : OK Γ p l e R s m args below meth c n0 Q (pc + 2) (L.set i (some (vI x))) st n g h) : OK Γ p l e R s m args below meth c n0 Q pc L (vI x :: st) n g h := by
  intro H locs ls hH hS hL
  exact lv_istore a.1 a.2.1 d hL.has (by rw [a.2.2.1]; exact hn) rfl (fun ls' hl' => kk H locs ls' hH hS (hL.st1 hg hl'))
theorem ok_astore_n (a : Ac Γ p s m args meth c own cc nL rt) {k : Fin 4} {i x : Nat} (d : decode cc pc = .ok (.astore_n k, 1)) (hi : (k : Nat) = i) (hn : i < nL) (hg : nlg L i = true) (kk : OK Γ p l e R s m args below meth c n0 Q (pc + 1) (L.set i (some (vR x))) st n g h) : OK Γ p l e R s m args below meth c n0 Q pc L (vR x :: st) n g h := by
  intro H locs ls hH hS hL
  exact lv_astore_n a.1 a.2.1 d hi hL.has (by rw [a.2.2.1]; exact hn) rfl (fun ls' hl' => kk H locs ls' hH hS (hL.st1 hg hl'))
theorem ok_lstore_n (a : Ac Γ p s m args meth c own cc nL rt) {k : Fin 4} {i : Nat} {x : Int} (d : decode cc pc = .ok (.lstore_n k, 1)) (hi : (k : Nat) = i) (hn : i + 1 < nL) (hg : nlg L i = true) (kk : OK Γ p l e R s m args below meth c n0 Q (pc + 1) ((L.set i (some (vL x))).set (i + 1) none) st n g h) : OK Γ p l e R s m args below meth c n0 Q pc L (vL x :: st) n g h := by
  intro H locs ls hH hS hL
  exact lv_lstore_n a.1 a.2.1 d hi hL.has (by rw [a.2.2.1]; exact hn) rfl (fun ls' hl' => kk H locs ls' hH hS (hL.st2 hg hl'))
theorem ok_lstore (a : Ac Γ p s m args meth c own cc nL rt) {i : Nat} {x : Int} (d : decode cc pc = .ok (.lstore i, 2)) (hn : i + 1 < nL) (hg : nlg L i = true) (kk : OK Γ p l e R s m args below meth c n0 Q (pc + 2) ((L.set i (some (vL x))).set (i + 1) none) st n g h) : OK Γ p l e R s m args below meth c n0 Q pc L (vL x :: st) n g h := by
  intro H locs ls hH hS hL
  exact lv_lstore a.1 a.2.1 d hL.has (by rw [a.2.2.1]; exact hn) rfl (fun ls' hl' => kk H locs ls' hH hS (hL.st2 hg hl'))
theorem ok_iinc (a : Ac Γ p s m args meth c own cc nL rt) {i : Nat} {k x : Int} (d : decode cc pc = .ok (.iinc i k, 3)) (hl : L[i]? = some (some (vI x))) (hn : i < nL) (hg : nlg L i = true) (kk : OK Γ p l e R s m args below meth c n0 Q (pc + 3) (L.set i (some (vI (x + k)))) st n g h) : OK Γ p l e R s m args below meth c n0 Q pc L st n g h := by
  intro H locs ls hH hS hL
  obtain ⟨q, hq⟩ := List.getElem?_of_mem (lvOf_mem (Γ := Γ) hl)
  exact lv_iinc a.1 a.2.1 d hL.has hq (Int32.ofInt_add x k).symm (by rw [a.2.2.1]; exact hn) rfl (fun ls' hl' => kk H locs ls' hH hS (hL.st1 (v := vI (x + k)) hg hl'))
theorem ok_forget (i : Nat) (kk : OK Γ p l e R s m args below meth c n0 Q pc (L.set i none) st n g h) : OK Γ p l e R s m args below meth c n0 Q pc L st n g h := fun H locs ls hH hS hL => kk H locs ls hH hS (hL.drop i)
theorem ok_goto (a : Ac Γ p s m args meth c own cc nL rt) {off : Int} (tgt : Nat) (d : decode cc pc = .ok (.goto off, 3)) (ht : (pc : Int) + off = (tgt : Int)) (kk : OK Γ p l e R s m args below meth c n0 Q tgt L st n g h) : OK Γ p l e R s m args below meth c n0 Q pc L st n g h := by
  intro H locs ls hH hS hL
  exact lv_goto a.1 a.2.1 d ht (kk H locs ls hH hS hL)
theorem ok_dup (a : Ac Γ p s m args meth c own cc nL rt) {v : aV} (d : decode cc pc = .ok (.dup, 1)) (hv : (enc Γ v).category = 1) (kk : OK Γ p l e R s m args below meth c n0 Q (pc + 1) L (v :: v :: st) n g h) : OK Γ p l e R s m args below meth c n0 Q pc L (v :: st) n g h := by
  intro H locs ls hH hS hL
  exact lv_dup a.1 a.2.1 d hv (kk H locs ls hH hS hL)
theorem ok_dup2 (a : Ac Γ p s m args meth c own cc nL rt) {v w : aV} (d : decode cc pc = .ok (.dup2, 1)) (hv : (enc Γ v).category = 1) (hw : (enc Γ w).category = 1) (kk : OK Γ p l e R s m args below meth c n0 Q (pc + 1) L (v :: w :: v :: w :: st) n g h) : OK Γ p l e R s m args below meth c n0 Q pc L (v :: w :: st) n g h := by
  intro H locs ls hH hS hL
  exact lv_dup2_11 a.1 a.2.1 d hv hw (kk H locs ls hH hS hL)
theorem ok_pop (a : Ac Γ p s m args meth c own cc nL rt) {v : aV} (d : decode cc pc = .ok (.pop, 1)) (hv : (enc Γ v).category = 1) (kk : OK Γ p l e R s m args below meth c n0 Q (pc + 1) L st n g h) : OK Γ p l e R s m args below meth c n0 Q pc L (v :: st) n g h := by
  intro H locs ls hH hS hL
  exact lv_pop a.1 a.2.1 d hv (kk H locs ls hH hS hL)
theorem ok_iadd (a : Ac Γ p s m args meth c own cc nL rt) {x y : Int} (d : decode cc pc = .ok (.iadd, 1)) (kk : OK Γ p l e R s m args below meth c n0 Q (pc + 1) L (vI (x + y) :: st) n g h) : OK Γ p l e R s m args below meth c n0 Q pc L (vI y :: vI x :: st) n g h := by
  intro H locs ls hH hS hL
  have k1 := kk H locs ls hH hS hL
  simp only [List.map_cons, enc, Int32.ofInt_add] at k1
  exact lv_iadd a.1 a.2.1 d k1
theorem ok_ladd (a : Ac Γ p s m args meth c own cc nL rt) {x y : Int} (d : decode cc pc = .ok (.ladd, 1)) (kk : OK Γ p l e R s m args below meth c n0 Q (pc + 1) L (vL (x + y) :: st) n g h) : OK Γ p l e R s m args below meth c n0 Q pc L (vL y :: vL x :: st) n g h := by
  intro H locs ls hH hS hL
  have k1 := kk H locs ls hH hS hL
  simp only [List.map_cons, enc, Int64.ofInt_add] at k1
  exact lv_ladd a.1 a.2.1 d k1
theorem ok_isub (a : Ac Γ p s m args meth c own cc nL rt) {x y : Int} (d : decode cc pc = .ok (.isub, 1)) (kk : OK Γ p l e R s m args below meth c n0 Q (pc + 1) L (vI (x - y) :: st) n g h) : OK Γ p l e R s m args below meth c n0 Q pc L (vI y :: vI x :: st) n g h := by
  intro H locs ls hH hS hL
  have k1 := kk H locs ls hH hS hL
  simp only [List.map_cons, enc, Int32.ofInt_sub] at k1
  exact lv_isub a.1 a.2.1 d k1
theorem ok_lsub (a : Ac Γ p s m args meth c own cc nL rt) {x y : Int} (d : decode cc pc = .ok (.lsub, 1)) (kk : OK Γ p l e R s m args below meth c n0 Q (pc + 1) L (vL (x - y) :: st) n g h) : OK Γ p l e R s m args below meth c n0 Q pc L (vL y :: vL x :: st) n g h := by
  intro H locs ls hH hS hL
  have k1 := kk H locs ls hH hS hL
  simp only [List.map_cons, enc, Int64.ofInt_sub] at k1
  exact lv_lsub a.1 a.2.1 d k1
theorem ok_imul (a : Ac Γ p s m args meth c own cc nL rt) {x y : Int} (d : decode cc pc = .ok (.imul, 1)) (kk : OK Γ p l e R s m args below meth c n0 Q (pc + 1) L (vI (x * y) :: st) n g h) : OK Γ p l e R s m args below meth c n0 Q pc L (vI y :: vI x :: st) n g h := by
  intro H locs ls hH hS hL
  have k1 := kk H locs ls hH hS hL
  simp only [List.map_cons, enc, Int32.ofInt_mul] at k1
  exact lv_imul a.1 a.2.1 d k1
theorem ok_lmul (a : Ac Γ p s m args meth c own cc nL rt) {x y : Int} (d : decode cc pc = .ok (.lmul, 1)) (kk : OK Γ p l e R s m args below meth c n0 Q (pc + 1) L (vL (x * y) :: st) n g h) : OK Γ p l e R s m args below meth c n0 Q pc L (vL y :: vL x :: st) n g h := by
  intro H locs ls hH hS hL
  have k1 := kk H locs ls hH hS hL
  simp only [List.map_cons, enc, Int64.ofInt_mul] at k1
  exact lv_lmul a.1 a.2.1 d k1
def band (x y : Int) : Int := (Int32.ofInt x &&& Int32.ofInt y).toInt
theorem ok_iand (a : Ac Γ p s m args meth c own cc nL rt) {x y : Int} (d : decode cc pc = .ok (.iand, 1)) (kk : OK Γ p l e R s m args below meth c n0 Q (pc + 1) L (vI (band x y) :: st) n g h) : OK Γ p l e R s m args below meth c n0 Q pc L (vI y :: vI x :: st) n g h := by
  intro H locs ls hH hS hL
  have k1 := kk H locs ls hH hS hL
  simp only [List.map_cons, enc, band, Int32.ofInt_toInt] at k1
  exact lv_iand a.1 a.2.1 d k1
def bor (x y : Int) : Int := (Int32.ofInt x ||| Int32.ofInt y).toInt
theorem ok_ior (a : Ac Γ p s m args meth c own cc nL rt) {x y : Int} (d : decode cc pc = .ok (.ior, 1)) (kk : OK Γ p l e R s m args below meth c n0 Q (pc + 1) L (vI (bor x y) :: st) n g h) : OK Γ p l e R s m args below meth c n0 Q pc L (vI y :: vI x :: st) n g h := by
  intro H locs ls hH hS hL
  have k1 := kk H locs ls hH hS hL
  simp only [List.map_cons, enc, bor, Int32.ofInt_toInt] at k1
  exact lv_ior a.1 a.2.1 d k1
def bxor (x y : Int) : Int := (Int32.ofInt x ^^^ Int32.ofInt y).toInt
theorem ok_ixor (a : Ac Γ p s m args meth c own cc nL rt) {x y : Int} (d : decode cc pc = .ok (.ixor, 1)) (kk : OK Γ p l e R s m args below meth c n0 Q (pc + 1) L (vI (bxor x y) :: st) n g h) : OK Γ p l e R s m args below meth c n0 Q pc L (vI y :: vI x :: st) n g h := by
  intro H locs ls hH hS hL
  have k1 := kk H locs ls hH hS hL
  simp only [List.map_cons, enc, bxor, Int32.ofInt_toInt] at k1
  exact lv_ixor a.1 a.2.1 d k1
def bshl (x y : Int) : Int := (Int32.ofInt x <<< (Int32.ofInt y &&& 31)).toInt
def bshr (x y : Int) : Int := (Int32.ofInt x >>> (Int32.ofInt y &&& 31)).toInt
def bushr (x y : Int) : Int := ((Int32.ofInt x).toUInt32 >>> ((Int32.ofInt y).toUInt32 &&& Int32.toUInt32 31)).toInt32.toInt
theorem ok_ishl (a : Ac Γ p s m args meth c own cc nL rt) {x y : Int} (d : decode cc pc = .ok (.ishl, 1)) (kk : OK Γ p l e R s m args below meth c n0 Q (pc + 1) L (vI (bshl x y) :: st) n g h) : OK Γ p l e R s m args below meth c n0 Q pc L (vI y :: vI x :: st) n g h := by
  intro H locs ls hH hS hL
  have k1 := kk H locs ls hH hS hL
  simp only [List.map_cons, enc, bshl, Int32.ofInt_toInt] at k1
  exact lv_ishl a.1 a.2.1 d k1
theorem ok_ishr (a : Ac Γ p s m args meth c own cc nL rt) {x y : Int} (d : decode cc pc = .ok (.ishr, 1)) (kk : OK Γ p l e R s m args below meth c n0 Q (pc + 1) L (vI (bshr x y) :: st) n g h) : OK Γ p l e R s m args below meth c n0 Q pc L (vI y :: vI x :: st) n g h := by
  intro H locs ls hH hS hL
  have k1 := kk H locs ls hH hS hL
  simp only [List.map_cons, enc, bshr, Int32.ofInt_toInt] at k1
  exact lv_ishr a.1 a.2.1 d k1
theorem ok_iushr (a : Ac Γ p s m args meth c own cc nL rt) {x y : Int} (d : decode cc pc = .ok (.iushr, 1)) (kk : OK Γ p l e R s m args below meth c n0 Q (pc + 1) L (vI (bushr x y) :: st) n g h) : OK Γ p l e R s m args below meth c n0 Q pc L (vI y :: vI x :: st) n g h := by
  intro H locs ls hH hS hL
  have k1 := kk H locs ls hH hS hL
  simp only [List.map_cons, enc, bushr, Int32.ofInt_toInt] at k1
  exact lv_iushr a.1 a.2.1 d rfl k1
theorem i32_div {x y : Int} (h0 : 0 ≤ x) (h1 : x < 2147483648) (h2 : 0 < y) (h3 : y < 2147483648) : Int32.ofInt (x / y) = Int32.ofInt x / Int32.ofInt y := by
  rw [← Int32.ofInt_tdiv (by show (-2147483648 : Int) ≤ x; omega) (by show x ≤ (2147483647 : Int); omega) (by show (-2147483648 : Int) ≤ y; omega) (by show y ≤ (2147483647 : Int); omega), Int.tdiv_eq_ediv_of_nonneg h0]
theorem i64_div {x y : Int} (h0 : 0 ≤ x) (h1 : x < 9223372036854775808) (h2 : 0 < y) (h3 : y < 9223372036854775808) : Int64.ofInt (x / y) = Int64.ofInt x / Int64.ofInt y := by
  rw [← Int64.ofInt_tdiv (by show (-9223372036854775808 : Int) ≤ x; omega) (by show x ≤ (9223372036854775807 : Int); omega) (by show (-9223372036854775808 : Int) ≤ y; omega) (by show y ≤ (9223372036854775807 : Int); omega), Int.tdiv_eq_ediv_of_nonneg h0]
theorem ok_idiv (a : Ac Γ p s m args meth c own cc nL rt) {x y : Int} (d : decode cc pc = .ok (.idiv, 1)) (h0 : (0 ≤ x ∧ x < 2147483648) ∧ 0 < y ∧ y < 2147483648) (kk : OK Γ p l e R s m args below meth c n0 Q (pc + 1) L (vI (x / y) :: st) n g h) : OK Γ p l e R s m args below meth c n0 Q pc L (vI y :: vI x :: st) n g h := by
  intro H locs ls hH hS hL
  have k1 := kk H locs ls hH hS hL
  simp only [List.map_cons, enc, i32_div h0.1.1 h0.1.2 h0.2.1 h0.2.2] at k1
  exact lv_idiv a.1 a.2.1 d (by rw [i32_0, i32_eq ⟨by omega, by omega⟩ inR0]; omega) k1
theorem ok_irem (a : Ac Γ p s m args meth c own cc nL rt) {x y : Int} (d : decode cc pc = .ok (.irem, 1)) (h0 : (0 ≤ x ∧ x < 2147483648) ∧ 0 < y ∧ y < 2147483648) (kk : OK Γ p l e R s m args below meth c n0 Q (pc + 1) L (vI (x % y) :: st) n g h) : OK Γ p l e R s m args below meth c n0 Q pc L (vI y :: vI x :: st) n g h := by
  intro H locs ls hH hS hL
  have k1 := kk H locs ls hH hS hL
  have e : Int32.ofInt (x % y) = Int32.ofInt x - Int32.ofInt x / Int32.ofInt y * Int32.ofInt y := by
    rw [Int.emod_def, Int32.ofInt_sub, Int32.ofInt_mul, i32_div h0.1.1 h0.1.2 h0.2.1 h0.2.2, Int32.mul_comm]
  simp only [List.map_cons, enc, e] at k1
  exact lv_irem a.1 a.2.1 d (by rw [i32_0, i32_eq ⟨by omega, by omega⟩ inR0]; omega) k1
theorem i64_ne {y : Int} (h2 : 0 < y) (h3 : y < 9223372036854775808) : ¬ Int64.ofInt y = 0 := by
  intro q
  have := congrArg Int64.toInt q
  rw [i64T ⟨by omega, by omega⟩] at this
  have h0 : (0 : Int64).toInt = 0 := by decide
  omega
theorem ok_ldiv (a : Ac Γ p s m args meth c own cc nL rt) {x y : Int} (d : decode cc pc = .ok (.ldiv, 1)) (h0 : (0 ≤ x ∧ x < 9223372036854775808) ∧ 0 < y ∧ y < 9223372036854775808) (kk : OK Γ p l e R s m args below meth c n0 Q (pc + 1) L (vL (x / y) :: st) n g h) : OK Γ p l e R s m args below meth c n0 Q pc L (vL y :: vL x :: st) n g h := by
  intro H locs ls hH hS hL
  have k1 := kk H locs ls hH hS hL
  simp only [List.map_cons, enc, i64_div h0.1.1 h0.1.2 h0.2.1 h0.2.2] at k1
  exact lv_ldiv a.1 a.2.1 d (i64_ne h0.2.1 h0.2.2) k1
theorem ok_lrem (a : Ac Γ p s m args meth c own cc nL rt) {x y : Int} (d : decode cc pc = .ok (.lrem, 1)) (h0 : (0 ≤ x ∧ x < 9223372036854775808) ∧ 0 < y ∧ y < 9223372036854775808) (kk : OK Γ p l e R s m args below meth c n0 Q (pc + 1) L (vL (x % y) :: st) n g h) : OK Γ p l e R s m args below meth c n0 Q pc L (vL y :: vL x :: st) n g h := by
  intro H locs ls hH hS hL
  have k1 := kk H locs ls hH hS hL
  have e : Int64.ofInt (x % y) = Int64.ofInt x - Int64.ofInt x / Int64.ofInt y * Int64.ofInt y := by
    rw [Int.emod_def, Int64.ofInt_sub, Int64.ofInt_mul, i64_div h0.1.1 h0.1.2 h0.2.1 h0.2.2, Int64.mul_comm]
  simp only [List.map_cons, enc, e] at k1
  exact lv_lrem a.1 a.2.1 d (i64_ne h0.2.1 h0.2.2) k1
theorem ok_i2l (a : Ac Γ p s m args meth c own cc nL rt) {x : Int} (d : decode cc pc = .ok (.i2l, 1)) (hx : inR x) (kk : OK Γ p l e R s m args below meth c n0 Q (pc + 1) L (vL x :: st) n g h) : OK Γ p l e R s m args below meth c n0 Q pc L (vI x :: st) n g h := by
  intro H locs ls hH hS hL
  exact lv_i2l a.1 a.2.1 d (Int32.toInt64_ofInt (by show (-2147483648 : Int) ≤ x; exact hx.1) (by show x ≤ (2147483647 : Int); have := hx.2; omega)) (kk H locs ls hH hS hL)
theorem ofInt_nI {x : Int} (h0 : 0 ≤ x) : Int32.ofInt x = nI x.toNat := by
  obtain ⟨k, rfl⟩ := Int.eq_ofNat_of_zero_le h0
  first | rfl | simp [nI, Int32.ofInt_eq_ofNat]
theorem ok_i2c (a : Ac Γ p s m args meth c own cc nL rt) {x : Int} (d : decode cc pc = .ok (.i2c, 1)) (hx : 0 ≤ x ∧ x < 65536) (kk : OK Γ p l e R s m args below meth c n0 Q (pc + 1) L (vI x :: st) n g h) : OK Γ p l e R s m args below meth c n0 Q pc L (vI x :: st) n g h := by
  intro H locs ls hH hS hL
  refine lv_i2c a.1 a.2.1 d ?_ (kk H locs ls hH hS hL)
  rw [pk_char, ofInt_nI hx.1, pk_tn (by omega), Nat.mod_eq_of_lt (by omega)]
theorem i2s_id {x : Int} (hx : 0 ≤ x ∧ x < 32768) : (Int32.ofInt x).toInt16.toInt32 = Int32.ofInt x := by
  apply Int32.toInt_inj.mp
  rw [Int16.toInt_toInt32, Int32.toInt_toInt16, i32T ⟨by omega, by omega⟩]
  exact Int.bmod_eq_of_le (by omega) (by omega)
theorem ok_i2s (a : Ac Γ p s m args meth c own cc nL rt) {x : Int} (d : decode cc pc = .ok (.i2s, 1)) (hx : 0 ≤ x ∧ x < 32768) (kk : OK Γ p l e R s m args below meth c n0 Q (pc + 1) L (vI x :: st) n g h) : OK Γ p l e R s m args below meth c n0 Q pc L (vI x :: st) n g h := by
  intro H locs ls hH hS hL
  exact lv_i2s a.1 a.2.1 d (i2s_id hx) (kk H locs ls hH hS hL)
theorem ok_icmp_eq (a : Ac Γ p s m args meth c own cc nL rt) {x y off : Int} (tgt : Nat) (d : decode cc pc = .ok (.if_icmp .eq off, 3)) (ht : (pc : Int) + off = (tgt : Int)) (hx : inR x) (hy : inR y) (kt : x = y → OK Γ p l e R s m args below meth c n0 Q tgt L st n g h) (kf : ¬ x = y → OK Γ p l e R s m args below meth c n0 Q (pc + 3) L st n g h) : OK Γ p l e R s m args below meth c n0 Q pc L (vI y :: vI x :: st) n g h := by
  intro H locs ls hH hS hL
  exact lv_icmp_eq a.1 a.2.1 d ht (fun q => kt ((i32_eq hx hy).mp q) H locs ls hH hS hL) (fun q => kf (fun z => q ((i32_eq hx hy).mpr z)) H locs ls hH hS hL)
theorem ok_if_eq (a : Ac Γ p s m args meth c own cc nL rt) {x off : Int} (tgt : Nat) (d : decode cc pc = .ok (.ifCond .eq off, 3)) (ht : (pc : Int) + off = (tgt : Int)) (hx : inR x) (kt : x = 0 → OK Γ p l e R s m args below meth c n0 Q tgt L st n g h) (kf : ¬ x = 0 → OK Γ p l e R s m args below meth c n0 Q (pc + 3) L st n g h) : OK Γ p l e R s m args below meth c n0 Q pc L (vI x :: st) n g h := by
  intro H locs ls hH hS hL
  exact lv_if_eq a.1 a.2.1 d ht (fun q => kt ((i32_eq hx inR0).mp q) H locs ls hH hS hL) (fun q => kf (fun z => q ((i32_eq hx inR0).mpr z)) H locs ls hH hS hL)
theorem ok_icmp_ne (a : Ac Γ p s m args meth c own cc nL rt) {x y off : Int} (tgt : Nat) (d : decode cc pc = .ok (.if_icmp .ne off, 3)) (ht : (pc : Int) + off = (tgt : Int)) (hx : inR x) (hy : inR y) (kt : ¬ x = y → OK Γ p l e R s m args below meth c n0 Q tgt L st n g h) (kf : x = y → OK Γ p l e R s m args below meth c n0 Q (pc + 3) L st n g h) : OK Γ p l e R s m args below meth c n0 Q pc L (vI y :: vI x :: st) n g h := by
  intro H locs ls hH hS hL
  exact lv_icmp_ne a.1 a.2.1 d ht (fun q => kt (fun z => q ((i32_eq hx hy).mpr z)) H locs ls hH hS hL) (fun q => kf ((i32_eq hx hy).mp q) H locs ls hH hS hL)
theorem ok_if_ne (a : Ac Γ p s m args meth c own cc nL rt) {x off : Int} (tgt : Nat) (d : decode cc pc = .ok (.ifCond .ne off, 3)) (ht : (pc : Int) + off = (tgt : Int)) (hx : inR x) (kt : ¬ x = 0 → OK Γ p l e R s m args below meth c n0 Q tgt L st n g h) (kf : x = 0 → OK Γ p l e R s m args below meth c n0 Q (pc + 3) L st n g h) : OK Γ p l e R s m args below meth c n0 Q pc L (vI x :: st) n g h := by
  intro H locs ls hH hS hL
  exact lv_if_ne a.1 a.2.1 d ht (fun q => kt (fun z => q (by rw [z]; rfl)) H locs ls hH hS hL) (fun q => kf ((i32_eq hx inR0).mp q) H locs ls hH hS hL)
theorem ok_icmp_lt (a : Ac Γ p s m args meth c own cc nL rt) {x y off : Int} (tgt : Nat) (d : decode cc pc = .ok (.if_icmp .lt off, 3)) (ht : (pc : Int) + off = (tgt : Int)) (hx : inR x) (hy : inR y) (kt : x < y → OK Γ p l e R s m args below meth c n0 Q tgt L st n g h) (kf : ¬ x < y → OK Γ p l e R s m args below meth c n0 Q (pc + 3) L st n g h) : OK Γ p l e R s m args below meth c n0 Q pc L (vI y :: vI x :: st) n g h := by
  intro H locs ls hH hS hL
  exact lv_icmp_lt a.1 a.2.1 d ht (fun q => kt ((i32_lt hx hy).mp q) H locs ls hH hS hL) (fun q => kf (fun z => q ((i32_lt hx hy).mpr z)) H locs ls hH hS hL)
theorem ok_if_lt (a : Ac Γ p s m args meth c own cc nL rt) {x off : Int} (tgt : Nat) (d : decode cc pc = .ok (.ifCond .lt off, 3)) (ht : (pc : Int) + off = (tgt : Int)) (hx : inR x) (kt : x < 0 → OK Γ p l e R s m args below meth c n0 Q tgt L st n g h) (kf : ¬ x < 0 → OK Γ p l e R s m args below meth c n0 Q (pc + 3) L st n g h) : OK Γ p l e R s m args below meth c n0 Q pc L (vI x :: st) n g h := by
  intro H locs ls hH hS hL
  exact lv_if_lt a.1 a.2.1 d ht (fun q => kt ((i32_lt hx inR0).mp q) H locs ls hH hS hL) (fun q => kf (fun z => q ((i32_lt hx inR0).mpr z)) H locs ls hH hS hL)
theorem ok_icmp_ge (a : Ac Γ p s m args meth c own cc nL rt) {x y off : Int} (tgt : Nat) (d : decode cc pc = .ok (.if_icmp .ge off, 3)) (ht : (pc : Int) + off = (tgt : Int)) (hx : inR x) (hy : inR y) (kt : y ≤ x → OK Γ p l e R s m args below meth c n0 Q tgt L st n g h) (kf : ¬ y ≤ x → OK Γ p l e R s m args below meth c n0 Q (pc + 3) L st n g h) : OK Γ p l e R s m args below meth c n0 Q pc L (vI y :: vI x :: st) n g h := by
  intro H locs ls hH hS hL
  exact lv_icmp_ge a.1 a.2.1 d ht (fun q => kt ((i32_le hy hx).mp q) H locs ls hH hS hL) (fun q => kf (fun z => q ((i32_le hy hx).mpr z)) H locs ls hH hS hL)
theorem ok_if_ge (a : Ac Γ p s m args meth c own cc nL rt) {x off : Int} (tgt : Nat) (d : decode cc pc = .ok (.ifCond .ge off, 3)) (ht : (pc : Int) + off = (tgt : Int)) (hx : inR x) (kt : 0 ≤ x → OK Γ p l e R s m args below meth c n0 Q tgt L st n g h) (kf : ¬ 0 ≤ x → OK Γ p l e R s m args below meth c n0 Q (pc + 3) L st n g h) : OK Γ p l e R s m args below meth c n0 Q pc L (vI x :: st) n g h := by
  intro H locs ls hH hS hL
  exact lv_if_ge a.1 a.2.1 d ht (fun q => kt ((i32_le inR0 hx).mp q) H locs ls hH hS hL) (fun q => kf (fun z => q ((i32_le inR0 hx).mpr z)) H locs ls hH hS hL)
theorem ok_icmp_gt (a : Ac Γ p s m args meth c own cc nL rt) {x y off : Int} (tgt : Nat) (d : decode cc pc = .ok (.if_icmp .gt off, 3)) (ht : (pc : Int) + off = (tgt : Int)) (hx : inR x) (hy : inR y) (kt : y < x → OK Γ p l e R s m args below meth c n0 Q tgt L st n g h) (kf : ¬ y < x → OK Γ p l e R s m args below meth c n0 Q (pc + 3) L st n g h) : OK Γ p l e R s m args below meth c n0 Q pc L (vI y :: vI x :: st) n g h := by
  intro H locs ls hH hS hL
  exact lv_icmp_gt a.1 a.2.1 d ht (fun q => kt ((i32_lt hy hx).mp q) H locs ls hH hS hL) (fun q => kf (fun z => q ((i32_lt hy hx).mpr z)) H locs ls hH hS hL)
theorem ok_if_gt (a : Ac Γ p s m args meth c own cc nL rt) {x off : Int} (tgt : Nat) (d : decode cc pc = .ok (.ifCond .gt off, 3)) (ht : (pc : Int) + off = (tgt : Int)) (hx : inR x) (kt : 0 < x → OK Γ p l e R s m args below meth c n0 Q tgt L st n g h) (kf : ¬ 0 < x → OK Γ p l e R s m args below meth c n0 Q (pc + 3) L st n g h) : OK Γ p l e R s m args below meth c n0 Q pc L (vI x :: st) n g h := by
  intro H locs ls hH hS hL
  exact lv_if_gt a.1 a.2.1 d ht (fun q => kt ((i32_lt inR0 hx).mp q) H locs ls hH hS hL) (fun q => kf (fun z => q ((i32_lt inR0 hx).mpr z)) H locs ls hH hS hL)
theorem ok_icmp_le (a : Ac Γ p s m args meth c own cc nL rt) {x y off : Int} (tgt : Nat) (d : decode cc pc = .ok (.if_icmp .le off, 3)) (ht : (pc : Int) + off = (tgt : Int)) (hx : inR x) (hy : inR y) (kt : x ≤ y → OK Γ p l e R s m args below meth c n0 Q tgt L st n g h) (kf : ¬ x ≤ y → OK Γ p l e R s m args below meth c n0 Q (pc + 3) L st n g h) : OK Γ p l e R s m args below meth c n0 Q pc L (vI y :: vI x :: st) n g h := by
  intro H locs ls hH hS hL
  exact lv_icmp_le a.1 a.2.1 d ht (fun q => kt ((i32_le hx hy).mp q) H locs ls hH hS hL) (fun q => kf (fun z => q ((i32_le hx hy).mpr z)) H locs ls hH hS hL)
theorem ok_if_le (a : Ac Γ p s m args meth c own cc nL rt) {x off : Int} (tgt : Nat) (d : decode cc pc = .ok (.ifCond .le off, 3)) (ht : (pc : Int) + off = (tgt : Int)) (hx : inR x) (kt : x ≤ 0 → OK Γ p l e R s m args below meth c n0 Q tgt L st n g h) (kf : ¬ x ≤ 0 → OK Γ p l e R s m args below meth c n0 Q (pc + 3) L st n g h) : OK Γ p l e R s m args below meth c n0 Q pc L (vI x :: st) n g h := by
  intro H locs ls hH hS hL
  exact lv_if_le a.1 a.2.1 d ht (fun q => kt ((i32_le hx inR0).mp q) H locs ls hH hS hL) (fun q => kf (fun z => q ((i32_le hx inR0).mpr z)) H locs ls hH hS hL)
theorem ok_tabIn (a : Ac Γ p s m args meth c own cc nL rt) {x : Int} {df lo hi off : Int} {offs : Array Int} {len : Nat} (tgt : Nat) (d : decode cc pc = .ok (.tableswitch df lo hi offs, len)) (hx : inR x) (h1 : lo ≤ x) (h2 : x ≤ hi) (ho : offs[(x - lo).toNat]? = some off) (ht : (pc : Int) + off = (tgt : Int)) (kk : OK Γ p l e R s m args below meth c n0 Q tgt L st n g h) : OK Γ p l e R s m args below meth c n0 Q pc L (vI x :: st) n g h := by
  intro H locs ls hH hS hL
  refine lv_tableIn a.1 a.2.1 d ?_ ?_ ?_ ht (kk H locs ls hH hS hL)
  · rw [i32T hx]; omega
  · rw [i32T hx]; omega
  · rw [i32T hx]; exact ho
theorem ok_tabOut (a : Ac Γ p s m args meth c own cc nL rt) {x : Int} {df lo hi : Int} {offs : Array Int} {len : Nat} (tgt : Nat) (d : decode cc pc = .ok (.tableswitch df lo hi offs, len)) (hx : inR x) (h1 : x < lo ∨ hi < x) (ht : (pc : Int) + df = (tgt : Int)) (kk : OK Γ p l e R s m args below meth c n0 Q tgt L st n g h) : OK Γ p l e R s m args below meth c n0 Q pc L (vI x :: st) n g h := by
  intro H locs ls hH hS hL
  refine lv_tableOut a.1 a.2.1 d ?_ ht (kk H locs ls hH hS hL)
  rw [i32T hx]; exact h1
def cmpL (x y : Int) : Int := if x < y then -1 else if x = y then 0 else 1
end ROWS
end
section
theorem ad_lt {Γ : Gm} {k : Nat} (h : k < 1000) : ad Γ k = Γ.2.2.1 + k := by
  unfold ad
  rw [if_neg (by omega), if_neg (by omega)]
theorem enc_R {Γ : Gm} {k : Nat} (h : k < 1000) : enc Γ (vR k) = .ref (Γ.2.2.1 + k) := by
  show Value.ref (ad Γ k) = _
  rw [ad_lt h]
theorem aw_at {Γ : Gm} {n k : Nat} {g : aG} {h : aH} (hk : k < n) : (aw Γ n g h)[k]? = some (Γ.2.2.1 + k, cw Γ g h k) := by simp [aw, hk]
theorem aw_of {Γ : Gm} {n k : Nat} {g : aG} {h : aH} {q : Nat × va_E} (hq : (aw Γ n g h)[k]? = some q) : k < n ∧ q = (Γ.2.2.1 + k, cw Γ g h k) := by
  have hk : k < n := by
    have := (List.getElem?_eq_some_iff.mp hq).1
    simpa [aw] using this
  rw [aw_at hk] at hq
  exact ⟨hk, (Option.some.inj hq).symm⟩
theorem aw_D {Γ : Gm} {n : Nat} {g : aG} {h : aH} : va_D (AA Γ) (aw Γ n g h) := by
  refine ⟨fun i j p q hi hj e => ?_, fun k q hk => ?_⟩
  · have h1 := (aw_of hi).2
    have h2 := (aw_of hj).2
    subst h1
    subst h2
    have : Γ.2.2.1 + i = Γ.2.2.1 + j := e
    omega
  · rw [(aw_of hk).2]
    show Γ.2.2.1 ≤ Γ.2.2.1 + k
    omega
theorem aw_set {Γ : Gm} {n k : Nat} {g g' : aG} {h h' : aH} {x : va_E} (hk : k < n) (hx : x = cw Γ g' h' k) (ho : ∀ k', k' ≠ k → cw Γ g h k' = cw Γ g' h' k') : (aw Γ n g h).set k (Γ.2.2.1 + k, x) = aw Γ n g' h' := by
  apply List.ext_getElem?
  intro i
  by_cases hi : k = i
  · subst hi
    rw [aw_at hk, List.getElem?_set_self (by simp [aw]; exact hk), hx]
  · rw [List.getElem?_set_ne hi]
    by_cases hn : i < n
    · rw [aw_at hn, aw_at hn, ho i (fun q => hi q.symm)]
    · rw [List.getElem?_eq_none (by simp [aw]; omega), List.getElem?_eq_none (by simp [aw]; omega)]
theorem cw_obj {Γ : Gm} {g : aG} {h : aH} {k ci : Nat} (hc : (kd k).1 = ci) (hci : ci < 10) : cw Γ g h k = .inr (ci, (List.range (nf ci)).map (fun j => fval Γ (tyOf ci j) (h k (j : Int)) (g k (j : Int)))) := by
  subst hc
  unfold cw
  rw [if_pos hci]
theorem cw_arr {Γ : Gm} {g : aG} {h : aH} {k t len : Nat} (hc : kd k = (10 + t, len)) (ht : t < 4) : cw Γ g h k = .inl (Γ.2.1 t, len, .inl (fun j => Int32.ofInt (h k (j : Int)))) := by
  unfold cw
  rw [hc, if_neg (by show ¬ 10 + t < 10; omega), if_pos (by show 10 + t < 14; omega)]
  show (Sum.inl (Γ.2.1 (10 + t - 10), len, _) : va_E) = _
  rw [show 10 + t - 10 = t by omega]
theorem cw_ref {Γ : Gm} {g : aG} {h : aH} {k len : Nat} (hc : kd k = (14, len)) : cw Γ g h k = .inl (Γ.2.1 4, len, .inr (.inr (.inr (.inr (fun j => (g k (j : Int)).map (ad Γ)))))) := by
  unfold cw
  rw [hc, if_neg (by show ¬ (14 : Nat) < 10; decide), if_neg (by show ¬ (14 : Nat) < 14; decide)]
theorem cw_oth {Γ : Gm} {g : aG} {h : aH} {k : Nat} {i x : Int} : ∀ k', k' ≠ k → cw Γ g h k' = cw Γ g (up h k i x) k' := by
  intro k' hk
  have e : ∀ j, up h k i x k' j = h k' j := fun j => by simp [up, hk]
  unfold cw
  simp only [e]
theorem map_set {f f' : Nat → Value} {N j : Nat} {y : Value} (h1 : f' j = y) (h2 : ∀ i, i ≠ j → f' i = f i) : ((List.range N).map f).set j y = (List.range N).map f' := by
  apply List.ext_getElem?
  intro i
  by_cases hi : j = i
  · subst hi
    by_cases hj : j < N
    · rw [List.getElem?_set_self (by simpa using hj)]
      simp [hj, h1]
    · rw [List.getElem?_eq_none (by simp; omega), List.getElem?_eq_none (by simp; omega)]
  · rw [List.getElem?_set_ne hi]
    by_cases hn : i < N
    · simp [hn, h2 i (fun q => hi q.symm)]
    · rw [List.getElem?_eq_none (by simp; omega), List.getElem?_eq_none (by simp; omega)]
section HEAP
variable {Γ : Gm} {p : Program} {l : Launch} {e : Env} {R : Room} {s : State} {m : MethodId} {args : Array Value} {below : List Frame} {meth : Method} {c : Code} {own : String} {cc : ByteArray} {nL : Nat} {rt : Option FieldType} {n0 : Nat} {Q : State → Prop} {pc : Nat} {L : List (Option aV)} {st : List aV} {n : Nat} {g : aG} {h : aH}
theorem ok_get (a : Ac Γ p s m args meth c own cc nL rt) {idx ci j k : Nat} {v : aV} (d : decode cc pc = .ok (.getfield idx, 3)) (f : Lf own idx ci j) (hk : k < n) (hc : (kd k).1 = ci) (hv : fval Γ (tyOf ci j) (h k (j : Int)) (g k (j : Int)) = enc Γ v) (kk : OK Γ p l e R s m args below meth c n0 Q (pc + 3) L (v :: st) n g h) : OK Γ p l e R s m args below meth c n0 Q pc L (vR k :: st) n g h := by
  intro H locs ls hH hS hL
  have k1 := kk H locs ls hH hS hL
  obtain ⟨hn, hP⟩ := hH
  have he := aw_at (Γ := Γ) (g := g) (h := h) hk
  rw [cw_obj hc f.1] at he
  have hvv : ((List.range (nf ci)).map (fun j => fval Γ (tyOf ci j) (h k (j : Int)) (g k (j : Int))))[j]? = some (enc Γ v) := by simp [f.2.1, hv]
  have cf := cf_all f.1
  simp only [List.map_cons, enc_R (Γ := Γ) (show k < 1000 by omega)]
  rcases f.2.2 with hf | ⟨host, hf⟩
  · exact va_get (D := Γ.1) (ci := ci) (C := cC ci) (T := cT ci) (N := nf ci) a.1 a.2.1 a.2.2.2.2.2.2.1 cf.2.1 a.2.2.2.2.2.1 a.2.2.2.2.2.2.2.1 hP k he cf.1 j f.2.1 (a.2.2.2.2.2.2.1 _ hf) (fun _ h9 => by rw [cf.2.2.2.2 j f.2.1] at h9; exact h9) hvv d k1
  · exact va_getN (D := Γ.1) (ci := ci) (C := cC ci) (T := cT ci) (N := nf ci) a.1 a.2.1 a.2.2.2.2.2.2.1 cf.2.1 a.2.2.2.2.2.1 a.2.2.2.2.2.2.2.1 hP k he cf.1 j f.2.1 (va_Nw.use (by rfl) (a.2.2.2.2.2.2.2.2.1 _ hf rfl)) (fun _ h9 => by rw [cf.2.2.2.2 j f.2.1] at h9; exact h9) hvv d k1
theorem ok_put (a : Ac Γ p s m args meth c own cc nL rt) {idx ci j k : Nat} {v : aV} {x : Int} (d : decode cc pc = .ok (.putfield idx, 3)) (f : Lf own idx ci j) (hfin : (cT ci j).2.2.2 = false) (hk : k < n) (hc : (kd k).1 = ci) (hv : ∀ r, fval Γ (tyOf ci j) x r = enc Γ v) (hnr : narrow (tyOf ci j) (enc Γ v) = enc Γ v) (hft : fits (tyOf ci j) (enc Γ v) = true) (kk : OK Γ p l e R s m args below meth c n0 Q (pc + 3) L st n g (up h k (j : Int) x)) : OK Γ p l e R s m args below meth c n0 Q pc L (v :: vR k :: st) n g h := by
  intro H locs ls hH hS hL
  obtain ⟨hn, hP⟩ := hH
  have he := aw_at (Γ := Γ) (g := g) (h := h) hk
  rw [cw_obj hc f.1] at he
  have cf := cf_all f.1
  have hset : (aw Γ n g h).set k (Γ.2.2.1 + k, .inr (ci, ((List.range (nf ci)).map (fun j => fval Γ (tyOf ci j) (h k (j : Int)) (g k (j : Int)))).set j (enc Γ v))) = aw Γ n g (up h k (j : Int) x) := by
    refine aw_set hk ?_ cw_oth
    rw [cw_obj hc f.1]
    congr 2
    refine map_set ?_ ?_
    · simp only [up, and_self, if_true]; exact hv _
    · intro i hi
      have : ¬ ((k = k) ∧ ((i : Int) = (j : Int))) := fun q => hi (by omega)
      show fval Γ (tyOf ci i) (if k = k ∧ (i : Int) = (j : Int) then x else h k (i : Int)) (g k (i : Int)) = _
      rw [if_neg this]
  have k1 : ∀ (H1 : Heap) (locs1 : List Loc), va_P Γ.1 vwCl ((aw Γ n g h).set k (Γ.2.2.1 + k, .inr (ci, ((List.range (nf ci)).map (fun j => fval Γ (tyOf ci j) (h k (j : Int)) (g k (j : Int)))).set j (enc Γ v)))) H1 → va_D (AA Γ) ((aw Γ n g h).set k (Γ.2.2.1 + k, .inr (ci, ((List.range (nf ci)).map (fun j => fval Γ (tyOf ci j) (h k (j : Int)) (g k (j : Int)))).set j (enc Γ v)))) → va_S (AA Γ) s.heap H1 locs1 → W p l e R s m args below meth c H1 locs1 (n - n0) (sl n - sl n0) Q (F0 m (pc + 3) ls (st.map (enc Γ))) := fun H1 locs1 q1 _ q3 => kk H1 locs1 ls ⟨hn, by rw [← hset]; exact q1⟩ q3 hL
  simp only [List.map_cons, enc_R (Γ := Γ) (show k < 1000 by omega)]
  rcases f.2.2 with hf | ⟨host, hf⟩
  · exact va_put (D := Γ.1) (ci := ci) (C := cC ci) (T := cT ci) (N := nf ci) a.1 a.2.1 a.2.2.2.2.2.2.1 cf.2.1 (tyOf ci) cf.2.2.1 cf.2.2.2.1 a.2.2.2.2.2.1 a.2.2.2.2.2.2.2.1 hP aw_D hS k he cf.1 j f.2.1 (a.2.2.2.2.2.2.1 _ hf) (fun _ h9 => by rw [cf.2.2.2.2 j f.2.1] at h9; exact h9) hfin (cf.2.2.1 j f.2.1) hnr hft (by simp; exact f.2.1) d k1
  · exact va_putN (D := Γ.1) (ci := ci) (C := cC ci) (T := cT ci) (N := nf ci) a.1 a.2.1 a.2.2.2.2.2.2.1 cf.2.1 (tyOf ci) cf.2.2.1 cf.2.2.2.1 a.2.2.2.2.2.1 a.2.2.2.2.2.2.2.1 hP aw_D hS k he cf.1 j f.2.1 (va_Nw.use (by rfl) (a.2.2.2.2.2.2.2.2.1 _ hf rfl)) (fun _ h9 => by rw [cf.2.2.2.2 j f.2.1] at h9; exact h9) hfin (cf.2.2.1 j f.2.1) hnr hft (by simp; exact f.2.1) d k1
theorem ok_putI (a : Ac Γ p s m args meth c own cc nL rt) {idx ci j k : Nat} {x : Int} (d : decode cc pc = .ok (.putfield idx, 3)) (f : Lf own idx ci j) (hfin : (cT ci j).2.2.2 = false) (hk : k < n) (hc : (kd k).1 = ci) (ht : tyOf ci j = .int) (kk : OK Γ p l e R s m args below meth c n0 Q (pc + 3) L st n g (up h k (j : Int) x)) : OK Γ p l e R s m args below meth c n0 Q pc L (vI x :: vR k :: st) n g h :=
  ok_put a d f hfin hk hc (fun r => by rw [ht]; rfl) (by rw [ht]; rfl) (by rw [ht]; rfl) kk
theorem ok_putL (a : Ac Γ p s m args meth c own cc nL rt) {idx ci j k : Nat} {x : Int} (d : decode cc pc = .ok (.putfield idx, 3)) (f : Lf own idx ci j) (hfin : (cT ci j).2.2.2 = false) (hk : k < n) (hc : (kd k).1 = ci) (ht : tyOf ci j = .long) (kk : OK Γ p l e R s m args below meth c n0 Q (pc + 3) L st n g (up h k (j : Int) x)) : OK Γ p l e R s m args below meth c n0 Q pc L (vL x :: vR k :: st) n g h :=
  ok_put a d f hfin hk hc (fun r => by rw [ht]; rfl) (by rw [ht]; rfl) (by rw [ht]; rfl) kk
theorem ok_putZ (a : Ac Γ p s m args meth c own cc nL rt) {idx ci j k : Nat} {x : Int} (d : decode cc pc = .ok (.putfield idx, 3)) (f : Lf own idx ci j) (hfin : (cT ci j).2.2.2 = false) (hk : k < n) (hc : (kd k).1 = ci) (ht : tyOf ci j = .boolean) (hx : x = 0 ∨ x = 1) (kk : OK Γ p l e R s m args below meth c n0 Q (pc + 3) L st n g (up h k (j : Int) x)) : OK Γ p l e R s m args below meth c n0 Q pc L (vI x :: vR k :: st) n g h := by
  rcases hx with rfl | rfl
  · exact ok_put a d f hfin hk hc (fun r => by rw [ht]; rfl) (by rw [ht]; rfl) (by rw [ht]; rfl) kk
  · exact ok_put a d f hfin hk hc (fun r => by rw [ht]; rfl) (by rw [ht]; rfl) (by rw [ht]; rfl) kk
theorem ok_getI (a : Ac Γ p s m args meth c own cc nL rt) {idx ci j k : Nat} (d : decode cc pc = .ok (.getfield idx, 3)) (f : Lf own idx ci j) (hk : k < n) (hc : (kd k).1 = ci) (ht : tyOf ci j = .int ∨ tyOf ci j = .boolean) (kk : OK Γ p l e R s m args below meth c n0 Q (pc + 3) L (vI (h k (j : Int)) :: st) n g h) : OK Γ p l e R s m args below meth c n0 Q pc L (vR k :: st) n g h :=
  ok_get a d f hk hc (by rcases ht with ht | ht <;> rw [ht] <;> rfl) kk
theorem ok_getL (a : Ac Γ p s m args meth c own cc nL rt) {idx ci j k : Nat} (d : decode cc pc = .ok (.getfield idx, 3)) (f : Lf own idx ci j) (hk : k < n) (hc : (kd k).1 = ci) (ht : tyOf ci j = .long) (kk : OK Γ p l e R s m args below meth c n0 Q (pc + 3) L (vL (h k (j : Int)) :: st) n g h) : OK Γ p l e R s m args below meth c n0 Q pc L (vR k :: st) n g h :=
  ok_get a d f hk hc (by rw [ht]; rfl) kk
def isRefT (t : FieldType) : Bool := match t with
  | .int => false
  | .boolean => false
  | .long => false
  | _ => true
theorem ok_getR (a : Ac Γ p s m args meth c own cc nL rt) {idx ci j k r : Nat} (d : decode cc pc = .ok (.getfield idx, 3)) (f : Lf own idx ci j) (hk : k < n) (hc : (kd k).1 = ci) (ht : isRefT (tyOf ci j) = true) (hg : g k (j : Int) = some r) (kk : OK Γ p l e R s m args below meth c n0 Q (pc + 3) L (vR r :: st) n g h) : OK Γ p l e R s m args below meth c n0 Q pc L (vR k :: st) n g h :=
  ok_get a d f hk hc (by rw [hg]; generalize tyOf ci j = t at ht; cases t <;> first | rfl | cases ht) kk
-- ARRAYS
theorem ok_ald (a : Ac Γ p s m args meth c own cc nL rt) {i : Int} {k t len : Nat} (hk : k < n) (hc : kd k = (10 + t, len)) (hlen : len < 2147483648) (hi : 0 ≤ i ∧ i < len)
    (d : (t = 0 ∧ decode cc pc = .ok (.iaload, 1)) ∨ (t = 1 ∧ decode cc pc = .ok (.caload, 1)) ∨ (t = 2 ∧ decode cc pc = .ok (.saload, 1)) ∨ (t = 3 ∧ decode cc pc = .ok (.baload, 1))) (kk : OK Γ p l e R s m args below meth c n0 Q (pc + 1) L (vI (h k i) :: st) n g h) : OK Γ p l e R s m args below meth c n0 Q pc L (vI i :: vR k :: st) n g h := by
  intro H locs ls hH hS hL
  have k1 := kk H locs ls hH hS hL
  obtain ⟨hn, hP⟩ := hH
  have ht : t < 4 := by rcases d with d | d | d | d <;> omega
  have he := aw_at (Γ := Γ) (g := g) (h := h) hk
  rw [cw_arr hc ht] at he
  have hin := i32_in hi.1 hi.2 hlen
  have hcl := i32_cl hi.1 (by omega : i < 2147483648)
  have e2 : ((i.toNat : Nat) : Int) = i := Int.toNat_of_nonneg hi.1
  have k2 : W p l e R s m args below meth c H locs (n - n0) (sl n - sl n0) Q (F0 m (pc + 1) ls (.int ((fun j : Nat => Int32.ofInt (h k (j : Int))) (Int32.ofInt i).toNatClampNeg) :: st.map (enc Γ))) := by
    show W p l e R s m args below meth c H locs (n - n0) (sl n - sl n0) Q (F0 m (pc + 1) ls (.int (Int32.ofInt (h k (((Int32.ofInt i).toNatClampNeg : Nat) : Int))) :: st.map (enc Γ)))
    rw [hcl, e2]
    exact k1
  simp only [List.map_cons, enc_R (Γ := Γ) (show k < 1000 by omega)]
  have hK := a.2.2.2.2.2.2.2.1
  rcases d with ⟨rfl, d⟩ | ⟨rfl, d⟩ | ⟨rfl, d⟩ | ⟨rfl, d⟩
  · exact va_iald (D := Γ.1) a.1 a.2.1 hK hP k 0 he rfl hin d k2
  · exact va_cald (D := Γ.1) a.1 a.2.1 hK hP k 1 he rfl hin d k2
  · exact va_sald (D := Γ.1) a.1 a.2.1 hK hP k 2 he rfl hin d k2
  · exact va_zald (D := Γ.1) a.1 a.2.1 hK hP k 3 he rfl hin d k2
theorem ok_iald (a : Ac Γ p s m args meth c own cc nL rt) {i : Int} {k len : Nat} (d : decode cc pc = .ok (.iaload, 1)) (hk : k < n) (hc : kd k = (10, len)) (hlen : len < 2147483648) (hi : 0 ≤ i ∧ i < len) (kk : OK Γ p l e R s m args below meth c n0 Q (pc + 1) L (vI (h k i) :: st) n g h) : OK Γ p l e R s m args below meth c n0 Q pc L (vI i :: vR k :: st) n g h := ok_ald a (t := 0) hk hc hlen hi (Or.inl ⟨rfl, d⟩) kk
theorem ok_cald (a : Ac Γ p s m args meth c own cc nL rt) {i : Int} {k len : Nat} (d : decode cc pc = .ok (.caload, 1)) (hk : k < n) (hc : kd k = (11, len)) (hlen : len < 2147483648) (hi : 0 ≤ i ∧ i < len) (kk : OK Γ p l e R s m args below meth c n0 Q (pc + 1) L (vI (h k i) :: st) n g h) : OK Γ p l e R s m args below meth c n0 Q pc L (vI i :: vR k :: st) n g h := ok_ald a (t := 1) hk hc hlen hi (Or.inr (Or.inl ⟨rfl, d⟩)) kk
theorem ok_sald (a : Ac Γ p s m args meth c own cc nL rt) {i : Int} {k len : Nat} (d : decode cc pc = .ok (.saload, 1)) (hk : k < n) (hc : kd k = (12, len)) (hlen : len < 2147483648) (hi : 0 ≤ i ∧ i < len) (kk : OK Γ p l e R s m args below meth c n0 Q (pc + 1) L (vI (h k i) :: st) n g h) : OK Γ p l e R s m args below meth c n0 Q pc L (vI i :: vR k :: st) n g h := ok_ald a (t := 2) hk hc hlen hi (Or.inr (Or.inr (Or.inl ⟨rfl, d⟩))) kk
theorem ok_bald (a : Ac Γ p s m args meth c own cc nL rt) {i : Int} {k len : Nat} (d : decode cc pc = .ok (.baload, 1)) (hk : k < n) (hc : kd k = (13, len)) (hlen : len < 2147483648) (hi : 0 ≤ i ∧ i < len) (kk : OK Γ p l e R s m args below meth c n0 Q (pc + 1) L (vI (h k i) :: st) n g h) : OK Γ p l e R s m args below meth c n0 Q pc L (vI i :: vR k :: st) n g h := ok_ald a (t := 3) hk hc hlen hi (Or.inr (Or.inr (Or.inr ⟨rfl, d⟩))) kk
theorem vp_nar_c {x : Int} (hx : 0 ≤ x ∧ x < 65536) : vp_nar .char (Int32.ofInt x) = Int32.ofInt x := by
  unfold vp_nar
  rw [ofInt_nI hx.1, (pk_charN (by omega)).1]
theorem vp_nar_s {x : Int} (hx : 0 ≤ x ∧ x < 32768) : vp_nar .short (Int32.ofInt x) = Int32.ofInt x := by
  rw [vp_nar_short, i2s_id hx]
theorem vp_nar_z {x : Int} (hx : x = 0 ∨ x = 1) : vp_nar .boolean (Int32.ofInt x) = Int32.ofInt x := by
  rcases hx with rfl | rfl <;> decide
theorem ok_ast (a : Ac Γ p s m args meth c own cc nL rt) {i x : Int} {k t len : Nat} (hk : k < n) (hc : kd k = (10 + t, len)) (hlen : len < 2147483648) (hi : 0 ≤ i ∧ i < len)
    (d : (t = 0 ∧ decode cc pc = .ok (.iastore, 1)) ∨ (t = 1 ∧ decode cc pc = .ok (.castore, 1) ∧ 0 ≤ x ∧ x < 65536) ∨ (t = 2 ∧ decode cc pc = .ok (.sastore, 1) ∧ 0 ≤ x ∧ x < 32768) ∨ (t = 3 ∧ decode cc pc = .ok (.bastore, 1) ∧ (x = 0 ∨ x = 1))) (kk : OK Γ p l e R s m args below meth c n0 Q (pc + 1) L st n g (up h k i x)) : OK Γ p l e R s m args below meth c n0 Q pc L (vI x :: vI i :: vR k :: st) n g h := by
  intro H locs ls hH hS hL
  obtain ⟨hn, hP⟩ := hH
  have ht : t < 4 := by rcases d with d | d | d | d <;> omega
  have he := aw_at (Γ := Γ) (g := g) (h := h) hk
  rw [cw_arr hc ht] at he
  have hin := i32_in hi.1 hi.2 hlen
  have hcl := i32_cl hi.1 (by omega : i < 2147483648)
  have hf : upd (fun j : Nat => Int32.ofInt (h k (j : Int))) (Int32.ofInt i).toNatClampNeg (Int32.ofInt x) = fun j : Nat => Int32.ofInt (up h k i x k (j : Int)) := by
    funext j
    rw [hcl]
    by_cases hj : j = i.toNat
    · subst hj
      have e2 : ((i.toNat : Nat) : Int) = i := Int.toNat_of_nonneg hi.1
      simp [upd, up, e2]
    · have : ¬ (j : Int) = i := by omega
      simp [upd, up, hj, this]
  have hset : (aw Γ n g h).set k (Γ.2.2.1 + k, .inl (Γ.2.1 t, len, .inl (upd (fun j : Nat => Int32.ofInt (h k (j : Int))) (Int32.ofInt i).toNatClampNeg (Int32.ofInt x)))) = aw Γ n g (up h k i x) := by
    refine aw_set hk ?_ cw_oth
    rw [cw_arr hc ht, hf]
  have k1 : ∀ (H1 : Heap) (locs1 : List Loc), va_P Γ.1 vwCl ((aw Γ n g h).set k (Γ.2.2.1 + k, .inl (Γ.2.1 t, len, .inl (upd (fun j : Nat => Int32.ofInt (h k (j : Int))) (Int32.ofInt i).toNatClampNeg (Int32.ofInt x))))) H1 → va_D (AA Γ) ((aw Γ n g h).set k (Γ.2.2.1 + k, .inl (Γ.2.1 t, len, .inl (upd (fun j : Nat => Int32.ofInt (h k (j : Int))) (Int32.ofInt i).toNatClampNeg (Int32.ofInt x))))) → va_S (AA Γ) s.heap H1 locs1 → W p l e R s m args below meth c H1 locs1 (n - n0) (sl n - sl n0) Q (F0 m (pc + 1) ls (st.map (enc Γ))) := fun H1 locs1 q1 _ q3 => kk H1 locs1 ls ⟨hn, by rw [← hset]; exact q1⟩ q3 hL
  simp only [List.map_cons, enc_R (Γ := Γ) (show k < 1000 by omega)]
  have hK := a.2.2.2.2.2.2.2.1
  rcases d with ⟨rfl, d⟩ | ⟨rfl, d, hx⟩ | ⟨rfl, d, hx⟩ | ⟨rfl, d, hx⟩
  · exact va_iast (D := Γ.1) a.1 a.2.1 hK hP aw_D hS k 0 he rfl hin d k1
  · refine va_cast (D := Γ.1) a.1 a.2.1 hK hP aw_D hS k 1 he rfl hin d ?_
    rw [vp_nar_c hx]; exact k1
  · refine va_sast (D := Γ.1) a.1 a.2.1 hK hP aw_D hS k 2 he rfl hin d ?_
    rw [vp_nar_s hx]; exact k1
  · refine va_zast (D := Γ.1) a.1 a.2.1 hK hP aw_D hS k 3 he rfl hin d ?_
    rw [vp_nar_z hx]; exact k1
theorem ok_iast (a : Ac Γ p s m args meth c own cc nL rt) {i x : Int} {k len : Nat} (d : decode cc pc = .ok (.iastore, 1)) (hk : k < n) (hc : kd k = (10, len)) (hlen : len < 2147483648) (hi : 0 ≤ i ∧ i < len) (kk : OK Γ p l e R s m args below meth c n0 Q (pc + 1) L st n g (up h k i x)) : OK Γ p l e R s m args below meth c n0 Q pc L (vI x :: vI i :: vR k :: st) n g h := ok_ast a (t := 0) hk hc hlen hi (Or.inl ⟨rfl, d⟩) kk
theorem ok_cast (a : Ac Γ p s m args meth c own cc nL rt) {i x : Int} {k len : Nat} (d : decode cc pc = .ok (.castore, 1)) (hk : k < n) (hc : kd k = (11, len)) (hlen : len < 2147483648) (hi : 0 ≤ i ∧ i < len) (hx : 0 ≤ x ∧ x < 65536) (kk : OK Γ p l e R s m args below meth c n0 Q (pc + 1) L st n g (up h k i x)) : OK Γ p l e R s m args below meth c n0 Q pc L (vI x :: vI i :: vR k :: st) n g h := ok_ast a (t := 1) hk hc hlen hi (Or.inr (Or.inl ⟨rfl, d, hx⟩)) kk
theorem ok_sast (a : Ac Γ p s m args meth c own cc nL rt) {i x : Int} {k len : Nat} (d : decode cc pc = .ok (.sastore, 1)) (hk : k < n) (hc : kd k = (12, len)) (hlen : len < 2147483648) (hi : 0 ≤ i ∧ i < len) (hx : 0 ≤ x ∧ x < 32768) (kk : OK Γ p l e R s m args below meth c n0 Q (pc + 1) L st n g (up h k i x)) : OK Γ p l e R s m args below meth c n0 Q pc L (vI x :: vI i :: vR k :: st) n g h := ok_ast a (t := 2) hk hc hlen hi (Or.inr (Or.inr (Or.inl ⟨rfl, d, hx⟩))) kk
theorem ok_bast (a : Ac Γ p s m args meth c own cc nL rt) {i x : Int} {k len : Nat} (d : decode cc pc = .ok (.bastore, 1)) (hk : k < n) (hc : kd k = (13, len)) (hlen : len < 2147483648) (hi : 0 ≤ i ∧ i < len) (hx : x = 0 ∨ x = 1) (kk : OK Γ p l e R s m args below meth c n0 Q (pc + 1) L st n g (up h k i x)) : OK Γ p l e R s m args below meth c n0 Q pc L (vI x :: vI i :: vR k :: st) n g h := ok_ast a (t := 3) hk hc hlen hi (Or.inr (Or.inr (Or.inr ⟨rfl, d, hx⟩))) kk
theorem ok_aald (a : Ac Γ p s m args meth c own cc nL rt) {i : Int} {k len r : Nat} (d : decode cc pc = .ok (.aaload, 1)) (hk : k < n) (hc : kd k = (14, len)) (hlen : len < 2147483648) (hi : 0 ≤ i ∧ i < len) (hg : g k i = some r) (kk : OK Γ p l e R s m args below meth c n0 Q (pc + 1) L (vR r :: st) n g h) : OK Γ p l e R s m args below meth c n0 Q pc L (vI i :: vR k :: st) n g h := by
  intro H locs ls hH hS hL
  have k1 := kk H locs ls hH hS hL
  obtain ⟨hn, hP⟩ := hH
  have he := aw_at (Γ := Γ) (g := g) (h := h) hk
  rw [cw_ref hc] at he
  have hin := i32_in hi.1 hi.2 hlen
  have hcl := i32_cl hi.1 (by omega : i < 2147483648)
  have e2 : ((i.toNat : Nat) : Int) = i := Int.toNat_of_nonneg hi.1
  simp only [List.map_cons, enc_R (Γ := Γ) (show k < 1000 by omega)]
  refine va_aldq (D := Γ.1) a.1 a.2.1 a.2.2.2.2.2.2.2.1 hP k 4 he rfl hin d ?_
  show W p l e R s m args below meth c H locs (n - n0) (sl n - sl n0) Q (F0 m (pc + 1) ls (va_rf ((g k (((Int32.ofInt i).toNatClampNeg : Nat) : Int)).map (ad Γ)) :: st.map (enc Γ)))
  rw [hcl, e2, hg]
  exact k1
theorem ok_alen (a : Ac Γ p s m args meth c own cc nL rt) {k t len : Nat} (d : decode cc pc = .ok (.arraylength, 1)) (hk : k < n) (hc : kd k = (10 + t, len)) (ht : t < 4) (kk : OK Γ p l e R s m args below meth c n0 Q (pc + 1) L (vI (len : Int) :: st) n g h) : OK Γ p l e R s m args below meth c n0 Q pc L (vR k :: st) n g h := by
  intro H locs ls hH hS hL
  have k1 := kk H locs ls hH hS hL
  obtain ⟨hn, hP⟩ := hH
  have he := aw_at (Γ := Γ) (g := g) (h := h) hk
  rw [cw_arr hc ht] at he
  simp only [List.map_cons, enc_R (Γ := Γ) (show k < 1000 by omega)]
  have hty : ∃ ty, (tysG Γ)[t]? = some (Γ.2.1 t, ty) := by
    rcases (show t = 0 ∨ t = 1 ∨ t = 2 ∨ t = 3 by omega) with rfl | rfl | rfl | rfl <;> exact ⟨_, rfl⟩
  obtain ⟨ty, hty⟩ := hty
  exact va_alen (D := Γ.1) a.1 a.2.1 a.2.2.2.2.2.2.2.1 hP k t he hty (by show Int32.ofNat len = Int32.ofInt (len : Int); rw [ofInt_nI (by omega)]; rfl) d k1
def cpy (h : aH) (ks : Nat) (sp : Int) (kt : Nat) (dp len : Int) : aH := fun k i => if k = kt ∧ dp ≤ i ∧ i < dp + len then h ks (sp + (i - dp)) else h k i
def catA (v : aV) : Nat := match v with
  | .inr (.inl _) => 2
  | _ => 1
theorem cat_enc {Γ : Gm} (v : aV) : (enc Γ v).category = catA v := by
  rcases v with x | x | r
  · rfl
  · rfl
  · cases r <;> rfl
theorem cat_sum {Γ : Gm} (st : List aV) : ((st.map (enc Γ)).map (fun v => v.category)).sum = (st.map catA).sum := by
  rw [List.map_map]
  congr 1
  exact List.map_congr_left (fun v _ => cat_enc v)
def LkC (own : String) (idx : Nat) : Prop := Cond.methodLink own idx arraycopyName ∈ gtb ∧ Cond.native arraycopyName ∈ gtb ∧ Cond.static arraycopyName ∈ gtb ∧ Cond.initialized "java/lang/System" ∈ gtb
theorem ok_copy (a : Ac Γ p s m args meth c own cc nL rt) {idx ks kt n1 n2 : Nat} {sp dp len : Int} (d : decode cc pc = .ok (.invokestatic idx, 3)) (lk : LkC own idx) (hk1 : ks < n) (hk2 : kt < n) (hc1 : kd ks = (10, n1)) (hc2 : kd kt = (10, n2)) (hl1 : n1 < 2147483648) (hl2 : n2 < 2147483648) (h0 : 0 ≤ sp ∧ 0 ≤ dp ∧ 0 ≤ len ∧ sp + len ≤ n1 ∧ dp + len ≤ n2) (hfr : 1 ≤ R.frames) (hlo : (st.map catA).sum + (nativeFrameWords "java/lang/System" "arraycopy" 5 + 11) ≤ R.locals)
    (kk : OK Γ p l e R s m args below meth c n0 Q (pc + 3) L st n g (cpy h ks sp kt dp len)) : OK Γ p l e R s m args below meth c n0 Q pc L (vI len :: vI dp :: vR kt :: vI sp :: vR ks :: st) n g h := by
  intro H locs ls hH hS hL
  obtain ⟨hn, hP⟩ := hH
  have he1 := aw_at (Γ := Γ) (g := g) (h := h) hk1
  rw [cw_arr (t := 0) hc1 (by decide)] at he1
  have he2 := aw_at (Γ := Γ) (g := g) (h := h) hk2
  rw [cw_arr (t := 0) hc2 (by decide)] at he2
  have c1 := i32_cl h0.1 (by omega : sp < 2147483648)
  have c2 := i32_cl h0.2.1 (by omega : dp < 2147483648)
  have c3 := i32_cl h0.2.2.1 (by omega : len < 2147483648)
  have nn : ∀ z : Int, 0 ≤ z → z < 2147483648 → ¬ Int32.ofInt z < 0 := fun z hz hz2 q => by
    rw [i32_0, i32_lt ⟨by omega, by omega⟩ inR0] at q
    omega
  have hf : va_cpy (fun j : Nat => Int32.ofInt (h ks (j : Int))) (fun j : Nat => Int32.ofInt (h kt (j : Int))) sp.toNat dp.toNat len.toNat = fun j : Nat => Int32.ofInt (cpy h ks sp kt dp len kt (j : Int)) := by
    funext j
    by_cases hj : dp.toNat ≤ j ∧ j < dp.toNat + len.toNat
    · have : kt = kt ∧ dp ≤ (j : Int) ∧ (j : Int) < dp + len := ⟨rfl, by omega, by omega⟩
      have e9 : ((sp.toNat + (j - dp.toNat) : Nat) : Int) = sp + ((j : Int) - dp) := by omega
      show (if dp.toNat ≤ j ∧ j < dp.toNat + len.toNat then Int32.ofInt (h ks ((sp.toNat + (j - dp.toNat) : Nat) : Int)) else Int32.ofInt (h kt (j : Int))) = Int32.ofInt (if kt = kt ∧ dp ≤ (j : Int) ∧ (j : Int) < dp + len then h ks (sp + ((j : Int) - dp)) else h kt (j : Int))
      rw [if_pos hj, if_pos this, e9]
    · have : ¬ (kt = kt ∧ dp ≤ (j : Int) ∧ (j : Int) < dp + len) := fun q => hj ⟨by omega, by omega⟩
      show (if dp.toNat ≤ j ∧ j < dp.toNat + len.toNat then Int32.ofInt (h ks ((sp.toNat + (j - dp.toNat) : Nat) : Int)) else Int32.ofInt (h kt (j : Int))) = Int32.ofInt (if kt = kt ∧ dp ≤ (j : Int) ∧ (j : Int) < dp + len then h ks (sp + ((j : Int) - dp)) else h kt (j : Int))
      rw [if_neg hj, if_neg this]
  have hset : (aw Γ n g h).set kt (Γ.2.2.1 + kt, .inl (Γ.2.1 0, n2, .inl (va_cpy (fun j : Nat => Int32.ofInt (h ks (j : Int))) (fun j : Nat => Int32.ofInt (h kt (j : Int))) (Int32.ofInt sp).toNatClampNeg (Int32.ofInt dp).toNatClampNeg (Int32.ofInt len).toNatClampNeg))) = aw Γ n g (cpy h ks sp kt dp len) := by
    refine aw_set hk2 ?_ ?_
    · rw [cw_arr (t := 0) hc2 (by decide), c1, c2, c3, hf]
    · intro k' hk'
      have e : ∀ j, cpy h ks sp kt dp len k' j = h k' j := fun j => by simp [cpy, hk']
      unfold cw
      simp only [e]
  simp only [List.map_cons, enc_R (Γ := Γ) (show ks < 1000 by omega), enc_R (Γ := Γ) (show kt < 1000 by omega)]
  refine va_copyi (D := Γ.1) a.1 a.2.1 hL.1.symm a.2.2.2.2.2.1 (a.2.2.2.2.2.2.1 _ lk.1) (a.2.2.2.2.2.2.1 _ lk.2.1) (a.2.2.2.2.2.2.1 _ lk.2.2.1) (a.2.2.2.2.2.2.1 _ lk.2.2.2) a.2.2.2.2.2.2.2.1 hP aw_D hS ks kt 0 0 he1 he2 rfl rfl rfl (nn sp h0.1 (by omega)) (nn dp h0.2.1 (by omega)) (nn len h0.2.2.1 (by omega)) (by rw [c1, c3]; omega) (by rw [c2, c3]; omega) (fun _ _ => rfl) hfr (by rw [cat_sum]; exact hlo) d (fun H1 locs1 q1 _ q3 => ?_)
  exact kk H1 locs1 ls ⟨hn, by rw [← hset]; exact q1⟩ q3 hL
end HEAP
end
section
-- CONTRACTS
def wsy (y : MethodName) (cc : ByteArray) (nL : Nat) (rt : Option FieldType) : List Cond := Cond.code y cc nL rt :: gtb
def QQ (Γ : Gm) (nE : Nat) (Q : Option aV → aG → aH → Prop) : Array Value → State → Outcome → State → Prop := fun _ sT oc t => (∃ (v : Option aV) (g : aG) (h : aH), oc = .returned (v.map (enc Γ)) ∧ Q v g h ∧ HR Γ nE g h t.heap) ∧ va_F (AA Γ) sT t
def rmd (d n nE : Nat) : Room := { frames := d, cells := nE - n, slots := sl nE - sl n, locals := 40 * d }
abbrev MI : Type := MethodName × ByteArray × Nat × Option FieldType × Nat
/-- method y (name, code, locals, return type, depth) called with as: no cell is made, it returns, and Q holds of what it gives -/
def Cl (Γ : Gm) (l : Launch) (y : MI) (as : List aV) (n : Nat) (g : aG) (h : aH) (Q : Option aV → aG → aH → Prop) : Prop :=
  Met l y.1 (wsy y.1 y.2.1 y.2.2.1 y.2.2.2.1) (rmd y.2.2.2.2 n n) (va_Pc (as.map (enc Γ)) (fun U => HR Γ n g h U.heap ∧ KK Γ U)) (QQ Γ n Q) (n - n) (sl n - sl n) (AA Γ)
def entL (as : List aV) : List (Option aV) := match as with
  | [] => []
  | .inr (.inl x) :: vs => some (.inr (.inl x)) :: none :: entL vs
  | v :: vs => some v :: entL vs
theorem entL_mem {Γ : Gm} : ∀ (as : List aV) (o i : Nat) (v : aV), (entL as)[i]? = some (some v) → (o + i, enc Γ v) ∈ lv_args o (as.map (enc Γ))
  | [], o, i, v, h => by simp [entL] at h
  | .inl x :: vs, o, 0, v, h => by
    simp [entL] at h
    subst h
    exact List.mem_cons_self
  | .inl x :: vs, o, i + 1, v, h => by
    have h1 : (entL vs)[i]? = some (some v) := by simpa [entL] using h
    have := entL_mem (Γ := Γ) vs (o + 1) i v h1
    rw [show o + 1 + i = o + (i + 1) by omega] at this
    exact List.mem_cons_of_mem _ this
  | .inr (.inl x) :: vs, o, 0, v, h => by
    simp [entL] at h
    subst h
    exact List.mem_cons_self
  | .inr (.inl x) :: vs, o, 1, v, h => by simp [entL] at h
  | .inr (.inl x) :: vs, o, i + 2, v, h => by
    have h1 : (entL vs)[i]? = some (some v) := by simpa [entL] using h
    have := entL_mem (Γ := Γ) vs (o + 2) i v h1
    rw [show o + 2 + i = o + (i + 2) by omega] at this
    exact List.mem_cons_of_mem _ this
  | .inr (.inr x) :: vs, o, 0, v, h => by
    simp [entL] at h
    subst h
    exact List.mem_cons_self
  | .inr (.inr x) :: vs, o, i + 1, v, h => by
    have h1 : (entL vs)[i]? = some (some v) := by simpa [entL] using h
    have := entL_mem (Γ := Γ) vs (o + 1) i v h1
    rw [show o + 1 + i = o + (i + 1) by omega] at this
    have hc : (enc Γ (.inr (.inr x))).category = 1 := by rw [cat_enc]; rfl
    show _ ∈ (o, enc Γ (.inr (.inr x))) :: lv_args (if (enc Γ (.inr (.inr x))).category = 2 then o + 2 else o + 1) (vs.map (enc Γ))
    rw [if_neg (by rw [hc]; decide)]
    exact List.mem_cons_of_mem _ this
theorem lg_len {Γ : Gm} : ∀ as : List aV, (lg_sl (as.map (enc Γ))).length = (entL as).length
  | [] => rfl
  | .inl x :: vs => by simp [lg_sl, enc, entL, Value.category, ← lg_len (Γ := Γ) vs]
  | .inr (.inl x) :: vs => by simp [lg_sl, enc, entL, Value.category, ← lg_len (Γ := Γ) vs]
  | .inr (.inr none) :: vs => by simp [lg_sl, enc, entL, va_rf, Value.category, ← lg_len (Γ := Γ) vs]
  | .inr (.inr (some k)) :: vs => by simp [lg_sl, enc, entL, va_rf, Value.category, ← lg_len (Γ := Γ) vs]
theorem Cl.of {Γ : Gm} {l : Launch} {y : MethodName} {cc : ByteArray} {nL d : Nat} {rt : Option FieldType} {as : List aV} {n : Nat} {g : aG} {h : aH} {Q : Option aV → aG → aH → Prop} (hy : plainName y.cls = true) (L0 : List (Option aV)) (hL0 : entL as ++ List.replicate (nL - (entL as).length) none = L0) (hlen : (entL as).length ≤ nL)
    (body : ∀ (p : Program) (e : Env) (s : State) (m : MethodId) (args : Array Value) (below : List Frame) (meth : Method) (c : Code), Ac Γ p s m args meth c y.cls cc nL rt → OK Γ p l e (rmd d n n) s m args below meth c n (MQ below (QQ Γ n Q) args s (n - n) (sl n - sl n) (AA Γ)) 0 L0 [] n g h) : Cl Γ l (y, cc, nL, rt, d) as n g h Q := by
  refine Met.ofW (cc := cc) (maxL := nL) (ret := rt) hy rfl ?_
  intro p e s m args below meth c s₁ B hml hv
  obtain ⟨rfl, hH, hK⟩ := hv
  have hts := atoms_spec (ws := wsy y cc nL rt) B.pre
  have a : Ac Γ p s m (as.map (enc Γ)).toArray meth c y.cls cc nL rt := ⟨B.exec, B.bytes, hml, B.returns, B.notSynchronized, findClass_of_methodNamed B.named, fun w hw => hts w (List.mem_cons_of_mem _ hw), hK⟩
  have hl := lv_entry (as.map (enc Γ)) (n := nL) (by rw [lg_len]; exact hlen)
  rw [lg_entry_eq]
  generalize (lg_sl (as.map (enc Γ)) ++ List.replicate (nL - (lg_sl (as.map (enc Γ))).length) Slot.unset).toArray = ls at hl ⊢
  have hLR : LR Γ c.maxLocals L0 ls := by
    rw [hml]
    refine ⟨hl.1, hl.2.1, by rw [← hL0]; simp; omega, fun i v hi => ?_⟩
    rw [← hL0] at hi
    by_cases hlt : i < (entL as).length
    · rw [List.getElem?_append_left hlt] at hi
      have := entL_mem (Γ := Γ) as 0 i v hi
      rw [Nat.zero_add] at this
      exact hl.2.2 _ this
    · rw [List.getElem?_append_right (by omega)] at hi
      have := List.mem_of_getElem? hi
      rw [List.mem_replicate] at this
      cases this.2
  have k := body p e s m _ below meth c a s.heap [] ls hH va_S.rf hLR
  rw [Nat.sub_self, Nat.sub_self] at k
  rw [Nat.sub_self, Nat.sub_self]
  exact k
section CALL
variable {Γ : Gm} {p : Program} {l : Launch} {e : Env} {R : Room} {s : State} {m : MethodId} {args : Array Value} {below : List Frame} {meth : Method} {c : Code} {own : String} {cc : ByteArray} {nL : Nat} {rt : Option FieldType} {n0 : Nat} {Q : State → Prop} {pc : Nat} {L : List (Option aV)} {st : List aV} {n : Nat} {g : aG} {h : aH} {Q' : Option aV → aG → aH → Prop}
theorem ok_iret (a : Ac Γ p s m args meth c own cc nL (some .int)) {x : Int} (d : decode cc pc = .ok (.ireturn, 1)) (hq : Q' (some (vI x)) g h) : OK Γ p l e R s m args below meth c n0 (MQ below (QQ Γ n Q') args s (n - n0) (sl n - sl n0) (AA Γ)) pc L [vI x] n g h := by
  intro H locs ls hH hS hL
  exact W.iret a.1 a.2.1 a.2.2.2.1 (fun t ht _ => ⟨⟨some (vI x), g, h, rfl, hq, by rw [ht]; exact hH⟩, hS.F ht⟩) hS.2.2 d a.2.2.2.2.1
theorem ok_zret (a : Ac Γ p s m args meth c own cc nL (some .boolean)) {x : Int} (d : decode cc pc = .ok (.ireturn, 1)) (hx : x = 0 ∨ x = 1) (hq : Q' (some (vI x)) g h) : OK Γ p l e R s m args below meth c n0 (MQ below (QQ Γ n Q') args s (n - n0) (sl n - sl n0) (AA Γ)) pc L [vI x] n g h := by
  intro H locs ls hH hS hL
  exact W.zret a.1 a.2.1 a.2.2.2.1 (by rcases hx with rfl | rfl <;> rfl) (fun t ht _ => ⟨⟨some (vI x), g, h, rfl, hq, by rw [ht]; exact hH⟩, hS.F ht⟩) hS.2.2 d a.2.2.2.2.1
theorem ok_lret (a : Ac Γ p s m args meth c own cc nL (some .long)) {x : Int} (d : decode cc pc = .ok (.lreturn, 1)) (hq : Q' (some (vL x)) g h) : OK Γ p l e R s m args below meth c n0 (MQ below (QQ Γ n Q') args s (n - n0) (sl n - sl n0) (AA Γ)) pc L [vL x] n g h := by
  intro H locs ls hH hS hL
  exact W.lret a.1 a.2.1 a.2.2.2.1 (fun t ht _ => ⟨⟨some (vL x), g, h, rfl, hq, by rw [ht]; exact hH⟩, hS.F ht⟩) hS.2.2 d a.2.2.2.2.1
theorem ok_vret (a : Ac Γ p s m args meth c own cc nL none) (d : decode cc pc = .ok (.return_, 1)) (hq : Q' none g h) : OK Γ p l e R s m args below meth c n0 (MQ below (QQ Γ n Q') args s (n - n0) (sl n - sl n0) (AA Γ)) pc L [] n g h := by
  intro H locs ls hH hS hL
  exact W.vret a.1 a.2.1 a.2.2.2.1 (fun t ht _ => ⟨⟨none, g, h, rfl, hq, by rw [ht]; exact hH⟩, hS.F ht⟩) hS.2.2 d a.2.2.2.2.1
/-- the words of a call -/
def LkB (y : MI) (na : Nat) : Prop := Cond.initialized y.1.cls ∈ gtb ∧ Cond.code y.1 y.2.1 y.2.2.1 y.2.2.2.1 ∈ gtb ∧ (y.1.cls ≠ "java/lang/invoke/MethodHandle" ∧ y.1.cls ≠ "java/lang/invoke/VarHandle" ∧ (parseMethodDescriptor y.1.desc).map (fun d => d.parameters.length) = some na)
def LkM (own : String) (idx : Nat) (y : MI) : Prop := Cond.methodLink own idx y.1 ∈ gtb ∨ ∃ host, Cond.methodLinkNest own idx y.1 host ∈ lw_tbl
def LkV (own : String) (idx : Nat) (y : MI) (na : Nat) : Prop := LkB y na ∧ LkM own idx y ∧ Cond.instanceMethod y.1 ∈ gtb ∧ Cond.selects y.1.cls y.1 y.1 ∈ gtb
def LkS (own : String) (idx : Nat) (y : MI) (na : Nat) : Prop := LkB y na ∧ LkM own idx y ∧ Cond.static y.1 ∈ gtb
theorem good_wsy {y : MI} {na : Nat} (b : LkB y na) : GoodIn gtb (wsy y.1 y.2.1 y.2.2.1 y.2.2.2.1) := by
  intro w hw
  rcases List.mem_cons.mp hw with rfl | hw
  · exact ⟨b.2.1, gtb_good _ b.2.1⟩
  · exact ⟨hw, gtb_good _ hw⟩
theorem blind_pc {as : List Value} : FrameBlind (va_Pc as (fun U => HR Γ n g h U.heap ∧ KK Γ U)) := fun _ _ _ _ q => ⟨q.1, q.2.1, q.2.2.blind⟩
/-- behind any call -/
theorem ok_run {mc ms : Nat} {q0 : aH} {st0 : List aV} {as : Array Value} (hmc : mc = 0) (hms : ms = 0) (hr : ∀ (H : Heap) (locs : List Loc) (ls : Array Slot), HR Γ n g h H → va_S (AA Γ) s.heap H locs → LR Γ c.maxLocals L ls → va_Run p l e R s m args below meth c H locs (n - n0) (sl n - sl n0) mc ms (F0 m pc ls (st0.map (enc Γ))) (st.map (enc Γ)) (QQ Γ n Q' as) (AA Γ))
    (kk : ∀ v g' h', Q' v g' h' → OK Γ p l e R s m args below meth c n0 Q (pc + 3) L (v.toList ++ st) n g' h') : OK Γ p l e R s m args below meth c n0 Q pc L st0 n g h := by
  intro H locs ls hH hS hL T hT X
  obtain ⟨v, st₀, t, T', L1, h0, X', hL1, e1, e2, ⟨⟨v', g', h', hv, hq, hh⟩, hz, hkp⟩, stp⟩ := hr H locs ls hH hS hL T hT X
  have hv' : v = v'.map (enc Γ) := by injection hv
  subst hv' hmc hms
  rw [h0] at hz hkp
  obtain ⟨t2, a1, b1⟩ := kk v' g' h' hq T'.heap (locs ++ L1) ls (by rw [e1]; exact hh) ⟨Nat.le_trans hS.1 (by rw [e1]; exact hz), fun q h1 h2 => by rw [e1, hkp q (Nat.lt_of_lt_of_le h1 hS.1) h2]; exact hS.2.1 q h1 h2, fun q hq => by
      rcases List.mem_append.mp hq with h | h
      · exact hS.2.2 q h
      · exact hL1 q h⟩ hL T' rfl X'
  refine ⟨t2, stp t2 ?_, b1⟩
  have e9 : (v'.toList ++ st).map (enc Γ) = (v'.map (enc Γ)).toList ++ st.map (enc Γ) := by
    rw [List.map_append]
    cases v' <;> rfl
  rw [e9] at a1
  exact a1
theorem ok_callV (a : Ac Γ p s m args meth c own cc nL rt) {y : MI} {na idx k ci : Nat} {as : List aV} (M : Cl Γ l y (vR k :: as) n g h Q') (d : decode cc pc = .ok (.invokevirtual idx, 3)) (lk : LkV own idx y na) (hna : as.length = na) (hk : k < n) (hc : (kd k).1 = ci) (hci : ci < 10) (hC : cC ci = y.1.cls) (hR : y.2.2.2.2 + 1 ≤ R.frames ∧ 8 + (y.2.2.1 + 11) + 40 * y.2.2.2.2 ≤ R.locals) (hn0 : n0 = n) (hst : (st.map catA).sum ≤ 8)
    (kk : ∀ v g' h', Q' v g' h' → OK Γ p l e R s m args below meth c n0 Q (pc + 3) L (v.toList ++ st) n g' h') : OK Γ p l e R s m args below meth c n0 Q pc L (as.reverse ++ vR k :: st) n g h := by
  subst hn0
  obtain ⟨lb, lm, li, ls0⟩ := lk
  refine ok_run (q0 := h) (as := (Value.ref (ad Γ k) :: as.map (enc Γ)).toArray) (Nat.sub_self n0) (Nat.sub_self (sl n0)) (fun H locs ls hH hS hL => ?_) kk
  have hts := a.2.2.2.2.2.2.1
  have hcf := cf_all hci
  have hkn : k < 1000 := Nat.lt_of_lt_of_le hk hH.1
  have he := aw_at (Γ := Γ) (g := g) (h := h) hk
  rw [cw_obj hc hci] at he
  have hrc := va_recv a.2.2.2.2.2.2.2.1 hH.2 hcf.1 he
  rw [← ad_lt (Γ := Γ) hkn] at hrc
  have hpre : PreV s H y.1.cls (ad Γ k) (va_Pc ((vR k :: as).map (enc Γ)) (fun U => HR Γ n0 g h U.heap ∧ KK Γ U)) (as.map (enc Γ)) := ⟨blind_pc, by rw [← hC]; exact hrc, fun U hU hW => ⟨rfl, by rw [hU]; exact hH, a.2.2.2.2.2.2.2.go hS hU hW⟩⟩
  have hstk : (F0 m pc ls ((as.reverse ++ vR k :: st).map (enc Γ))).stack = (as.map (enc Γ)).reverse ++ .ref (ad Γ k) :: st.map (enc Γ) := by
    show (as.reverse ++ vR k :: st).map (enc Γ) = _
    rw [List.map_append, List.map_reverse]
    rfl
  have hf : (n0 - n0) + (n0 - n0) ≤ R.cells ∧ (sl n0 - sl n0) + (sl n0 - sl n0) ≤ R.slots := by simp
  have hw8 : 2 * (F0 m pc ls ((as.reverse ++ vR k :: st).map (enc Γ))).monitorRoom + ((st.map (enc Γ)).map fun v => v.category).sum ≤ 8 := lv_room (by rw [cat_sum]; exact hst)
  rcases lm with lm | ⟨host, lm⟩
  · have cb := callB_of (R := R) (s := s) (args := args) (own := own) (index := idx) (rm := rmd y.2.2.2.2 n0 n0) na hts (good_wsy lb) rfl rfl rfl (hts _ lb.1) (hts _ lm) lb.2.2 hR
    exact va_runV ⟨a.1, a.2.1, a.2.2.1, a.2.2.2.2.2.1, hts⟩ M ⟨cb, hts _ li, hts _ ls0⟩ hpre rfl (by rw [List.length_map]; exact hna) (by rw [← a.2.2.1]; exact hL.1) hstk hw8 d hf
  · have cb := va_cnB (R := R) (s := s) (args := args) (own := own) (index := idx) (host := host) (rm := rmd y.2.2.2.2 n0 n0) na hts (good_wsy lb) rfl rfl rfl (a.2.2.2.2.2.2.2.2.1 _ lm rfl) (hts _ lb.1) lb.2.2 hR
    exact va_runVN ⟨a.1, a.2.1, a.2.2.1, a.2.2.2.2.2.1, hts⟩ M ⟨cb, hts _ li, hts _ ls0⟩ hpre rfl (by rw [List.length_map]; exact hna) (by rw [← a.2.2.1]; exact hL.1) hstk hw8 d hf
theorem ok_callS (a : Ac Γ p s m args meth c own cc nL rt) {y : MI} {na idx : Nat} {as : List aV} (M : Cl Γ l y as n g h Q') (d : decode cc pc = .ok (.invokestatic idx, 3)) (lk : LkS own idx y na) (hna : as.length = na) (hR : y.2.2.2.2 + 1 ≤ R.frames ∧ 8 + (y.2.2.1 + 11) + 40 * y.2.2.2.2 ≤ R.locals) (hn0 : n0 = n) (hst : (st.map catA).sum ≤ 8)
    (kk : ∀ v g' h', Q' v g' h' → OK Γ p l e R s m args below meth c n0 Q (pc + 3) L (v.toList ++ st) n g' h') : OK Γ p l e R s m args below meth c n0 Q pc L (as.reverse ++ st) n g h := by
  subst hn0
  obtain ⟨lb, lm, li⟩ := lk
  refine ok_run (q0 := h) (as := (as.map (enc Γ)).toArray) (Nat.sub_self n0) (Nat.sub_self (sl n0)) (fun H locs ls hH hS hL => ?_) kk
  have hts := a.2.2.2.2.2.2.1
  have hpre : PreS s H (va_Pc (as.map (enc Γ)) (fun U => HR Γ n0 g h U.heap ∧ KK Γ U)) (as.map (enc Γ)) := ⟨blind_pc, fun U hU hW => ⟨rfl, by rw [hU]; exact hH, a.2.2.2.2.2.2.2.go hS hU hW⟩⟩
  have hstk : (F0 m pc ls ((as.reverse ++ st).map (enc Γ))).stack = (as.map (enc Γ)).reverse ++ st.map (enc Γ) := by
    show (as.reverse ++ st).map (enc Γ) = _
    rw [List.map_append, List.map_reverse]
  have hf : (n0 - n0) + (n0 - n0) ≤ R.cells ∧ (sl n0 - sl n0) + (sl n0 - sl n0) ≤ R.slots := by simp
  have hw8 : 2 * (F0 m pc ls ((as.reverse ++ st).map (enc Γ))).monitorRoom + ((st.map (enc Γ)).map fun v => v.category).sum ≤ 8 := lv_room (by rw [cat_sum]; exact hst)
  rcases lm with lm | ⟨host, lm⟩
  · have cb := callB_of (R := R) (s := s) (args := args) (own := own) (index := idx) (rm := rmd y.2.2.2.2 n0 n0) na hts (good_wsy lb) rfl rfl rfl (hts _ lb.1) (hts _ lm) lb.2.2 hR
    exact va_runS ⟨a.1, a.2.1, a.2.2.1, a.2.2.2.2.2.1, hts⟩ M ⟨cb, hts _ li⟩ hpre rfl (by rw [List.length_map]; exact hna) (by rw [← a.2.2.1]; exact hL.1) hstk hw8 d hf
  · have cb := va_cnB (R := R) (s := s) (args := args) (own := own) (index := idx) (host := host) (rm := rmd y.2.2.2.2 n0 n0) na hts (good_wsy lb) rfl rfl rfl (a.2.2.2.2.2.2.2.2.1 _ lm rfl) (hts _ lb.1) lb.2.2 hR
    exact va_runSN ⟨a.1, a.2.1, a.2.2.1, a.2.2.2.2.2.1, hts⟩ M ⟨cb, hts _ li, trivial⟩ hpre rfl (by rw [List.length_map]; exact hna) (by rw [← a.2.2.1]; exact hL.1) hstk hw8 d hf
end CALL
-- LOOPS of the pictures
def lpN {σ : Type} (F : (σ → Prop) → σ → Prop) : Nat → σ → Prop
  | 0 => fun _ => False
  | k + 1 => fun x => F (lpN F k) x
def lp {σ : Type} (F : (σ → Prop) → σ → Prop) (x : σ) : Prop := ∃ k, lpN F k x
theorem lp.use {σ : Type} {F : (σ → Prop) → σ → Prop} {P : σ → Prop} (step : ∀ (X : σ → Prop), (∀ y, X y → P y) → ∀ y, F X y → P y) : ∀ x, lp F x → P x := by
  intro x hx
  obtain ⟨k, hk⟩ := hx
  revert x
  induction k with
  | zero => intro x h; exact absurd h (by simp [lpN])
  | succ k ih => intro x h; exact step (lpN F k) ih x h
theorem lp.rule {σ : Type} {F : (σ → Prop) → σ → Prop} (μ : σ → Nat) (I : σ → Prop) (step : ∀ (X : σ → Prop) (y : σ), I y → (∀ z, I z → μ z < μ y → X z) → F X y) (x : σ) (hx : I x) : lp F x := by
  have key : ∀ (k : Nat) (y : σ), I y → μ y < k → lpN F k y := by
    intro k
    induction k with
    | zero => intro y _ h; omega
    | succ k ih => intro y hy h; exact step _ y hy (fun z hz hlt => ih z hz (by omega))
  exact ⟨μ x + 1, key _ x hx (by omega)⟩
end
