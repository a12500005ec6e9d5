theorem dX0_init_0 : decode cX0_init 0 = .ok (.aload_n 0, 1) := by decide +kernel
theorem dX0_init_1 : decode cX0_init 1 = .ok (.invokespecial 3, 3) := by decide +kernel
theorem dX0_init_4 : decode cX0_init 4 = .ok (.aload_n 0, 1) := by decide +kernel
theorem dX0_init_5 : decode cX0_init 5 = .ok (.bipush 32, 2) := by decide +kernel
theorem dX0_init_7 : decode cX0_init 7 = .ok (.newarray .int, 2) := by decide +kernel
theorem dX0_init_9 : decode cX0_init 9 = .ok (.putfield 11, 3) := by decide +kernel
theorem dX0_init_12 : decode cX0_init 12 = .ok (.aload_n 0, 1) := by decide +kernel
theorem dX0_init_13 : decode cX0_init 13 = .ok (.sipush 301, 3) := by decide +kernel
theorem dX0_init_16 : decode cX0_init 16 = .ok (.newarray .int, 2) := by decide +kernel
theorem dX0_init_18 : decode cX0_init 18 = .ok (.putfield 15, 3) := by decide +kernel
theorem dX0_init_21 : decode cX0_init 21 = .ok (.return_, 1) := by decide +kernel
theorem dX0_layOut_0 : decode cX0_layOut 0 = .ok (.iconst 1, 1) := by decide +kernel
theorem dX0_layOut_1 : decode cX0_layOut 1 = .ok (.aload_n 1, 1) := by decide +kernel
theorem dX0_layOut_2 : decode cX0_layOut 2 = .ok (.getfield 18, 3) := by decide +kernel
theorem dX0_layOut_5 : decode cX0_layOut 5 = .ok (.ishl, 1) := by decide +kernel
theorem dX0_layOut_6 : decode cX0_layOut 6 = .ok (.istore_n 2, 1) := by decide +kernel
theorem dX0_layOut_7 : decode cX0_layOut 7 = .ok (.iconst 0, 1) := by decide +kernel
theorem dX0_layOut_8 : decode cX0_layOut 8 = .ok (.istore_n 3, 1) := by decide +kernel
theorem dX0_layOut_9 : decode cX0_layOut 9 = .ok (.iload_n 3, 1) := by decide +kernel
theorem dX0_layOut_10 : decode cX0_layOut 10 = .ok (.iload_n 2, 1) := by decide +kernel
theorem dX0_layOut_11 : decode cX0_layOut 11 = .ok (.if_icmp .ge 20, 3) := by decide +kernel
theorem dX0_layOut_14 : decode cX0_layOut 14 = .ok (.aload_n 0, 1) := by decide +kernel
theorem dX0_layOut_15 : decode cX0_layOut 15 = .ok (.getfield 11, 3) := by decide +kernel
theorem dX0_layOut_18 : decode cX0_layOut 18 = .ok (.iload_n 3, 1) := by decide +kernel
theorem dX0_layOut_19 : decode cX0_layOut 19 = .ok (.iload_n 3, 1) := by decide +kernel
theorem dX0_layOut_20 : decode cX0_layOut 20 = .ok (.aload_n 1, 1) := by decide +kernel
theorem dX0_layOut_21 : decode cX0_layOut 21 = .ok (.invokestatic 24, 3) := by decide +kernel
theorem dX0_layOut_24 : decode cX0_layOut 24 = .ok (.iastore, 1) := by decide +kernel
theorem dX0_layOut_25 : decode cX0_layOut 25 = .ok (.iinc 3 1, 3) := by decide +kernel
theorem dX0_layOut_28 : decode cX0_layOut 28 = .ok (.goto (-19), 3) := by decide +kernel
theorem dX0_layOut_31 : decode cX0_layOut 31 = .ok (.aload_n 0, 1) := by decide +kernel
theorem dX0_layOut_32 : decode cX0_layOut 32 = .ok (.getfield 15, 3) := by decide +kernel
theorem dX0_layOut_35 : decode cX0_layOut 35 = .ok (.bipush (-9), 2) := by decide +kernel
theorem dX0_layOut_37 : decode cX0_layOut 37 = .ok (.invokestatic 28, 3) := by decide +kernel
theorem dX0_layOut_40 : decode cX0_layOut 40 = .ok (.iconst 0, 1) := by decide +kernel
theorem dX0_layOut_41 : decode cX0_layOut 41 = .ok (.istore_n 3, 1) := by decide +kernel
theorem dX0_layOut_42 : decode cX0_layOut 42 = .ok (.iload_n 3, 1) := by decide +kernel
theorem dX0_layOut_43 : decode cX0_layOut 43 = .ok (.iload_n 2, 1) := by decide +kernel
theorem dX0_layOut_44 : decode cX0_layOut 44 = .ok (.if_icmp .ge 38, 3) := by decide +kernel
theorem dX0_layOut_47 : decode cX0_layOut 47 = .ok (.iconst 0, 1) := by decide +kernel
theorem dX0_layOut_48 : decode cX0_layOut 48 = .ok (.istore 4, 2) := by decide +kernel
theorem dX0_layOut_50 : decode cX0_layOut 50 = .ok (.iload 4, 2) := by decide +kernel
theorem dX0_layOut_52 : decode cX0_layOut 52 = .ok (.iload_n 2, 1) := by decide +kernel
theorem dX0_layOut_53 : decode cX0_layOut 53 = .ok (.if_icmp .ge 23, 3) := by decide +kernel
theorem dX0_layOut_56 : decode cX0_layOut 56 = .ok (.iload_n 3, 1) := by decide +kernel
theorem dX0_layOut_57 : decode cX0_layOut 57 = .ok (.iload 4, 2) := by decide +kernel
theorem dX0_layOut_59 : decode cX0_layOut 59 = .ok (.iand, 1) := by decide +kernel
theorem dX0_layOut_60 : decode cX0_layOut 60 = .ok (.ifCond .ne 10, 3) := by decide +kernel
theorem dX0_layOut_63 : decode cX0_layOut 63 = .ok (.aload_n 0, 1) := by decide +kernel
theorem dX0_layOut_64 : decode cX0_layOut 64 = .ok (.iload_n 3, 1) := by decide +kernel
theorem dX0_layOut_65 : decode cX0_layOut 65 = .ok (.iload 4, 2) := by decide +kernel
theorem dX0_layOut_67 : decode cX0_layOut 67 = .ok (.invokevirtual 34, 3) := by decide +kernel
theorem dX0_layOut_70 : decode cX0_layOut 70 = .ok (.iinc 4 1, 3) := by decide +kernel
theorem dX0_layOut_73 : decode cX0_layOut 73 = .ok (.goto (-23), 3) := by decide +kernel
theorem dX0_layOut_76 : decode cX0_layOut 76 = .ok (.iinc 3 1, 3) := by decide +kernel
theorem dX0_layOut_79 : decode cX0_layOut 79 = .ok (.goto (-37), 3) := by decide +kernel
theorem dX0_layOut_82 : decode cX0_layOut 82 = .ok (.return_, 1) := by decide +kernel
theorem dX0_canWeigh_0 : decode cX0_canWeigh 0 = .ok (.aload_n 0, 1) := by decide +kernel
theorem dX0_canWeigh_1 : decode cX0_canWeigh 1 = .ok (.getfield 15, 3) := by decide +kernel
theorem dX0_canWeigh_4 : decode cX0_canWeigh 4 = .ok (.iload_n 1, 1) := by decide +kernel
theorem dX0_canWeigh_5 : decode cX0_canWeigh 5 = .ok (.iaload, 1) := by decide +kernel
theorem dX0_canWeigh_6 : decode cX0_canWeigh 6 = .ok (.bipush (-9), 2) := by decide +kernel
theorem dX0_canWeigh_8 : decode cX0_canWeigh 8 = .ok (.if_icmp .eq 7, 3) := by decide +kernel
theorem dX0_canWeigh_11 : decode cX0_canWeigh 11 = .ok (.iconst 1, 1) := by decide +kernel
theorem dX0_canWeigh_12 : decode cX0_canWeigh 12 = .ok (.goto 4, 3) := by decide +kernel
theorem dX0_canWeigh_15 : decode cX0_canWeigh 15 = .ok (.iconst 0, 1) := by decide +kernel
theorem dX0_canWeigh_16 : decode cX0_canWeigh 16 = .ok (.ireturn, 1) := by decide +kernel
theorem dX0_fewestPieces_0 : decode cX0_fewestPieces 0 = .ok (.aload_n 0, 1) := by decide +kernel
theorem dX0_fewestPieces_1 : decode cX0_fewestPieces 1 = .ok (.getfield 15, 3) := by decide +kernel
theorem dX0_fewestPieces_4 : decode cX0_fewestPieces 4 = .ok (.iload_n 1, 1) := by decide +kernel
theorem dX0_fewestPieces_5 : decode cX0_fewestPieces 5 = .ok (.iaload, 1) := by decide +kernel
theorem dX0_fewestPieces_6 : decode cX0_fewestPieces 6 = .ok (.invokestatic 38, 3) := by decide +kernel
theorem dX0_fewestPieces_9 : decode cX0_fewestPieces 9 = .ok (.ireturn, 1) := by decide +kernel
theorem dX0_heavierPan_0 : decode cX0_heavierPan 0 = .ok (.aload_n 0, 1) := by decide +kernel
theorem dX0_heavierPan_1 : decode cX0_heavierPan 1 = .ok (.getfield 15, 3) := by decide +kernel
theorem dX0_heavierPan_4 : decode cX0_heavierPan 4 = .ok (.iload_n 1, 1) := by decide +kernel
theorem dX0_heavierPan_5 : decode cX0_heavierPan 5 = .ok (.iaload, 1) := by decide +kernel
theorem dX0_heavierPan_6 : decode cX0_heavierPan 6 = .ok (.iconst 5, 1) := by decide +kernel
theorem dX0_heavierPan_7 : decode cX0_heavierPan 7 = .ok (.ishr, 1) := by decide +kernel
theorem dX0_heavierPan_8 : decode cX0_heavierPan 8 = .ok (.ireturn, 1) := by decide +kernel
theorem dX0_otherPan_0 : decode cX0_otherPan 0 = .ok (.aload_n 0, 1) := by decide +kernel
theorem dX0_otherPan_1 : decode cX0_otherPan 1 = .ok (.getfield 15, 3) := by decide +kernel
theorem dX0_otherPan_4 : decode cX0_otherPan 4 = .ok (.iload_n 1, 1) := by decide +kernel
theorem dX0_otherPan_5 : decode cX0_otherPan 5 = .ok (.iaload, 1) := by decide +kernel
theorem dX0_otherPan_6 : decode cX0_otherPan 6 = .ok (.bipush 31, 2) := by decide +kernel
theorem dX0_otherPan_8 : decode cX0_otherPan 8 = .ok (.iand, 1) := by decide +kernel
theorem dX0_otherPan_9 : decode cX0_otherPan 9 = .ok (.ireturn, 1) := by decide +kernel
theorem dX0_range_0 : decode cX0_range 0 = .ok (.iconst 0, 1) := by decide +kernel
theorem dX0_range_1 : decode cX0_range 1 = .ok (.istore_n 1, 1) := by decide +kernel
theorem dX0_range_2 : decode cX0_range 2 = .ok (.iload_n 1, 1) := by decide +kernel
theorem dX0_range_3 : decode cX0_range 3 = .ok (.sipush 300, 3) := by decide +kernel
theorem dX0_range_6 : decode cX0_range 6 = .ok (.if_icmp .ge 19, 3) := by decide +kernel
theorem dX0_range_9 : decode cX0_range 9 = .ok (.aload_n 0, 1) := by decide +kernel
theorem dX0_range_10 : decode cX0_range 10 = .ok (.iload_n 1, 1) := by decide +kernel
theorem dX0_range_11 : decode cX0_range 11 = .ok (.iconst 1, 1) := by decide +kernel
theorem dX0_range_12 : decode cX0_range 12 = .ok (.iadd, 1) := by decide +kernel
theorem dX0_range_13 : decode cX0_range 13 = .ok (.invokevirtual 44, 3) := by decide +kernel
theorem dX0_range_16 : decode cX0_range 16 = .ok (.ifCond .eq 9, 3) := by decide +kernel
theorem dX0_range_19 : decode cX0_range 19 = .ok (.iinc 1 1, 3) := by decide +kernel
theorem dX0_range_22 : decode cX0_range 22 = .ok (.goto (-20), 3) := by decide +kernel
theorem dX0_range_25 : decode cX0_range 25 = .ok (.iload_n 1, 1) := by decide +kernel
theorem dX0_range_26 : decode cX0_range 26 = .ok (.ireturn, 1) := by decide +kernel
theorem dX0_offer_0 : decode cX0_offer 0 = .ok (.aload_n 0, 1) := by decide +kernel
theorem dX0_offer_1 : decode cX0_offer 1 = .ok (.getfield 11, 3) := by decide +kernel
theorem dX0_offer_4 : decode cX0_offer 4 = .ok (.iload_n 1, 1) := by decide +kernel
theorem dX0_offer_5 : decode cX0_offer 5 = .ok (.iaload, 1) := by decide +kernel
theorem dX0_offer_6 : decode cX0_offer 6 = .ok (.aload_n 0, 1) := by decide +kernel
theorem dX0_offer_7 : decode cX0_offer 7 = .ok (.getfield 11, 3) := by decide +kernel
theorem dX0_offer_10 : decode cX0_offer 10 = .ok (.iload_n 2, 1) := by decide +kernel
theorem dX0_offer_11 : decode cX0_offer 11 = .ok (.iaload, 1) := by decide +kernel
theorem dX0_offer_12 : decode cX0_offer 12 = .ok (.isub, 1) := by decide +kernel
theorem dX0_offer_13 : decode cX0_offer 13 = .ok (.istore_n 3, 1) := by decide +kernel
theorem dX0_offer_14 : decode cX0_offer 14 = .ok (.iload_n 3, 1) := by decide +kernel
theorem dX0_offer_15 : decode cX0_offer 15 = .ok (.iconst 0, 1) := by decide +kernel
theorem dX0_offer_16 : decode cX0_offer 16 = .ok (.sipush 300, 3) := by decide +kernel
theorem dX0_offer_19 : decode cX0_offer 19 = .ok (.invokestatic 48, 3) := by decide +kernel
theorem dX0_offer_22 : decode cX0_offer 22 = .ok (.ifCond .ne 4, 3) := by decide +kernel
theorem dX0_offer_25 : decode cX0_offer 25 = .ok (.return_, 1) := by decide +kernel
theorem dX0_offer_26 : decode cX0_offer 26 = .ok (.iload_n 1, 1) := by decide +kernel
theorem dX0_offer_27 : decode cX0_offer 27 = .ok (.iconst 5, 1) := by decide +kernel
theorem dX0_offer_28 : decode cX0_offer 28 = .ok (.ishl, 1) := by decide +kernel
theorem dX0_offer_29 : decode cX0_offer 29 = .ok (.iload_n 2, 1) := by decide +kernel
theorem dX0_offer_30 : decode cX0_offer 30 = .ok (.ior, 1) := by decide +kernel
theorem dX0_offer_31 : decode cX0_offer 31 = .ok (.istore 4, 2) := by decide +kernel
theorem dX0_offer_33 : decode cX0_offer 33 = .ok (.aload_n 0, 1) := by decide +kernel
theorem dX0_offer_34 : decode cX0_offer 34 = .ok (.iload_n 3, 1) := by decide +kernel
theorem dX0_offer_35 : decode cX0_offer 35 = .ok (.invokevirtual 44, 3) := by decide +kernel
theorem dX0_offer_38 : decode cX0_offer 38 = .ok (.ifCond .eq 16, 3) := by decide +kernel
theorem dX0_offer_41 : decode cX0_offer 41 = .ok (.iload 4, 2) := by decide +kernel
theorem dX0_offer_43 : decode cX0_offer 43 = .ok (.invokestatic 38, 3) := by decide +kernel
theorem dX0_offer_46 : decode cX0_offer 46 = .ok (.aload_n 0, 1) := by decide +kernel
theorem dX0_offer_47 : decode cX0_offer 47 = .ok (.iload_n 3, 1) := by decide +kernel
theorem dX0_offer_48 : decode cX0_offer 48 = .ok (.invokevirtual 52, 3) := by decide +kernel
theorem dX0_offer_51 : decode cX0_offer 51 = .ok (.if_icmp .ge 11, 3) := by decide +kernel
theorem dX0_offer_54 : decode cX0_offer 54 = .ok (.aload_n 0, 1) := by decide +kernel
theorem dX0_offer_55 : decode cX0_offer 55 = .ok (.getfield 15, 3) := by decide +kernel
theorem dX0_offer_58 : decode cX0_offer 58 = .ok (.iload_n 3, 1) := by decide +kernel
theorem dX0_offer_59 : decode cX0_offer 59 = .ok (.iload 4, 2) := by decide +kernel
theorem dX0_offer_61 : decode cX0_offer 61 = .ok (.iastore, 1) := by decide +kernel
theorem dX0_offer_62 : decode cX0_offer 62 = .ok (.return_, 1) := by decide +kernel
theorem dX0_weigh_0 : decode cX0_weigh 0 = .ok (.iconst 0, 1) := by decide +kernel
theorem dX0_weigh_1 : decode cX0_weigh 1 = .ok (.istore_n 2, 1) := by decide +kernel
theorem dX0_weigh_2 : decode cX0_weigh 2 = .ok (.iconst 0, 1) := by decide +kernel
theorem dX0_weigh_3 : decode cX0_weigh 3 = .ok (.istore_n 3, 1) := by decide +kernel
theorem dX0_weigh_4 : decode cX0_weigh 4 = .ok (.iload_n 3, 1) := by decide +kernel
theorem dX0_weigh_5 : decode cX0_weigh 5 = .ok (.aload_n 1, 1) := by decide +kernel
theorem dX0_weigh_6 : decode cX0_weigh 6 = .ok (.getfield 18, 3) := by decide +kernel
theorem dX0_weigh_9 : decode cX0_weigh 9 = .ok (.if_icmp .ge 27, 3) := by decide +kernel
theorem dX0_weigh_12 : decode cX0_weigh 12 = .ok (.iload_n 0, 1) := by decide +kernel
theorem dX0_weigh_13 : decode cX0_weigh 13 = .ok (.iload_n 3, 1) := by decide +kernel
theorem dX0_weigh_14 : decode cX0_weigh 14 = .ok (.ishr, 1) := by decide +kernel
theorem dX0_weigh_15 : decode cX0_weigh 15 = .ok (.iconst 1, 1) := by decide +kernel
theorem dX0_weigh_16 : decode cX0_weigh 16 = .ok (.iand, 1) := by decide +kernel
theorem dX0_weigh_17 : decode cX0_weigh 17 = .ok (.iconst 1, 1) := by decide +kernel
theorem dX0_weigh_18 : decode cX0_weigh 18 = .ok (.if_icmp .ne 12, 3) := by decide +kernel
theorem dX0_weigh_21 : decode cX0_weigh 21 = .ok (.iload_n 2, 1) := by decide +kernel
theorem dX0_weigh_22 : decode cX0_weigh 22 = .ok (.aload_n 1, 1) := by decide +kernel
theorem dX0_weigh_23 : decode cX0_weigh 23 = .ok (.getfield 55, 3) := by decide +kernel
theorem dX0_weigh_26 : decode cX0_weigh 26 = .ok (.iload_n 3, 1) := by decide +kernel
theorem dX0_weigh_27 : decode cX0_weigh 27 = .ok (.iaload, 1) := by decide +kernel
theorem dX0_weigh_28 : decode cX0_weigh 28 = .ok (.iadd, 1) := by decide +kernel
theorem dX0_weigh_29 : decode cX0_weigh 29 = .ok (.istore_n 2, 1) := by decide +kernel
theorem dX0_weigh_30 : decode cX0_weigh 30 = .ok (.iinc 3 1, 3) := by decide +kernel
theorem dX0_weigh_33 : decode cX0_weigh 33 = .ok (.goto (-29), 3) := by decide +kernel
theorem dX0_weigh_36 : decode cX0_weigh 36 = .ok (.iload_n 2, 1) := by decide +kernel
theorem dX0_weigh_37 : decode cX0_weigh 37 = .ok (.ireturn, 1) := by decide +kernel
theorem dX1_init_0 : decode cX1_init 0 = .ok (.aload_n 0, 1) := by decide +kernel
theorem dX1_init_1 : decode cX1_init 1 = .ok (.invokespecial 5, 3) := by decide +kernel
theorem dX1_init_4 : decode cX1_init 4 = .ok (.aload_n 0, 1) := by decide +kernel
theorem dX1_init_5 : decode cX1_init 5 = .ok (.bipush 6, 2) := by decide +kernel
theorem dX1_init_7 : decode cX1_init 7 = .ok (.newarray .int, 2) := by decide +kernel
theorem dX1_init_9 : decode cX1_init 9 = .ok (.putfield 11, 3) := by decide +kernel
theorem dX1_init_12 : decode cX1_init 12 = .ok (.aload_n 0, 1) := by decide +kernel
theorem dX1_init_13 : decode cX1_init 13 = .ok (.bipush 6, 2) := by decide +kernel
theorem dX1_init_15 : decode cX1_init 15 = .ok (.newarray .int, 2) := by decide +kernel
theorem dX1_init_17 : decode cX1_init 17 = .ok (.putfield 15, 3) := by decide +kernel
theorem dX1_init_20 : decode cX1_init 20 = .ok (.aload_n 0, 1) := by decide +kernel
theorem dX1_init_21 : decode cX1_init 21 = .ok (.bipush 6, 2) := by decide +kernel
theorem dX1_init_23 : decode cX1_init 23 = .ok (.newarray .int, 2) := by decide +kernel
theorem dX1_init_25 : decode cX1_init 25 = .ok (.putfield 18, 3) := by decide +kernel
theorem dX1_init_28 : decode cX1_init 28 = .ok (.aload_n 0, 1) := by decide +kernel
theorem dX1_init_29 : decode cX1_init 29 = .ok (.bipush 6, 2) := by decide +kernel
theorem dX1_init_31 : decode cX1_init 31 = .ok (.newarray .int, 2) := by decide +kernel
theorem dX1_init_33 : decode cX1_init 33 = .ok (.putfield 21, 3) := by decide +kernel
theorem dX1_init_36 : decode cX1_init 36 = .ok (.aload_n 0, 1) := by decide +kernel
theorem dX1_init_37 : decode cX1_init 37 = .ok (.bipush 6, 2) := by decide +kernel
theorem dX1_init_39 : decode cX1_init 39 = .ok (.newarray .int, 2) := by decide +kernel
theorem dX1_init_41 : decode cX1_init 41 = .ok (.putfield 24, 3) := by decide +kernel
theorem dX1_init_44 : decode cX1_init 44 = .ok (.aload_n 0, 1) := by decide +kernel
theorem dX1_init_45 : decode cX1_init 45 = .ok (.sipush 721, 3) := by decide +kernel
theorem dX1_init_48 : decode cX1_init 48 = .ok (.newarray .int, 2) := by decide +kernel
theorem dX1_init_50 : decode cX1_init 50 = .ok (.putfield 27, 3) := by decide +kernel
theorem dX1_init_53 : decode cX1_init 53 = .ok (.return_, 1) := by decide +kernel
theorem dX1_begin_0 : decode cX1_begin 0 = .ok (.aload_n 0, 1) := by decide +kernel
theorem dX1_begin_1 : decode cX1_begin 1 = .ok (.invokevirtual 30, 3) := by decide +kernel
theorem dX1_begin_4 : decode cX1_begin 4 = .ok (.aload_n 0, 1) := by decide +kernel
theorem dX1_begin_5 : decode cX1_begin 5 = .ok (.iconst 0, 1) := by decide +kernel
theorem dX1_begin_6 : decode cX1_begin 6 = .ok (.putfield 33, 3) := by decide +kernel
theorem dX1_begin_9 : decode cX1_begin 9 = .ok (.return_, 1) := by decide +kernel
theorem dX1_addShown_0 : decode cX1_addShown 0 = .ok (.aload_n 0, 1) := by decide +kernel
theorem dX1_addShown_1 : decode cX1_addShown 1 = .ok (.getfield 37, 3) := by decide +kernel
theorem dX1_addShown_4 : decode cX1_addShown 4 = .ok (.bipush 6, 2) := by decide +kernel
theorem dX1_addShown_6 : decode cX1_addShown 6 = .ok (.if_icmp .lt 5, 3) := by decide +kernel
theorem dX1_addShown_9 : decode cX1_addShown 9 = .ok (.iconst 0, 1) := by decide +kernel
theorem dX1_addShown_10 : decode cX1_addShown 10 = .ok (.ireturn, 1) := by decide +kernel
theorem dX1_addShown_11 : decode cX1_addShown 11 = .ok (.aload_n 0, 1) := by decide +kernel
theorem dX1_addShown_12 : decode cX1_addShown 12 = .ok (.getfield 11, 3) := by decide +kernel
theorem dX1_addShown_15 : decode cX1_addShown 15 = .ok (.aload_n 0, 1) := by decide +kernel
theorem dX1_addShown_16 : decode cX1_addShown 16 = .ok (.getfield 37, 3) := by decide +kernel
theorem dX1_addShown_19 : decode cX1_addShown 19 = .ok (.iload_n 1, 1) := by decide +kernel
theorem dX1_addShown_20 : decode cX1_addShown 20 = .ok (.iastore, 1) := by decide +kernel
theorem dX1_addShown_21 : decode cX1_addShown 21 = .ok (.aload_n 0, 1) := by decide +kernel
theorem dX1_addShown_22 : decode cX1_addShown 22 = .ok (.getfield 15, 3) := by decide +kernel
theorem dX1_addShown_25 : decode cX1_addShown 25 = .ok (.aload_n 0, 1) := by decide +kernel
theorem dX1_addShown_26 : decode cX1_addShown 26 = .ok (.getfield 37, 3) := by decide +kernel
theorem dX1_addShown_29 : decode cX1_addShown 29 = .ok (.iload_n 2, 1) := by decide +kernel
theorem dX1_addShown_30 : decode cX1_addShown 30 = .ok (.iastore, 1) := by decide +kernel
theorem dX1_addShown_31 : decode cX1_addShown 31 = .ok (.aload_n 0, 1) := by decide +kernel
theorem dX1_addShown_32 : decode cX1_addShown 32 = .ok (.getfield 18, 3) := by decide +kernel
theorem dX1_addShown_35 : decode cX1_addShown 35 = .ok (.aload_n 0, 1) := by decide +kernel
theorem dX1_addShown_36 : decode cX1_addShown 36 = .ok (.getfield 37, 3) := by decide +kernel
theorem dX1_addShown_39 : decode cX1_addShown 39 = .ok (.iload_n 3, 1) := by decide +kernel
theorem dX1_addShown_40 : decode cX1_addShown 40 = .ok (.iastore, 1) := by decide +kernel
theorem dX1_addShown_41 : decode cX1_addShown 41 = .ok (.aload_n 0, 1) := by decide +kernel
theorem dX1_addShown_42 : decode cX1_addShown 42 = .ok (.dup, 1) := by decide +kernel
theorem dX1_addShown_43 : decode cX1_addShown 43 = .ok (.getfield 37, 3) := by decide +kernel
theorem dX1_addShown_46 : decode cX1_addShown 46 = .ok (.iconst 1, 1) := by decide +kernel
theorem dX1_addShown_47 : decode cX1_addShown 47 = .ok (.iadd, 1) := by decide +kernel
theorem dX1_addShown_48 : decode cX1_addShown 48 = .ok (.putfield 37, 3) := by decide +kernel
theorem dX1_addShown_51 : decode cX1_addShown 51 = .ok (.iconst 1, 1) := by decide +kernel
theorem dX1_addShown_52 : decode cX1_addShown 52 = .ok (.ireturn, 1) := by decide +kernel
theorem dX1_addSeen_0 : decode cX1_addSeen 0 = .ok (.aload_n 0, 1) := by decide +kernel
theorem dX1_addSeen_1 : decode cX1_addSeen 1 = .ok (.getfield 41, 3) := by decide +kernel
theorem dX1_addSeen_4 : decode cX1_addSeen 4 = .ok (.bipush 6, 2) := by decide +kernel
theorem dX1_addSeen_6 : decode cX1_addSeen 6 = .ok (.if_icmp .lt 5, 3) := by decide +kernel
theorem dX1_addSeen_9 : decode cX1_addSeen 9 = .ok (.iconst 0, 1) := by decide +kernel
theorem dX1_addSeen_10 : decode cX1_addSeen 10 = .ok (.ireturn, 1) := by decide +kernel
theorem dX1_addSeen_11 : decode cX1_addSeen 11 = .ok (.aload_n 0, 1) := by decide +kernel
theorem dX1_addSeen_12 : decode cX1_addSeen 12 = .ok (.getfield 21, 3) := by decide +kernel
theorem dX1_addSeen_15 : decode cX1_addSeen 15 = .ok (.aload_n 0, 1) := by decide +kernel
theorem dX1_addSeen_16 : decode cX1_addSeen 16 = .ok (.getfield 41, 3) := by decide +kernel
theorem dX1_addSeen_19 : decode cX1_addSeen 19 = .ok (.iload_n 1, 1) := by decide +kernel
theorem dX1_addSeen_20 : decode cX1_addSeen 20 = .ok (.iastore, 1) := by decide +kernel
theorem dX1_addSeen_21 : decode cX1_addSeen 21 = .ok (.aload_n 0, 1) := by decide +kernel
theorem dX1_addSeen_22 : decode cX1_addSeen 22 = .ok (.getfield 24, 3) := by decide +kernel
theorem dX1_addSeen_25 : decode cX1_addSeen 25 = .ok (.aload_n 0, 1) := by decide +kernel
theorem dX1_addSeen_26 : decode cX1_addSeen 26 = .ok (.getfield 41, 3) := by decide +kernel
theorem dX1_addSeen_29 : decode cX1_addSeen 29 = .ok (.iload_n 2, 1) := by decide +kernel
theorem dX1_addSeen_30 : decode cX1_addSeen 30 = .ok (.iastore, 1) := by decide +kernel
theorem dX1_addSeen_31 : decode cX1_addSeen 31 = .ok (.aload_n 0, 1) := by decide +kernel
theorem dX1_addSeen_32 : decode cX1_addSeen 32 = .ok (.dup, 1) := by decide +kernel
theorem dX1_addSeen_33 : decode cX1_addSeen 33 = .ok (.getfield 41, 3) := by decide +kernel
theorem dX1_addSeen_36 : decode cX1_addSeen 36 = .ok (.iconst 1, 1) := by decide +kernel
theorem dX1_addSeen_37 : decode cX1_addSeen 37 = .ok (.iadd, 1) := by decide +kernel
theorem dX1_addSeen_38 : decode cX1_addSeen 38 = .ok (.putfield 41, 3) := by decide +kernel
theorem dX1_addSeen_41 : decode cX1_addSeen 41 = .ok (.iconst 1, 1) := by decide +kernel
theorem dX1_addSeen_42 : decode cX1_addSeen 42 = .ok (.ireturn, 1) := by decide +kernel
theorem dX1_dropRecords_0 : decode cX1_dropRecords 0 = .ok (.aload_n 0, 1) := by decide +kernel
theorem dX1_dropRecords_1 : decode cX1_dropRecords 1 = .ok (.iconst 0, 1) := by decide +kernel
theorem dX1_dropRecords_2 : decode cX1_dropRecords 2 = .ok (.putfield 37, 3) := by decide +kernel
theorem dX1_dropRecords_5 : decode cX1_dropRecords 5 = .ok (.aload_n 0, 1) := by decide +kernel
theorem dX1_dropRecords_6 : decode cX1_dropRecords 6 = .ok (.iconst 0, 1) := by decide +kernel
theorem dX1_dropRecords_7 : decode cX1_dropRecords 7 = .ok (.putfield 41, 3) := by decide +kernel
theorem dX1_dropRecords_10 : decode cX1_dropRecords 10 = .ok (.return_, 1) := by decide +kernel
theorem dX1_prepareWays_0 : decode cX1_prepareWays 0 = .ok (.aload_n 0, 1) := by decide +kernel
theorem dX1_prepareWays_1 : decode cX1_prepareWays 1 = .ok (.getfield 33, 3) := by decide +kernel
theorem dX1_prepareWays_4 : decode cX1_prepareWays 4 = .ok (.ifCond .eq 4, 3) := by decide +kernel
theorem dX1_prepareWays_7 : decode cX1_prepareWays 7 = .ok (.return_, 1) := by decide +kernel
theorem dX1_prepareWays_8 : decode cX1_prepareWays 8 = .ok (.aload_n 0, 1) := by decide +kernel
theorem dX1_prepareWays_9 : decode cX1_prepareWays 9 = .ok (.iconst 1, 1) := by decide +kernel
theorem dX1_prepareWays_10 : decode cX1_prepareWays 10 = .ok (.putfield 33, 3) := by decide +kernel
theorem dX1_prepareWays_13 : decode cX1_prepareWays 13 = .ok (.aload_n 0, 1) := by decide +kernel
theorem dX1_prepareWays_14 : decode cX1_prepareWays 14 = .ok (.getfield 27, 3) := by decide +kernel
theorem dX1_prepareWays_17 : decode cX1_prepareWays 17 = .ok (.iconst 0, 1) := by decide +kernel
theorem dX1_prepareWays_18 : decode cX1_prepareWays 18 = .ok (.invokestatic 44, 3) := by decide +kernel
theorem dX1_prepareWays_21 : decode cX1_prepareWays 21 = .ok (.iconst 0, 1) := by decide +kernel
theorem dX1_prepareWays_22 : decode cX1_prepareWays 22 = .ok (.istore_n 2, 1) := by decide +kernel
theorem dX1_prepareWays_23 : decode cX1_prepareWays 23 = .ok (.iload_n 2, 1) := by decide +kernel
theorem dX1_prepareWays_24 : decode cX1_prepareWays 24 = .ok (.bipush 9, 2) := by decide +kernel
theorem dX1_prepareWays_26 : decode cX1_prepareWays 26 = .ok (.if_icmp .gt 93, 3) := by decide +kernel
theorem dX1_prepareWays_29 : decode cX1_prepareWays 29 = .ok (.iconst 0, 1) := by decide +kernel
theorem dX1_prepareWays_30 : decode cX1_prepareWays 30 = .ok (.istore_n 3, 1) := by decide +kernel
theorem dX1_prepareWays_31 : decode cX1_prepareWays 31 = .ok (.iload_n 3, 1) := by decide +kernel
theorem dX1_prepareWays_32 : decode cX1_prepareWays 32 = .ok (.bipush 9, 2) := by decide +kernel
theorem dX1_prepareWays_34 : decode cX1_prepareWays 34 = .ok (.if_icmp .gt 79, 3) := by decide +kernel
theorem dX1_prepareWays_37 : decode cX1_prepareWays 37 = .ok (.iconst 0, 1) := by decide +kernel
theorem dX1_prepareWays_38 : decode cX1_prepareWays 38 = .ok (.istore 4, 2) := by decide +kernel
theorem dX1_prepareWays_40 : decode cX1_prepareWays 40 = .ok (.iload 4, 2) := by decide +kernel
theorem dX1_prepareWays_42 : decode cX1_prepareWays 42 = .ok (.bipush 9, 2) := by decide +kernel
theorem dX1_prepareWays_44 : decode cX1_prepareWays 44 = .ok (.if_icmp .gt 63, 3) := by decide +kernel
theorem dX1_prepareWays_47 : decode cX1_prepareWays 47 = .ok (.iload_n 2, 1) := by decide +kernel
theorem dX1_prepareWays_48 : decode cX1_prepareWays 48 = .ok (.aload_n 1, 1) := by decide +kernel
theorem dX1_prepareWays_49 : decode cX1_prepareWays 49 = .ok (.iconst 0, 1) := by decide +kernel
theorem dX1_prepareWays_50 : decode cX1_prepareWays 50 = .ok (.iaload, 1) := by decide +kernel
theorem dX1_prepareWays_51 : decode cX1_prepareWays 51 = .ok (.imul, 1) := by decide +kernel
theorem dX1_prepareWays_52 : decode cX1_prepareWays 52 = .ok (.iload_n 3, 1) := by decide +kernel
theorem dX1_prepareWays_53 : decode cX1_prepareWays 53 = .ok (.aload_n 1, 1) := by decide +kernel
theorem dX1_prepareWays_54 : decode cX1_prepareWays 54 = .ok (.iconst 1, 1) := by decide +kernel
theorem dX1_prepareWays_55 : decode cX1_prepareWays 55 = .ok (.iaload, 1) := by decide +kernel
theorem dX1_prepareWays_56 : decode cX1_prepareWays 56 = .ok (.imul, 1) := by decide +kernel
theorem dX1_prepareWays_57 : decode cX1_prepareWays 57 = .ok (.iadd, 1) := by decide +kernel
theorem dX1_prepareWays_58 : decode cX1_prepareWays 58 = .ok (.iload 4, 2) := by decide +kernel
theorem dX1_prepareWays_60 : decode cX1_prepareWays 60 = .ok (.aload_n 1, 1) := by decide +kernel
theorem dX1_prepareWays_61 : decode cX1_prepareWays 61 = .ok (.iconst 2, 1) := by decide +kernel
theorem dX1_prepareWays_62 : decode cX1_prepareWays 62 = .ok (.iaload, 1) := by decide +kernel
theorem dX1_prepareWays_63 : decode cX1_prepareWays 63 = .ok (.imul, 1) := by decide +kernel
theorem dX1_prepareWays_64 : decode cX1_prepareWays 64 = .ok (.iadd, 1) := by decide +kernel
theorem dX1_prepareWays_65 : decode cX1_prepareWays 65 = .ok (.istore 5, 2) := by decide +kernel
theorem dX1_prepareWays_67 : decode cX1_prepareWays 67 = .ok (.iconst 0, 1) := by decide +kernel
theorem dX1_prepareWays_68 : decode cX1_prepareWays 68 = .ok (.istore 6, 2) := by decide +kernel
theorem dX1_prepareWays_70 : decode cX1_prepareWays 70 = .ok (.iload 6, 2) := by decide +kernel
theorem dX1_prepareWays_72 : decode cX1_prepareWays 72 = .ok (.bipush 9, 2) := by decide +kernel
theorem dX1_prepareWays_74 : decode cX1_prepareWays 74 = .ok (.if_icmp .gt 27, 3) := by decide +kernel
theorem dX1_prepareWays_77 : decode cX1_prepareWays 77 = .ok (.aload_n 0, 1) := by decide +kernel
theorem dX1_prepareWays_78 : decode cX1_prepareWays 78 = .ok (.getfield 27, 3) := by decide +kernel
theorem dX1_prepareWays_81 : decode cX1_prepareWays 81 = .ok (.iload 5, 2) := by decide +kernel
theorem dX1_prepareWays_83 : decode cX1_prepareWays 83 = .ok (.iload 6, 2) := by decide +kernel
theorem dX1_prepareWays_85 : decode cX1_prepareWays 85 = .ok (.aload_n 1, 1) := by decide +kernel
theorem dX1_prepareWays_86 : decode cX1_prepareWays 86 = .ok (.iconst 3, 1) := by decide +kernel
theorem dX1_prepareWays_87 : decode cX1_prepareWays 87 = .ok (.iaload, 1) := by decide +kernel
theorem dX1_prepareWays_88 : decode cX1_prepareWays 88 = .ok (.imul, 1) := by decide +kernel
theorem dX1_prepareWays_89 : decode cX1_prepareWays 89 = .ok (.iadd, 1) := by decide +kernel
theorem dX1_prepareWays_90 : decode cX1_prepareWays 90 = .ok (.dup2, 1) := by decide +kernel
theorem dX1_prepareWays_91 : decode cX1_prepareWays 91 = .ok (.iaload, 1) := by decide +kernel
theorem dX1_prepareWays_92 : decode cX1_prepareWays 92 = .ok (.iconst 1, 1) := by decide +kernel
theorem dX1_prepareWays_93 : decode cX1_prepareWays 93 = .ok (.iadd, 1) := by decide +kernel
theorem dX1_prepareWays_94 : decode cX1_prepareWays 94 = .ok (.iastore, 1) := by decide +kernel
theorem dX1_prepareWays_95 : decode cX1_prepareWays 95 = .ok (.iinc 6 1, 3) := by decide +kernel
theorem dX1_prepareWays_98 : decode cX1_prepareWays 98 = .ok (.goto (-28), 3) := by decide +kernel
theorem dX1_prepareWays_101 : decode cX1_prepareWays 101 = .ok (.iinc 4 1, 3) := by decide +kernel
theorem dX1_prepareWays_104 : decode cX1_prepareWays 104 = .ok (.goto (-64), 3) := by decide +kernel
theorem dX1_prepareWays_107 : decode cX1_prepareWays 107 = .ok (.iinc 3 1, 3) := by decide +kernel
theorem dX1_prepareWays_110 : decode cX1_prepareWays 110 = .ok (.goto (-79), 3) := by decide +kernel
theorem dX1_prepareWays_113 : decode cX1_prepareWays 113 = .ok (.iinc 2 1, 3) := by decide +kernel
theorem dX1_prepareWays_116 : decode cX1_prepareWays 116 = .ok (.goto (-93), 3) := by decide +kernel
theorem dX1_prepareWays_119 : decode cX1_prepareWays 119 = .ok (.return_, 1) := by decide +kernel
theorem dX1_lowestOf_0 : decode cX1_lowestOf 0 = .ok (.iconst 0, 1) := by decide +kernel
theorem dX1_lowestOf_1 : decode cX1_lowestOf 1 = .ok (.istore_n 2, 1) := by decide +kernel
theorem dX1_lowestOf_2 : decode cX1_lowestOf 2 = .ok (.iconst 0, 1) := by decide +kernel
theorem dX1_lowestOf_3 : decode cX1_lowestOf 3 = .ok (.istore_n 3, 1) := by decide +kernel
theorem dX1_lowestOf_4 : decode cX1_lowestOf 4 = .ok (.iload_n 3, 1) := by decide +kernel
theorem dX1_lowestOf_5 : decode cX1_lowestOf 5 = .ok (.aload_n 0, 1) := by decide +kernel
theorem dX1_lowestOf_6 : decode cX1_lowestOf 6 = .ok (.getfield 37, 3) := by decide +kernel
theorem dX1_lowestOf_9 : decode cX1_lowestOf 9 = .ok (.if_icmp .ge 65, 3) := by decide +kernel
theorem dX1_lowestOf_12 : decode cX1_lowestOf 12 = .ok (.aload_n 0, 1) := by decide +kernel
theorem dX1_lowestOf_13 : decode cX1_lowestOf 13 = .ok (.getfield 11, 3) := by decide +kernel
theorem dX1_lowestOf_16 : decode cX1_lowestOf 16 = .ok (.iload_n 3, 1) := by decide +kernel
theorem dX1_lowestOf_17 : decode cX1_lowestOf 17 = .ok (.iaload, 1) := by decide +kernel
theorem dX1_lowestOf_18 : decode cX1_lowestOf 18 = .ok (.iload_n 1, 1) := by decide +kernel
theorem dX1_lowestOf_19 : decode cX1_lowestOf 19 = .ok (.if_icmp .ne 49, 3) := by decide +kernel
theorem dX1_lowestOf_22 : decode cX1_lowestOf 22 = .ok (.aload_n 0, 1) := by decide +kernel
theorem dX1_lowestOf_23 : decode cX1_lowestOf 23 = .ok (.getfield 18, 3) := by decide +kernel
theorem dX1_lowestOf_26 : decode cX1_lowestOf 26 = .ok (.iload_n 3, 1) := by decide +kernel
theorem dX1_lowestOf_27 : decode cX1_lowestOf 27 = .ok (.iaload, 1) := by decide +kernel
theorem dX1_lowestOf_28 : decode cX1_lowestOf 28 = .ok (.iconst 2, 1) := by decide +kernel
theorem dX1_lowestOf_29 : decode cX1_lowestOf 29 = .ok (.if_icmp .eq 39, 3) := by decide +kernel
theorem dX1_lowestOf_32 : decode cX1_lowestOf 32 = .ok (.aload_n 0, 1) := by decide +kernel
theorem dX1_lowestOf_33 : decode cX1_lowestOf 33 = .ok (.getfield 18, 3) := by decide +kernel
theorem dX1_lowestOf_36 : decode cX1_lowestOf 36 = .ok (.iload_n 3, 1) := by decide +kernel
theorem dX1_lowestOf_37 : decode cX1_lowestOf 37 = .ok (.iaload, 1) := by decide +kernel
theorem dX1_lowestOf_38 : decode cX1_lowestOf 38 = .ok (.iconst 1, 1) := by decide +kernel
theorem dX1_lowestOf_39 : decode cX1_lowestOf 39 = .ok (.if_icmp .ne 14, 3) := by decide +kernel
theorem dX1_lowestOf_42 : decode cX1_lowestOf 42 = .ok (.aload_n 0, 1) := by decide +kernel
theorem dX1_lowestOf_43 : decode cX1_lowestOf 43 = .ok (.getfield 15, 3) := by decide +kernel
theorem dX1_lowestOf_46 : decode cX1_lowestOf 46 = .ok (.iload_n 3, 1) := by decide +kernel
theorem dX1_lowestOf_47 : decode cX1_lowestOf 47 = .ok (.iaload, 1) := by decide +kernel
theorem dX1_lowestOf_48 : decode cX1_lowestOf 48 = .ok (.iconst 1, 1) := by decide +kernel
theorem dX1_lowestOf_49 : decode cX1_lowestOf 49 = .ok (.iadd, 1) := by decide +kernel
theorem dX1_lowestOf_50 : decode cX1_lowestOf 50 = .ok (.goto 9, 3) := by decide +kernel
theorem dX1_lowestOf_53 : decode cX1_lowestOf 53 = .ok (.aload_n 0, 1) := by decide +kernel
theorem dX1_lowestOf_54 : decode cX1_lowestOf 54 = .ok (.getfield 15, 3) := by decide +kernel
theorem dX1_lowestOf_57 : decode cX1_lowestOf 57 = .ok (.iload_n 3, 1) := by decide +kernel
theorem dX1_lowestOf_58 : decode cX1_lowestOf 58 = .ok (.iaload, 1) := by decide +kernel
theorem dX1_lowestOf_59 : decode cX1_lowestOf 59 = .ok (.istore 4, 2) := by decide +kernel
theorem dX1_lowestOf_61 : decode cX1_lowestOf 61 = .ok (.iload_n 2, 1) := by decide +kernel
theorem dX1_lowestOf_62 : decode cX1_lowestOf 62 = .ok (.iload 4, 2) := by decide +kernel
theorem dX1_lowestOf_64 : decode cX1_lowestOf 64 = .ok (.invokestatic 50, 3) := by decide +kernel
theorem dX1_lowestOf_67 : decode cX1_lowestOf 67 = .ok (.istore_n 2, 1) := by decide +kernel
theorem dX1_lowestOf_68 : decode cX1_lowestOf 68 = .ok (.iinc 3 1, 3) := by decide +kernel
theorem dX1_lowestOf_71 : decode cX1_lowestOf 71 = .ok (.goto (-67), 3) := by decide +kernel
theorem dX1_lowestOf_74 : decode cX1_lowestOf 74 = .ok (.iload_n 2, 1) := by decide +kernel
theorem dX1_lowestOf_75 : decode cX1_lowestOf 75 = .ok (.ireturn, 1) := by decide +kernel
theorem dX1_highestOf_0 : decode cX1_highestOf 0 = .ok (.sipush 720, 3) := by decide +kernel
theorem dX1_highestOf_3 : decode cX1_highestOf 3 = .ok (.istore_n 2, 1) := by decide +kernel
theorem dX1_highestOf_4 : decode cX1_highestOf 4 = .ok (.iconst 0, 1) := by decide +kernel
theorem dX1_highestOf_5 : decode cX1_highestOf 5 = .ok (.istore_n 3, 1) := by decide +kernel
theorem dX1_highestOf_6 : decode cX1_highestOf 6 = .ok (.iload_n 3, 1) := by decide +kernel
theorem dX1_highestOf_7 : decode cX1_highestOf 7 = .ok (.aload_n 0, 1) := by decide +kernel
theorem dX1_highestOf_8 : decode cX1_highestOf 8 = .ok (.getfield 37, 3) := by decide +kernel
theorem dX1_highestOf_11 : decode cX1_highestOf 11 = .ok (.if_icmp .ge 65, 3) := by decide +kernel
theorem dX1_highestOf_14 : decode cX1_highestOf 14 = .ok (.aload_n 0, 1) := by decide +kernel
theorem dX1_highestOf_15 : decode cX1_highestOf 15 = .ok (.getfield 11, 3) := by decide +kernel
theorem dX1_highestOf_18 : decode cX1_highestOf 18 = .ok (.iload_n 3, 1) := by decide +kernel
theorem dX1_highestOf_19 : decode cX1_highestOf 19 = .ok (.iaload, 1) := by decide +kernel
theorem dX1_highestOf_20 : decode cX1_highestOf 20 = .ok (.iload_n 1, 1) := by decide +kernel
theorem dX1_highestOf_21 : decode cX1_highestOf 21 = .ok (.if_icmp .ne 49, 3) := by decide +kernel
theorem dX1_highestOf_24 : decode cX1_highestOf 24 = .ok (.aload_n 0, 1) := by decide +kernel
theorem dX1_highestOf_25 : decode cX1_highestOf 25 = .ok (.getfield 18, 3) := by decide +kernel
theorem dX1_highestOf_28 : decode cX1_highestOf 28 = .ok (.iload_n 3, 1) := by decide +kernel
theorem dX1_highestOf_29 : decode cX1_highestOf 29 = .ok (.iaload, 1) := by decide +kernel
theorem dX1_highestOf_30 : decode cX1_highestOf 30 = .ok (.iconst 1, 1) := by decide +kernel
theorem dX1_highestOf_31 : decode cX1_highestOf 31 = .ok (.if_icmp .eq 39, 3) := by decide +kernel
theorem dX1_highestOf_34 : decode cX1_highestOf 34 = .ok (.aload_n 0, 1) := by decide +kernel
theorem dX1_highestOf_35 : decode cX1_highestOf 35 = .ok (.getfield 18, 3) := by decide +kernel
theorem dX1_highestOf_38 : decode cX1_highestOf 38 = .ok (.iload_n 3, 1) := by decide +kernel
theorem dX1_highestOf_39 : decode cX1_highestOf 39 = .ok (.iaload, 1) := by decide +kernel
theorem dX1_highestOf_40 : decode cX1_highestOf 40 = .ok (.iconst 2, 1) := by decide +kernel
theorem dX1_highestOf_41 : decode cX1_highestOf 41 = .ok (.if_icmp .ne 14, 3) := by decide +kernel
theorem dX1_highestOf_44 : decode cX1_highestOf 44 = .ok (.aload_n 0, 1) := by decide +kernel
theorem dX1_highestOf_45 : decode cX1_highestOf 45 = .ok (.getfield 15, 3) := by decide +kernel
theorem dX1_highestOf_48 : decode cX1_highestOf 48 = .ok (.iload_n 3, 1) := by decide +kernel
theorem dX1_highestOf_49 : decode cX1_highestOf 49 = .ok (.iaload, 1) := by decide +kernel
theorem dX1_highestOf_50 : decode cX1_highestOf 50 = .ok (.iconst 1, 1) := by decide +kernel
theorem dX1_highestOf_51 : decode cX1_highestOf 51 = .ok (.isub, 1) := by decide +kernel
theorem dX1_highestOf_52 : decode cX1_highestOf 52 = .ok (.goto 9, 3) := by decide +kernel
theorem dX1_highestOf_55 : decode cX1_highestOf 55 = .ok (.aload_n 0, 1) := by decide +kernel
theorem dX1_highestOf_56 : decode cX1_highestOf 56 = .ok (.getfield 15, 3) := by decide +kernel
theorem dX1_highestOf_59 : decode cX1_highestOf 59 = .ok (.iload_n 3, 1) := by decide +kernel
theorem dX1_highestOf_60 : decode cX1_highestOf 60 = .ok (.iaload, 1) := by decide +kernel
theorem dX1_highestOf_61 : decode cX1_highestOf 61 = .ok (.istore 4, 2) := by decide +kernel
theorem dX1_highestOf_63 : decode cX1_highestOf 63 = .ok (.iload_n 2, 1) := by decide +kernel
theorem dX1_highestOf_64 : decode cX1_highestOf 64 = .ok (.iload 4, 2) := by decide +kernel
theorem dX1_highestOf_66 : decode cX1_highestOf 66 = .ok (.invokestatic 56, 3) := by decide +kernel
theorem dX1_highestOf_69 : decode cX1_highestOf 69 = .ok (.istore_n 2, 1) := by decide +kernel
theorem dX1_highestOf_70 : decode cX1_highestOf 70 = .ok (.iinc 3 1, 3) := by decide +kernel
theorem dX1_highestOf_73 : decode cX1_highestOf 73 = .ok (.goto (-67), 3) := by decide +kernel
theorem dX1_highestOf_76 : decode cX1_highestOf 76 = .ok (.iload_n 2, 1) := by decide +kernel
theorem dX1_highestOf_77 : decode cX1_highestOf 77 = .ok (.ireturn, 1) := by decide +kernel
theorem dX1_waysBetween_0 : decode cX1_waysBetween 0 = .ok (.iconst 0, 1) := by decide +kernel
theorem dX1_waysBetween_1 : decode cX1_waysBetween 1 = .ok (.istore_n 3, 1) := by decide +kernel
theorem dX1_waysBetween_2 : decode cX1_waysBetween 2 = .ok (.iload_n 1, 1) := by decide +kernel
theorem dX1_waysBetween_3 : decode cX1_waysBetween 3 = .ok (.istore 4, 2) := by decide +kernel
theorem dX1_waysBetween_5 : decode cX1_waysBetween 5 = .ok (.iload 4, 2) := by decide +kernel
theorem dX1_waysBetween_7 : decode cX1_waysBetween 7 = .ok (.iload_n 2, 1) := by decide +kernel
theorem dX1_waysBetween_8 : decode cX1_waysBetween 8 = .ok (.if_icmp .gt 19, 3) := by decide +kernel
theorem dX1_waysBetween_11 : decode cX1_waysBetween 11 = .ok (.iload_n 3, 1) := by decide +kernel
theorem dX1_waysBetween_12 : decode cX1_waysBetween 12 = .ok (.aload_n 0, 1) := by decide +kernel
theorem dX1_waysBetween_13 : decode cX1_waysBetween 13 = .ok (.getfield 27, 3) := by decide +kernel
theorem dX1_waysBetween_16 : decode cX1_waysBetween 16 = .ok (.iload 4, 2) := by decide +kernel
theorem dX1_waysBetween_18 : decode cX1_waysBetween 18 = .ok (.iaload, 1) := by decide +kernel
theorem dX1_waysBetween_19 : decode cX1_waysBetween 19 = .ok (.iadd, 1) := by decide +kernel
theorem dX1_waysBetween_20 : decode cX1_waysBetween 20 = .ok (.istore_n 3, 1) := by decide +kernel
theorem dX1_waysBetween_21 : decode cX1_waysBetween 21 = .ok (.iinc 4 1, 3) := by decide +kernel
theorem dX1_waysBetween_24 : decode cX1_waysBetween 24 = .ok (.goto (-19), 3) := by decide +kernel
theorem dX1_waysBetween_27 : decode cX1_waysBetween 27 = .ok (.iload_n 3, 1) := by decide +kernel
theorem dX1_waysBetween_28 : decode cX1_waysBetween 28 = .ok (.ireturn, 1) := by decide +kernel
theorem dX1_leastBetween_0 : decode cX1_leastBetween 0 = .ok (.iload_n 1, 1) := by decide +kernel
theorem dX1_leastBetween_1 : decode cX1_leastBetween 1 = .ok (.istore_n 3, 1) := by decide +kernel
theorem dX1_leastBetween_2 : decode cX1_leastBetween 2 = .ok (.iload_n 3, 1) := by decide +kernel
theorem dX1_leastBetween_3 : decode cX1_leastBetween 3 = .ok (.iload_n 2, 1) := by decide +kernel
theorem dX1_leastBetween_4 : decode cX1_leastBetween 4 = .ok (.if_icmp .gt 20, 3) := by decide +kernel
theorem dX1_leastBetween_7 : decode cX1_leastBetween 7 = .ok (.aload_n 0, 1) := by decide +kernel
theorem dX1_leastBetween_8 : decode cX1_leastBetween 8 = .ok (.getfield 27, 3) := by decide +kernel
theorem dX1_leastBetween_11 : decode cX1_leastBetween 11 = .ok (.iload_n 3, 1) := by decide +kernel
theorem dX1_leastBetween_12 : decode cX1_leastBetween 12 = .ok (.iaload, 1) := by decide +kernel
theorem dX1_leastBetween_13 : decode cX1_leastBetween 13 = .ok (.ifCond .le 5, 3) := by decide +kernel
theorem dX1_leastBetween_16 : decode cX1_leastBetween 16 = .ok (.iload_n 3, 1) := by decide +kernel
theorem dX1_leastBetween_17 : decode cX1_leastBetween 17 = .ok (.ireturn, 1) := by decide +kernel
theorem dX1_leastBetween_18 : decode cX1_leastBetween 18 = .ok (.iinc 3 1, 3) := by decide +kernel
theorem dX1_leastBetween_21 : decode cX1_leastBetween 21 = .ok (.goto (-19), 3) := by decide +kernel
theorem dX1_leastBetween_24 : decode cX1_leastBetween 24 = .ok (.bipush (-9), 2) := by decide +kernel
theorem dX1_leastBetween_26 : decode cX1_leastBetween 26 = .ok (.ireturn, 1) := by decide +kernel
theorem dX1_greatestBetween_0 : decode cX1_greatestBetween 0 = .ok (.iload_n 2, 1) := by decide +kernel
theorem dX1_greatestBetween_1 : decode cX1_greatestBetween 1 = .ok (.istore_n 3, 1) := by decide +kernel
theorem dX1_greatestBetween_2 : decode cX1_greatestBetween 2 = .ok (.iload_n 3, 1) := by decide +kernel
theorem dX1_greatestBetween_3 : decode cX1_greatestBetween 3 = .ok (.iload_n 1, 1) := by decide +kernel
theorem dX1_greatestBetween_4 : decode cX1_greatestBetween 4 = .ok (.if_icmp .lt 20, 3) := by decide +kernel
theorem dX1_greatestBetween_7 : decode cX1_greatestBetween 7 = .ok (.aload_n 0, 1) := by decide +kernel
theorem dX1_greatestBetween_8 : decode cX1_greatestBetween 8 = .ok (.getfield 27, 3) := by decide +kernel
theorem dX1_greatestBetween_11 : decode cX1_greatestBetween 11 = .ok (.iload_n 3, 1) := by decide +kernel
theorem dX1_greatestBetween_12 : decode cX1_greatestBetween 12 = .ok (.iaload, 1) := by decide +kernel
theorem dX1_greatestBetween_13 : decode cX1_greatestBetween 13 = .ok (.ifCond .le 5, 3) := by decide +kernel
theorem dX1_greatestBetween_16 : decode cX1_greatestBetween 16 = .ok (.iload_n 3, 1) := by decide +kernel
theorem dX1_greatestBetween_17 : decode cX1_greatestBetween 17 = .ok (.ireturn, 1) := by decide +kernel
theorem dX1_greatestBetween_18 : decode cX1_greatestBetween 18 = .ok (.iinc 3 (-1), 3) := by decide +kernel
theorem dX1_greatestBetween_21 : decode cX1_greatestBetween 21 = .ok (.goto (-19), 3) := by decide +kernel
theorem dX1_greatestBetween_24 : decode cX1_greatestBetween 24 = .ok (.bipush (-9), 2) := by decide +kernel
theorem dX1_greatestBetween_26 : decode cX1_greatestBetween 26 = .ok (.ireturn, 1) := by decide +kernel
theorem dX1_lawsOf_0 : decode cX1_lawsOf 0 = .ok (.iconst 0, 1) := by decide +kernel
theorem dX1_lawsOf_1 : decode cX1_lawsOf 1 = .ok (.istore_n 3, 1) := by decide +kernel
theorem dX1_lawsOf_2 : decode cX1_lawsOf 2 = .ok (.iconst 0, 1) := by decide +kernel
theorem dX1_lawsOf_3 : decode cX1_lawsOf 3 = .ok (.istore 4, 2) := by decide +kernel
theorem dX1_lawsOf_5 : decode cX1_lawsOf 5 = .ok (.iload 4, 2) := by decide +kernel
theorem dX1_lawsOf_7 : decode cX1_lawsOf 7 = .ok (.sipush 256, 3) := by decide +kernel
theorem dX1_lawsOf_10 : decode cX1_lawsOf 10 = .ok (.if_icmp .ge 26, 3) := by decide +kernel
theorem dX1_lawsOf_13 : decode cX1_lawsOf 13 = .ok (.aload_n 0, 1) := by decide +kernel
theorem dX1_lawsOf_14 : decode cX1_lawsOf 14 = .ok (.iload_n 1, 1) := by decide +kernel
theorem dX1_lawsOf_15 : decode cX1_lawsOf 15 = .ok (.iload 4, 2) := by decide +kernel
theorem dX1_lawsOf_17 : decode cX1_lawsOf 17 = .ok (.aload_n 2, 1) := by decide +kernel
theorem dX1_lawsOf_18 : decode cX1_lawsOf 18 = .ok (.invokestatic 59, 3) := by decide +kernel
theorem dX1_lawsOf_21 : decode cX1_lawsOf 21 = .ok (.invokevirtual 63, 3) := by decide +kernel
theorem dX1_lawsOf_24 : decode cX1_lawsOf 24 = .ok (.ifCond .eq 6, 3) := by decide +kernel
theorem dX1_lawsOf_27 : decode cX1_lawsOf 27 = .ok (.iinc 3 1, 3) := by decide +kernel
theorem dX1_lawsOf_30 : decode cX1_lawsOf 30 = .ok (.iinc 4 1, 3) := by decide +kernel
theorem dX1_lawsOf_33 : decode cX1_lawsOf 33 = .ok (.goto (-28), 3) := by decide +kernel
theorem dX1_lawsOf_36 : decode cX1_lawsOf 36 = .ok (.iload_n 3, 1) := by decide +kernel
theorem dX1_lawsOf_37 : decode cX1_lawsOf 37 = .ok (.ireturn, 1) := by decide +kernel
theorem dX1_firstLawOf_0 : decode cX1_firstLawOf 0 = .ok (.iconst 0, 1) := by decide +kernel
theorem dX1_firstLawOf_1 : decode cX1_firstLawOf 1 = .ok (.istore_n 3, 1) := by decide +kernel
theorem dX1_firstLawOf_2 : decode cX1_firstLawOf 2 = .ok (.iload_n 3, 1) := by decide +kernel
theorem dX1_firstLawOf_3 : decode cX1_firstLawOf 3 = .ok (.sipush 256, 3) := by decide +kernel
theorem dX1_firstLawOf_6 : decode cX1_firstLawOf 6 = .ok (.if_icmp .ge 27, 3) := by decide +kernel
theorem dX1_firstLawOf_9 : decode cX1_firstLawOf 9 = .ok (.aload_n 0, 1) := by decide +kernel
theorem dX1_firstLawOf_10 : decode cX1_firstLawOf 10 = .ok (.iload_n 1, 1) := by decide +kernel
theorem dX1_firstLawOf_11 : decode cX1_firstLawOf 11 = .ok (.iload_n 3, 1) := by decide +kernel
theorem dX1_firstLawOf_12 : decode cX1_firstLawOf 12 = .ok (.aload_n 2, 1) := by decide +kernel
theorem dX1_firstLawOf_13 : decode cX1_firstLawOf 13 = .ok (.invokestatic 59, 3) := by decide +kernel
theorem dX1_firstLawOf_16 : decode cX1_firstLawOf 16 = .ok (.invokevirtual 63, 3) := by decide +kernel
theorem dX1_firstLawOf_19 : decode cX1_firstLawOf 19 = .ok (.ifCond .eq 8, 3) := by decide +kernel
theorem dX1_firstLawOf_22 : decode cX1_firstLawOf 22 = .ok (.iload_n 3, 1) := by decide +kernel
theorem dX1_firstLawOf_23 : decode cX1_firstLawOf 23 = .ok (.invokestatic 67, 3) := by decide +kernel
theorem dX1_firstLawOf_26 : decode cX1_firstLawOf 26 = .ok (.ireturn, 1) := by decide +kernel
theorem dX1_firstLawOf_27 : decode cX1_firstLawOf 27 = .ok (.iinc 3 1, 3) := by decide +kernel
theorem dX1_firstLawOf_30 : decode cX1_firstLawOf 30 = .ok (.goto (-28), 3) := by decide +kernel
theorem dX1_firstLawOf_33 : decode cX1_firstLawOf 33 = .ok (.bipush (-9), 2) := by decide +kernel
theorem dX1_firstLawOf_35 : decode cX1_firstLawOf 35 = .ok (.ireturn, 1) := by decide +kernel
theorem dX1_gainOf_0 : decode cX1_gainOf 0 = .ok (.iload_n 0, 1) := by decide +kernel
theorem dX1_gainOf_1 : decode cX1_gainOf 1 = .ok (.istore_n 2, 1) := by decide +kernel
theorem dX1_gainOf_2 : decode cX1_gainOf 2 = .ok (.iconst 0, 1) := by decide +kernel
theorem dX1_gainOf_3 : decode cX1_gainOf 3 = .ok (.istore_n 3, 1) := by decide +kernel
theorem dX1_gainOf_4 : decode cX1_gainOf 4 = .ok (.iconst 3, 1) := by decide +kernel
theorem dX1_gainOf_5 : decode cX1_gainOf 5 = .ok (.istore 4, 2) := by decide +kernel
theorem dX1_gainOf_7 : decode cX1_gainOf 7 = .ok (.iload 4, 2) := by decide +kernel
theorem dX1_gainOf_9 : decode cX1_gainOf 9 = .ok (.ifCond .lt 24, 3) := by decide +kernel
theorem dX1_gainOf_12 : decode cX1_gainOf 12 = .ok (.iload_n 3, 1) := by decide +kernel
theorem dX1_gainOf_13 : decode cX1_gainOf 13 = .ok (.iload_n 2, 1) := by decide +kernel
theorem dX1_gainOf_14 : decode cX1_gainOf 14 = .ok (.iconst 4, 1) := by decide +kernel
theorem dX1_gainOf_15 : decode cX1_gainOf 15 = .ok (.irem, 1) := by decide +kernel
theorem dX1_gainOf_16 : decode cX1_gainOf 16 = .ok (.aload_n 1, 1) := by decide +kernel
theorem dX1_gainOf_17 : decode cX1_gainOf 17 = .ok (.iload 4, 2) := by decide +kernel
theorem dX1_gainOf_19 : decode cX1_gainOf 19 = .ok (.iaload, 1) := by decide +kernel
theorem dX1_gainOf_20 : decode cX1_gainOf 20 = .ok (.imul, 1) := by decide +kernel
theorem dX1_gainOf_21 : decode cX1_gainOf 21 = .ok (.iadd, 1) := by decide +kernel
theorem dX1_gainOf_22 : decode cX1_gainOf 22 = .ok (.istore_n 3, 1) := by decide +kernel
theorem dX1_gainOf_23 : decode cX1_gainOf 23 = .ok (.iload_n 2, 1) := by decide +kernel
theorem dX1_gainOf_24 : decode cX1_gainOf 24 = .ok (.iconst 4, 1) := by decide +kernel
theorem dX1_gainOf_25 : decode cX1_gainOf 25 = .ok (.idiv, 1) := by decide +kernel
theorem dX1_gainOf_26 : decode cX1_gainOf 26 = .ok (.istore_n 2, 1) := by decide +kernel
theorem dX1_gainOf_27 : decode cX1_gainOf 27 = .ok (.iinc 4 (-1), 3) := by decide +kernel
theorem dX1_gainOf_30 : decode cX1_gainOf 30 = .ok (.goto (-23), 3) := by decide +kernel
theorem dX1_gainOf_33 : decode cX1_gainOf 33 = .ok (.iload_n 3, 1) := by decide +kernel
theorem dX1_gainOf_34 : decode cX1_gainOf 34 = .ok (.ireturn, 1) := by decide +kernel
theorem dX1_figuresOf_0 : decode cX1_figuresOf 0 = .ok (.iload_n 0, 1) := by decide +kernel
theorem dX1_figuresOf_1 : decode cX1_figuresOf 1 = .ok (.istore_n 1, 1) := by decide +kernel
theorem dX1_figuresOf_2 : decode cX1_figuresOf 2 = .ok (.iconst 1, 1) := by decide +kernel
theorem dX1_figuresOf_3 : decode cX1_figuresOf 3 = .ok (.istore_n 2, 1) := by decide +kernel
theorem dX1_figuresOf_4 : decode cX1_figuresOf 4 = .ok (.iconst 0, 1) := by decide +kernel
theorem dX1_figuresOf_5 : decode cX1_figuresOf 5 = .ok (.istore_n 3, 1) := by decide +kernel
theorem dX1_figuresOf_6 : decode cX1_figuresOf 6 = .ok (.iconst 0, 1) := by decide +kernel
theorem dX1_figuresOf_7 : decode cX1_figuresOf 7 = .ok (.istore 4, 2) := by decide +kernel
theorem dX1_figuresOf_9 : decode cX1_figuresOf 9 = .ok (.iload 4, 2) := by decide +kernel
theorem dX1_figuresOf_11 : decode cX1_figuresOf 11 = .ok (.iconst 4, 1) := by decide +kernel
theorem dX1_figuresOf_12 : decode cX1_figuresOf 12 = .ok (.if_icmp .ge 26, 3) := by decide +kernel
theorem dX1_figuresOf_15 : decode cX1_figuresOf 15 = .ok (.iload_n 3, 1) := by decide +kernel
theorem dX1_figuresOf_16 : decode cX1_figuresOf 16 = .ok (.iload_n 1, 1) := by decide +kernel
theorem dX1_figuresOf_17 : decode cX1_figuresOf 17 = .ok (.iconst 4, 1) := by decide +kernel
theorem dX1_figuresOf_18 : decode cX1_figuresOf 18 = .ok (.irem, 1) := by decide +kernel
theorem dX1_figuresOf_19 : decode cX1_figuresOf 19 = .ok (.iload_n 2, 1) := by decide +kernel
theorem dX1_figuresOf_20 : decode cX1_figuresOf 20 = .ok (.imul, 1) := by decide +kernel
theorem dX1_figuresOf_21 : decode cX1_figuresOf 21 = .ok (.iadd, 1) := by decide +kernel
theorem dX1_figuresOf_22 : decode cX1_figuresOf 22 = .ok (.istore_n 3, 1) := by decide +kernel
theorem dX1_figuresOf_23 : decode cX1_figuresOf 23 = .ok (.iload_n 1, 1) := by decide +kernel
theorem dX1_figuresOf_24 : decode cX1_figuresOf 24 = .ok (.iconst 4, 1) := by decide +kernel
theorem dX1_figuresOf_25 : decode cX1_figuresOf 25 = .ok (.idiv, 1) := by decide +kernel
theorem dX1_figuresOf_26 : decode cX1_figuresOf 26 = .ok (.istore_n 1, 1) := by decide +kernel
theorem dX1_figuresOf_27 : decode cX1_figuresOf 27 = .ok (.iload_n 2, 1) := by decide +kernel
theorem dX1_figuresOf_28 : decode cX1_figuresOf 28 = .ok (.bipush 10, 2) := by decide +kernel
theorem dX1_figuresOf_30 : decode cX1_figuresOf 30 = .ok (.imul, 1) := by decide +kernel
theorem dX1_figuresOf_31 : decode cX1_figuresOf 31 = .ok (.istore_n 2, 1) := by decide +kernel
theorem dX1_figuresOf_32 : decode cX1_figuresOf 32 = .ok (.iinc 4 1, 3) := by decide +kernel
theorem dX1_figuresOf_35 : decode cX1_figuresOf 35 = .ok (.goto (-26), 3) := by decide +kernel
theorem dX1_figuresOf_38 : decode cX1_figuresOf 38 = .ok (.iload_n 3, 1) := by decide +kernel
theorem dX1_figuresOf_39 : decode cX1_figuresOf 39 = .ok (.ireturn, 1) := by decide +kernel
theorem dX1_fits_0 : decode cX1_fits 0 = .ok (.iconst 0, 1) := by decide +kernel
theorem dX1_fits_1 : decode cX1_fits 1 = .ok (.istore_n 3, 1) := by decide +kernel
theorem dX1_fits_2 : decode cX1_fits 2 = .ok (.iload_n 3, 1) := by decide +kernel
theorem dX1_fits_3 : decode cX1_fits 3 = .ok (.aload_n 0, 1) := by decide +kernel
theorem dX1_fits_4 : decode cX1_fits 4 = .ok (.getfield 41, 3) := by decide +kernel
theorem dX1_fits_7 : decode cX1_fits 7 = .ok (.if_icmp .ge 31, 3) := by decide +kernel
theorem dX1_fits_10 : decode cX1_fits 10 = .ok (.aload_n 0, 1) := by decide +kernel
theorem dX1_fits_11 : decode cX1_fits 11 = .ok (.getfield 21, 3) := by decide +kernel
theorem dX1_fits_14 : decode cX1_fits 14 = .ok (.iload_n 3, 1) := by decide +kernel
theorem dX1_fits_15 : decode cX1_fits 15 = .ok (.iaload, 1) := by decide +kernel
theorem dX1_fits_16 : decode cX1_fits 16 = .ok (.iload_n 1, 1) := by decide +kernel
theorem dX1_fits_17 : decode cX1_fits 17 = .ok (.if_icmp .ne 15, 3) := by decide +kernel
theorem dX1_fits_20 : decode cX1_fits 20 = .ok (.aload_n 0, 1) := by decide +kernel
theorem dX1_fits_21 : decode cX1_fits 21 = .ok (.getfield 24, 3) := by decide +kernel
theorem dX1_fits_24 : decode cX1_fits 24 = .ok (.iload_n 3, 1) := by decide +kernel
theorem dX1_fits_25 : decode cX1_fits 25 = .ok (.iaload, 1) := by decide +kernel
theorem dX1_fits_26 : decode cX1_fits 26 = .ok (.iload_n 2, 1) := by decide +kernel
theorem dX1_fits_27 : decode cX1_fits 27 = .ok (.if_icmp .eq 5, 3) := by decide +kernel
theorem dX1_fits_30 : decode cX1_fits 30 = .ok (.iconst 0, 1) := by decide +kernel
theorem dX1_fits_31 : decode cX1_fits 31 = .ok (.ireturn, 1) := by decide +kernel
theorem dX1_fits_32 : decode cX1_fits 32 = .ok (.iinc 3 1, 3) := by decide +kernel
theorem dX1_fits_35 : decode cX1_fits 35 = .ok (.goto (-33), 3) := by decide +kernel
theorem dX1_fits_38 : decode cX1_fits 38 = .ok (.iconst 1, 1) := by decide +kernel
theorem dX1_fits_39 : decode cX1_fits 39 = .ok (.ireturn, 1) := by decide +kernel
theorem dX2_init_0 : decode cX2_init 0 = .ok (.aload_n 0, 1) := by decide +kernel
theorem dX2_init_1 : decode cX2_init 1 = .ok (.invokespecial 3, 3) := by decide +kernel
theorem dX2_init_4 : decode cX2_init 4 = .ok (.aload_n 0, 1) := by decide +kernel
theorem dX2_init_5 : decode cX2_init 5 = .ok (.bipush 10, 2) := by decide +kernel
theorem dX2_init_7 : decode cX2_init 7 = .ok (.anewarray 9, 3) := by decide +kernel
theorem dX2_init_10 : decode cX2_init 10 = .ok (.putfield 11, 3) := by decide +kernel
theorem dX2_init_13 : decode cX2_init 13 = .ok (.iconst 0, 1) := by decide +kernel
theorem dX2_init_14 : decode cX2_init 14 = .ok (.istore_n 1, 1) := by decide +kernel
theorem dX2_init_15 : decode cX2_init 15 = .ok (.iload_n 1, 1) := by decide +kernel
theorem dX2_init_16 : decode cX2_init 16 = .ok (.bipush 10, 2) := by decide +kernel
theorem dX2_init_18 : decode cX2_init 18 = .ok (.if_icmp .ge 22, 3) := by decide +kernel
theorem dX2_init_21 : decode cX2_init 21 = .ok (.aload_n 0, 1) := by decide +kernel
theorem dX2_init_22 : decode cX2_init 22 = .ok (.getfield 11, 3) := by decide +kernel
theorem dX2_init_25 : decode cX2_init 25 = .ok (.iload_n 1, 1) := by decide +kernel
theorem dX2_init_26 : decode cX2_init 26 = .ok (.new 9, 3) := by decide +kernel
theorem dX2_init_29 : decode cX2_init 29 = .ok (.dup, 1) := by decide +kernel
theorem dX2_init_30 : decode cX2_init 30 = .ok (.invokespecial 17, 3) := by decide +kernel
theorem dX2_init_33 : decode cX2_init 33 = .ok (.aastore, 1) := by decide +kernel
theorem dX2_init_34 : decode cX2_init 34 = .ok (.iinc 1 1, 3) := by decide +kernel
theorem dX2_init_37 : decode cX2_init 37 = .ok (.goto (-22), 3) := by decide +kernel
theorem dX2_init_40 : decode cX2_init 40 = .ok (.return_, 1) := by decide +kernel
theorem dX2_push_0 : decode cX2_push 0 = .ok (.aload_n 0, 1) := by decide +kernel
theorem dX2_push_1 : decode cX2_push 1 = .ok (.getfield 11, 3) := by decide +kernel
theorem dX2_push_4 : decode cX2_push 4 = .ok (.aload_n 0, 1) := by decide +kernel
theorem dX2_push_5 : decode cX2_push 5 = .ok (.getfield 18, 3) := by decide +kernel
theorem dX2_push_8 : decode cX2_push 8 = .ok (.aaload, 1) := by decide +kernel
theorem dX2_push_9 : decode cX2_push 9 = .ok (.aload_n 1, 1) := by decide +kernel
theorem dX2_push_10 : decode cX2_push 10 = .ok (.invokevirtual 22, 3) := by decide +kernel
theorem dX2_push_13 : decode cX2_push 13 = .ok (.aload_n 0, 1) := by decide +kernel
theorem dX2_push_14 : decode cX2_push 14 = .ok (.aload_n 0, 1) := by decide +kernel
theorem dX2_push_15 : decode cX2_push 15 = .ok (.getfield 18, 3) := by decide +kernel
theorem dX2_push_18 : decode cX2_push 18 = .ok (.iconst 1, 1) := by decide +kernel
theorem dX2_push_19 : decode cX2_push 19 = .ok (.iadd, 1) := by decide +kernel
theorem dX2_push_20 : decode cX2_push 20 = .ok (.bipush 10, 2) := by decide +kernel
theorem dX2_push_22 : decode cX2_push 22 = .ok (.irem, 1) := by decide +kernel
theorem dX2_push_23 : decode cX2_push 23 = .ok (.putfield 18, 3) := by decide +kernel
theorem dX2_push_26 : decode cX2_push 26 = .ok (.aload_n 0, 1) := by decide +kernel
theorem dX2_push_27 : decode cX2_push 27 = .ok (.bipush 10, 2) := by decide +kernel
theorem dX2_push_29 : decode cX2_push 29 = .ok (.aload_n 0, 1) := by decide +kernel
theorem dX2_push_30 : decode cX2_push 30 = .ok (.getfield 26, 3) := by decide +kernel
theorem dX2_push_33 : decode cX2_push 33 = .ok (.iconst 1, 1) := by decide +kernel
theorem dX2_push_34 : decode cX2_push 34 = .ok (.iadd, 1) := by decide +kernel
theorem dX2_push_35 : decode cX2_push 35 = .ok (.invokestatic 29, 3) := by decide +kernel
theorem dX2_push_38 : decode cX2_push 38 = .ok (.putfield 26, 3) := by decide +kernel
theorem dX2_push_41 : decode cX2_push 41 = .ok (.return_, 1) := by decide +kernel
theorem dX2_popInto_0 : decode cX2_popInto 0 = .ok (.aload_n 0, 1) := by decide +kernel
theorem dX2_popInto_1 : decode cX2_popInto 1 = .ok (.getfield 26, 3) := by decide +kernel
theorem dX2_popInto_4 : decode cX2_popInto 4 = .ok (.ifCond .le 42, 3) := by decide +kernel
theorem dX2_popInto_7 : decode cX2_popInto 7 = .ok (.aload_n 0, 1) := by decide +kernel
theorem dX2_popInto_8 : decode cX2_popInto 8 = .ok (.aload_n 0, 1) := by decide +kernel
theorem dX2_popInto_9 : decode cX2_popInto 9 = .ok (.getfield 18, 3) := by decide +kernel
theorem dX2_popInto_12 : decode cX2_popInto 12 = .ok (.bipush 10, 2) := by decide +kernel
theorem dX2_popInto_14 : decode cX2_popInto 14 = .ok (.iadd, 1) := by decide +kernel
theorem dX2_popInto_15 : decode cX2_popInto 15 = .ok (.iconst 1, 1) := by decide +kernel
theorem dX2_popInto_16 : decode cX2_popInto 16 = .ok (.isub, 1) := by decide +kernel
theorem dX2_popInto_17 : decode cX2_popInto 17 = .ok (.bipush 10, 2) := by decide +kernel
theorem dX2_popInto_19 : decode cX2_popInto 19 = .ok (.irem, 1) := by decide +kernel
theorem dX2_popInto_20 : decode cX2_popInto 20 = .ok (.putfield 18, 3) := by decide +kernel
theorem dX2_popInto_23 : decode cX2_popInto 23 = .ok (.aload_n 0, 1) := by decide +kernel
theorem dX2_popInto_24 : decode cX2_popInto 24 = .ok (.dup, 1) := by decide +kernel
theorem dX2_popInto_25 : decode cX2_popInto 25 = .ok (.getfield 26, 3) := by decide +kernel
theorem dX2_popInto_28 : decode cX2_popInto 28 = .ok (.iconst 1, 1) := by decide +kernel
theorem dX2_popInto_29 : decode cX2_popInto 29 = .ok (.isub, 1) := by decide +kernel
theorem dX2_popInto_30 : decode cX2_popInto 30 = .ok (.putfield 26, 3) := by decide +kernel
theorem dX2_popInto_33 : decode cX2_popInto 33 = .ok (.aload_n 1, 1) := by decide +kernel
theorem dX2_popInto_34 : decode cX2_popInto 34 = .ok (.aload_n 0, 1) := by decide +kernel
theorem dX2_popInto_35 : decode cX2_popInto 35 = .ok (.getfield 11, 3) := by decide +kernel
theorem dX2_popInto_38 : decode cX2_popInto 38 = .ok (.aload_n 0, 1) := by decide +kernel
theorem dX2_popInto_39 : decode cX2_popInto 39 = .ok (.getfield 18, 3) := by decide +kernel
theorem dX2_popInto_42 : decode cX2_popInto 42 = .ok (.aaload, 1) := by decide +kernel
theorem dX2_popInto_43 : decode cX2_popInto 43 = .ok (.invokevirtual 22, 3) := by decide +kernel
theorem dX2_popInto_46 : decode cX2_popInto 46 = .ok (.return_, 1) := by decide +kernel
theorem dX3_init_0 : decode cX3_init 0 = .ok (.aload_n 0, 1) := by decide +kernel
theorem dX3_init_1 : decode cX3_init 1 = .ok (.invokespecial 3, 3) := by decide +kernel
theorem dX3_init_4 : decode cX3_init 4 = .ok (.aload_n 0, 1) := by decide +kernel
theorem dX3_init_5 : decode cX3_init 5 = .ok (.sipush 721, 3) := by decide +kernel
theorem dX3_init_8 : decode cX3_init 8 = .ok (.newarray .int, 2) := by decide +kernel
theorem dX3_init_10 : decode cX3_init 10 = .ok (.putfield 9, 3) := by decide +kernel
theorem dX3_init_13 : decode cX3_init 13 = .ok (.aload_n 0, 1) := by decide +kernel
theorem dX3_init_14 : decode cX3_init 14 = .ok (.sipush 721, 3) := by decide +kernel
theorem dX3_init_17 : decode cX3_init 17 = .ok (.newarray .int, 2) := by decide +kernel
theorem dX3_init_19 : decode cX3_init 19 = .ok (.putfield 15, 3) := by decide +kernel
theorem dX3_init_22 : decode cX3_init 22 = .ok (.return_, 1) := by decide +kernel
theorem dX3_find_0 : decode cX3_find 0 = .ok (.aload_n 0, 1) := by decide +kernel
theorem dX3_find_1 : decode cX3_find 1 = .ok (.getfield 9, 3) := by decide +kernel
theorem dX3_find_4 : decode cX3_find 4 = .ok (.aload_n 1, 1) := by decide +kernel
theorem dX3_find_5 : decode cX3_find 5 = .ok (.aload_n 2, 1) := by decide +kernel
theorem dX3_find_6 : decode cX3_find 6 = .ok (.iload_n 3, 1) := by decide +kernel
theorem dX3_find_7 : decode cX3_find 7 = .ok (.invokestatic 18, 3) := by decide +kernel
theorem dX3_find_10 : decode cX3_find 10 = .ok (.istore 5, 2) := by decide +kernel
theorem dX3_find_12 : decode cX3_find 12 = .ok (.aload_n 0, 1) := by decide +kernel
theorem dX3_find_13 : decode cX3_find 13 = .ok (.getfield 15, 3) := by decide +kernel
theorem dX3_find_16 : decode cX3_find 16 = .ok (.aload_n 1, 1) := by decide +kernel
theorem dX3_find_17 : decode cX3_find 17 = .ok (.aload_n 2, 1) := by decide +kernel
theorem dX3_find_18 : decode cX3_find 18 = .ok (.iload 4, 2) := by decide +kernel
theorem dX3_find_20 : decode cX3_find 20 = .ok (.invokestatic 18, 3) := by decide +kernel
theorem dX3_find_23 : decode cX3_find 23 = .ok (.istore 6, 2) := by decide +kernel
theorem dX3_find_25 : decode cX3_find 25 = .ok (.aload_n 0, 1) := by decide +kernel
theorem dX3_find_26 : decode cX3_find 26 = .ok (.sipush 1000, 3) := by decide +kernel
theorem dX3_find_29 : decode cX3_find 29 = .ok (.putfield 22, 3) := by decide +kernel
theorem dX3_find_32 : decode cX3_find 32 = .ok (.aload_n 0, 1) := by decide +kernel
theorem dX3_find_33 : decode cX3_find 33 = .ok (.iconst 0, 1) := by decide +kernel
theorem dX3_find_34 : decode cX3_find 34 = .ok (.putfield 26, 3) := by decide +kernel
theorem dX3_find_37 : decode cX3_find 37 = .ok (.iload 5, 2) := by decide +kernel
theorem dX3_find_39 : decode cX3_find 39 = .ok (.iload 6, 2) := by decide +kernel
theorem dX3_find_41 : decode cX3_find 41 = .ok (.invokestatic 29, 3) := by decide +kernel
theorem dX3_find_44 : decode cX3_find 44 = .ok (.istore 7, 2) := by decide +kernel
theorem dX3_find_46 : decode cX3_find 46 = .ok (.iload 7, 2) := by decide +kernel
theorem dX3_find_48 : decode cX3_find 48 = .ok (.ifCond .lt 53, 3) := by decide +kernel
theorem dX3_find_51 : decode cX3_find 51 = .ok (.aload_n 0, 1) := by decide +kernel
theorem dX3_find_52 : decode cX3_find 52 = .ok (.getfield 9, 3) := by decide +kernel
theorem dX3_find_55 : decode cX3_find 55 = .ok (.iload 5, 2) := by decide +kernel
theorem dX3_find_57 : decode cX3_find 57 = .ok (.iload 7, 2) := by decide +kernel
theorem dX3_find_59 : decode cX3_find 59 = .ok (.isub, 1) := by decide +kernel
theorem dX3_find_60 : decode cX3_find 60 = .ok (.iaload, 1) := by decide +kernel
theorem dX3_find_61 : decode cX3_find 61 = .ok (.aload_n 0, 1) := by decide +kernel
theorem dX3_find_62 : decode cX3_find 62 = .ok (.getfield 15, 3) := by decide +kernel
theorem dX3_find_65 : decode cX3_find 65 = .ok (.iload 6, 2) := by decide +kernel
theorem dX3_find_67 : decode cX3_find 67 = .ok (.iload 7, 2) := by decide +kernel
theorem dX3_find_69 : decode cX3_find 69 = .ok (.isub, 1) := by decide +kernel
theorem dX3_find_70 : decode cX3_find 70 = .ok (.iaload, 1) := by decide +kernel
theorem dX3_find_71 : decode cX3_find 71 = .ok (.iadd, 1) := by decide +kernel
theorem dX3_find_72 : decode cX3_find 72 = .ok (.istore 8, 2) := by decide +kernel
theorem dX3_find_74 : decode cX3_find 74 = .ok (.iload 8, 2) := by decide +kernel
theorem dX3_find_76 : decode cX3_find 76 = .ok (.aload_n 0, 1) := by decide +kernel
theorem dX3_find_77 : decode cX3_find 77 = .ok (.getfield 22, 3) := by decide +kernel
theorem dX3_find_80 : decode cX3_find 80 = .ok (.if_icmp .ge 15, 3) := by decide +kernel
theorem dX3_find_83 : decode cX3_find 83 = .ok (.aload_n 0, 1) := by decide +kernel
theorem dX3_find_84 : decode cX3_find 84 = .ok (.iload 8, 2) := by decide +kernel
theorem dX3_find_86 : decode cX3_find 86 = .ok (.putfield 22, 3) := by decide +kernel
theorem dX3_find_89 : decode cX3_find 89 = .ok (.aload_n 0, 1) := by decide +kernel
theorem dX3_find_90 : decode cX3_find 90 = .ok (.iload 7, 2) := by decide +kernel
theorem dX3_find_92 : decode cX3_find 92 = .ok (.putfield 26, 3) := by decide +kernel
theorem dX3_find_95 : decode cX3_find 95 = .ok (.iinc 7 (-1), 3) := by decide +kernel
theorem dX3_find_98 : decode cX3_find 98 = .ok (.goto (-52), 3) := by decide +kernel
theorem dX3_find_101 : decode cX3_find 101 = .ok (.aload_n 0, 1) := by decide +kernel
theorem dX3_find_102 : decode cX3_find 102 = .ok (.iload 5, 2) := by decide +kernel
theorem dX3_find_104 : decode cX3_find 104 = .ok (.aload_n 0, 1) := by decide +kernel
theorem dX3_find_105 : decode cX3_find 105 = .ok (.getfield 26, 3) := by decide +kernel
theorem dX3_find_108 : decode cX3_find 108 = .ok (.isub, 1) := by decide +kernel
theorem dX3_find_109 : decode cX3_find 109 = .ok (.putfield 35, 3) := by decide +kernel
theorem dX3_find_112 : decode cX3_find 112 = .ok (.aload_n 0, 1) := by decide +kernel
theorem dX3_find_113 : decode cX3_find 113 = .ok (.iload 6, 2) := by decide +kernel
theorem dX3_find_115 : decode cX3_find 115 = .ok (.aload_n 0, 1) := by decide +kernel
theorem dX3_find_116 : decode cX3_find 116 = .ok (.getfield 26, 3) := by decide +kernel
theorem dX3_find_119 : decode cX3_find 119 = .ok (.isub, 1) := by decide +kernel
theorem dX3_find_120 : decode cX3_find 120 = .ok (.putfield 38, 3) := by decide +kernel
theorem dX3_find_123 : decode cX3_find 123 = .ok (.return_, 1) := by decide +kernel
theorem dX3_firstSays_0 : decode cX3_firstSays 0 = .ok (.aload_n 1, 1) := by decide +kernel
theorem dX3_firstSays_1 : decode cX3_firstSays 1 = .ok (.aload_n 2, 1) := by decide +kernel
theorem dX3_firstSays_2 : decode cX3_firstSays 2 = .ok (.iload_n 3, 1) := by decide +kernel
theorem dX3_firstSays_3 : decode cX3_firstSays 3 = .ok (.aload_n 0, 1) := by decide +kernel
theorem dX3_firstSays_4 : decode cX3_firstSays 4 = .ok (.getfield 35, 3) := by decide +kernel
theorem dX3_firstSays_7 : decode cX3_firstSays 7 = .ok (.aload_n 0, 1) := by decide +kernel
theorem dX3_firstSays_8 : decode cX3_firstSays 8 = .ok (.getfield 9, 3) := by decide +kernel
theorem dX3_firstSays_11 : decode cX3_firstSays 11 = .ok (.aload_n 0, 1) := by decide +kernel
theorem dX3_firstSays_12 : decode cX3_firstSays 12 = .ok (.getfield 35, 3) := by decide +kernel
theorem dX3_firstSays_15 : decode cX3_firstSays 15 = .ok (.iaload, 1) := by decide +kernel
theorem dX3_firstSays_16 : decode cX3_firstSays 16 = .ok (.invokestatic 41, 3) := by decide +kernel
theorem dX3_firstSays_19 : decode cX3_firstSays 19 = .ok (.istore 5, 2) := by decide +kernel
theorem dX3_firstSays_21 : decode cX3_firstSays 21 = .ok (.iload 5, 2) := by decide +kernel
theorem dX3_firstSays_23 : decode cX3_firstSays 23 = .ok (.iload 4, 2) := by decide +kernel
theorem dX3_firstSays_25 : decode cX3_firstSays 25 = .ok (.invokestatic 45, 3) := by decide +kernel
theorem dX3_firstSays_28 : decode cX3_firstSays 28 = .ok (.ireturn, 1) := by decide +kernel
theorem dX3_secondSays_0 : decode cX3_secondSays 0 = .ok (.aload_n 1, 1) := by decide +kernel
theorem dX3_secondSays_1 : decode cX3_secondSays 1 = .ok (.aload_n 2, 1) := by decide +kernel
theorem dX3_secondSays_2 : decode cX3_secondSays 2 = .ok (.iload_n 3, 1) := by decide +kernel
theorem dX3_secondSays_3 : decode cX3_secondSays 3 = .ok (.aload_n 0, 1) := by decide +kernel
theorem dX3_secondSays_4 : decode cX3_secondSays 4 = .ok (.getfield 38, 3) := by decide +kernel
theorem dX3_secondSays_7 : decode cX3_secondSays 7 = .ok (.aload_n 0, 1) := by decide +kernel
theorem dX3_secondSays_8 : decode cX3_secondSays 8 = .ok (.getfield 15, 3) := by decide +kernel
theorem dX3_secondSays_11 : decode cX3_secondSays 11 = .ok (.aload_n 0, 1) := by decide +kernel
theorem dX3_secondSays_12 : decode cX3_secondSays 12 = .ok (.getfield 38, 3) := by decide +kernel
theorem dX3_secondSays_15 : decode cX3_secondSays 15 = .ok (.iaload, 1) := by decide +kernel
theorem dX3_secondSays_16 : decode cX3_secondSays 16 = .ok (.invokestatic 41, 3) := by decide +kernel
theorem dX3_secondSays_19 : decode cX3_secondSays 19 = .ok (.istore 5, 2) := by decide +kernel
theorem dX3_secondSays_21 : decode cX3_secondSays 21 = .ok (.iload 5, 2) := by decide +kernel
theorem dX3_secondSays_23 : decode cX3_secondSays 23 = .ok (.iload 4, 2) := by decide +kernel
theorem dX3_secondSays_25 : decode cX3_secondSays 25 = .ok (.invokestatic 45, 3) := by decide +kernel
theorem dX3_secondSays_28 : decode cX3_secondSays 28 = .ok (.ireturn, 1) := by decide +kernel
theorem dX3_countFewest_0 : decode cX3_countFewest 0 = .ok (.aload_n 0, 1) := by decide +kernel
theorem dX3_countFewest_1 : decode cX3_countFewest 1 = .ok (.sipush 1000, 3) := by decide +kernel
theorem dX3_countFewest_4 : decode cX3_countFewest 4 = .ok (.invokestatic 48, 3) := by decide +kernel
theorem dX3_countFewest_7 : decode cX3_countFewest 7 = .ok (.aload_n 0, 1) := by decide +kernel
theorem dX3_countFewest_8 : decode cX3_countFewest 8 = .ok (.iconst 0, 1) := by decide +kernel
theorem dX3_countFewest_9 : decode cX3_countFewest 9 = .ok (.iconst 0, 1) := by decide +kernel
theorem dX3_countFewest_10 : decode cX3_countFewest 10 = .ok (.iastore, 1) := by decide +kernel
theorem dX3_countFewest_11 : decode cX3_countFewest 11 = .ok (.iconst 0, 1) := by decide +kernel
theorem dX3_countFewest_12 : decode cX3_countFewest 12 = .ok (.istore 4, 2) := by decide +kernel
theorem dX3_countFewest_14 : decode cX3_countFewest 14 = .ok (.iconst 0, 1) := by decide +kernel
theorem dX3_countFewest_15 : decode cX3_countFewest 15 = .ok (.istore 5, 2) := by decide +kernel
theorem dX3_countFewest_17 : decode cX3_countFewest 17 = .ok (.iload 5, 2) := by decide +kernel
theorem dX3_countFewest_19 : decode cX3_countFewest 19 = .ok (.iconst 4, 1) := by decide +kernel
theorem dX3_countFewest_20 : decode cX3_countFewest 20 = .ok (.if_icmp .ge 86, 3) := by decide +kernel
theorem dX3_countFewest_23 : decode cX3_countFewest 23 = .ok (.aload_n 2, 1) := by decide +kernel
theorem dX3_countFewest_24 : decode cX3_countFewest 24 = .ok (.iload_n 3, 1) := by decide +kernel
theorem dX3_countFewest_25 : decode cX3_countFewest 25 = .ok (.iconst 4, 1) := by decide +kernel
theorem dX3_countFewest_26 : decode cX3_countFewest 26 = .ok (.imul, 1) := by decide +kernel
theorem dX3_countFewest_27 : decode cX3_countFewest 27 = .ok (.iload 5, 2) := by decide +kernel
theorem dX3_countFewest_29 : decode cX3_countFewest 29 = .ok (.iadd, 1) := by decide +kernel
theorem dX3_countFewest_30 : decode cX3_countFewest 30 = .ok (.iaload, 1) := by decide +kernel
theorem dX3_countFewest_31 : decode cX3_countFewest 31 = .ok (.istore 6, 2) := by decide +kernel
theorem dX3_countFewest_33 : decode cX3_countFewest 33 = .ok (.iconst 1, 1) := by decide +kernel
theorem dX3_countFewest_34 : decode cX3_countFewest 34 = .ok (.istore 7, 2) := by decide +kernel
theorem dX3_countFewest_36 : decode cX3_countFewest 36 = .ok (.iload 6, 2) := by decide +kernel
theorem dX3_countFewest_38 : decode cX3_countFewest 38 = .ok (.ifCond .le 62, 3) := by decide +kernel
theorem dX3_countFewest_41 : decode cX3_countFewest 41 = .ok (.iload 7, 2) := by decide +kernel
theorem dX3_countFewest_43 : decode cX3_countFewest 43 = .ok (.bipush 9, 2) := by decide +kernel
theorem dX3_countFewest_45 : decode cX3_countFewest 45 = .ok (.if_icmp .gt 55, 3) := by decide +kernel
theorem dX3_countFewest_48 : decode cX3_countFewest 48 = .ok (.iload 7, 2) := by decide +kernel
theorem dX3_countFewest_50 : decode cX3_countFewest 50 = .ok (.iload 6, 2) := by decide +kernel
theorem dX3_countFewest_52 : decode cX3_countFewest 52 = .ok (.invokestatic 29, 3) := by decide +kernel
theorem dX3_countFewest_55 : decode cX3_countFewest 55 = .ok (.istore 8, 2) := by decide +kernel
theorem dX3_countFewest_57 : decode cX3_countFewest 57 = .ok (.iload 4, 2) := by decide +kernel
theorem dX3_countFewest_59 : decode cX3_countFewest 59 = .ok (.iload 8, 2) := by decide +kernel
theorem dX3_countFewest_61 : decode cX3_countFewest 61 = .ok (.aload_n 1, 1) := by decide +kernel
theorem dX3_countFewest_62 : decode cX3_countFewest 62 = .ok (.iload 5, 2) := by decide +kernel
theorem dX3_countFewest_64 : decode cX3_countFewest 64 = .ok (.iaload, 1) := by decide +kernel
theorem dX3_countFewest_65 : decode cX3_countFewest 65 = .ok (.imul, 1) := by decide +kernel
theorem dX3_countFewest_66 : decode cX3_countFewest 66 = .ok (.iadd, 1) := by decide +kernel
theorem dX3_countFewest_67 : decode cX3_countFewest 67 = .ok (.istore 4, 2) := by decide +kernel
theorem dX3_countFewest_69 : decode cX3_countFewest 69 = .ok (.aload_n 0, 1) := by decide +kernel
theorem dX3_countFewest_70 : decode cX3_countFewest 70 = .ok (.iload 4, 2) := by decide +kernel
theorem dX3_countFewest_72 : decode cX3_countFewest 72 = .ok (.iload 8, 2) := by decide +kernel
theorem dX3_countFewest_74 : decode cX3_countFewest 74 = .ok (.aload_n 1, 1) := by decide +kernel
theorem dX3_countFewest_75 : decode cX3_countFewest 75 = .ok (.iload 5, 2) := by decide +kernel
theorem dX3_countFewest_77 : decode cX3_countFewest 77 = .ok (.iaload, 1) := by decide +kernel
theorem dX3_countFewest_78 : decode cX3_countFewest 78 = .ok (.imul, 1) := by decide +kernel
theorem dX3_countFewest_79 : decode cX3_countFewest 79 = .ok (.iload 8, 2) := by decide +kernel
theorem dX3_countFewest_81 : decode cX3_countFewest 81 = .ok (.invokestatic 54, 3) := by decide +kernel
theorem dX3_countFewest_84 : decode cX3_countFewest 84 = .ok (.iload 6, 2) := by decide +kernel
theorem dX3_countFewest_86 : decode cX3_countFewest 86 = .ok (.iload 8, 2) := by decide +kernel
theorem dX3_countFewest_88 : decode cX3_countFewest 88 = .ok (.isub, 1) := by decide +kernel
theorem dX3_countFewest_89 : decode cX3_countFewest 89 = .ok (.istore 6, 2) := by decide +kernel
theorem dX3_countFewest_91 : decode cX3_countFewest 91 = .ok (.iload 7, 2) := by decide +kernel
theorem dX3_countFewest_93 : decode cX3_countFewest 93 = .ok (.iconst 2, 1) := by decide +kernel
theorem dX3_countFewest_94 : decode cX3_countFewest 94 = .ok (.imul, 1) := by decide +kernel
theorem dX3_countFewest_95 : decode cX3_countFewest 95 = .ok (.istore 7, 2) := by decide +kernel
theorem dX3_countFewest_97 : decode cX3_countFewest 97 = .ok (.goto (-61), 3) := by decide +kernel
theorem dX3_countFewest_100 : decode cX3_countFewest 100 = .ok (.iinc 5 1, 3) := by decide +kernel
theorem dX3_countFewest_103 : decode cX3_countFewest 103 = .ok (.goto (-86), 3) := by decide +kernel
theorem dX3_countFewest_106 : decode cX3_countFewest 106 = .ok (.iload 4, 2) := by decide +kernel
theorem dX3_countFewest_108 : decode cX3_countFewest 108 = .ok (.ireturn, 1) := by decide +kernel
theorem dX3_offerBundle_0 : decode cX3_offerBundle 0 = .ok (.iload_n 1, 1) := by decide +kernel
theorem dX3_offerBundle_1 : decode cX3_offerBundle 1 = .ok (.istore 4, 2) := by decide +kernel
theorem dX3_offerBundle_3 : decode cX3_offerBundle 3 = .ok (.iload 4, 2) := by decide +kernel
theorem dX3_offerBundle_5 : decode cX3_offerBundle 5 = .ok (.iload_n 2, 1) := by decide +kernel
theorem dX3_offerBundle_6 : decode cX3_offerBundle 6 = .ok (.if_icmp .lt 34, 3) := by decide +kernel
theorem dX3_offerBundle_9 : decode cX3_offerBundle 9 = .ok (.aload_n 0, 1) := by decide +kernel
theorem dX3_offerBundle_10 : decode cX3_offerBundle 10 = .ok (.iload 4, 2) := by decide +kernel
theorem dX3_offerBundle_12 : decode cX3_offerBundle 12 = .ok (.iload_n 2, 1) := by decide +kernel
theorem dX3_offerBundle_13 : decode cX3_offerBundle 13 = .ok (.isub, 1) := by decide +kernel
theorem dX3_offerBundle_14 : decode cX3_offerBundle 14 = .ok (.iaload, 1) := by decide +kernel
theorem dX3_offerBundle_15 : decode cX3_offerBundle 15 = .ok (.iload_n 3, 1) := by decide +kernel
theorem dX3_offerBundle_16 : decode cX3_offerBundle 16 = .ok (.iadd, 1) := by decide +kernel
theorem dX3_offerBundle_17 : decode cX3_offerBundle 17 = .ok (.istore 5, 2) := by decide +kernel
theorem dX3_offerBundle_19 : decode cX3_offerBundle 19 = .ok (.iload 5, 2) := by decide +kernel
theorem dX3_offerBundle_21 : decode cX3_offerBundle 21 = .ok (.aload_n 0, 1) := by decide +kernel
theorem dX3_offerBundle_22 : decode cX3_offerBundle 22 = .ok (.iload 4, 2) := by decide +kernel
theorem dX3_offerBundle_24 : decode cX3_offerBundle 24 = .ok (.iaload, 1) := by decide +kernel
theorem dX3_offerBundle_25 : decode cX3_offerBundle 25 = .ok (.if_icmp .ge 9, 3) := by decide +kernel
theorem dX3_offerBundle_28 : decode cX3_offerBundle 28 = .ok (.aload_n 0, 1) := by decide +kernel
theorem dX3_offerBundle_29 : decode cX3_offerBundle 29 = .ok (.iload 4, 2) := by decide +kernel
theorem dX3_offerBundle_31 : decode cX3_offerBundle 31 = .ok (.iload 5, 2) := by decide +kernel
theorem dX3_offerBundle_33 : decode cX3_offerBundle 33 = .ok (.iastore, 1) := by decide +kernel
theorem dX3_offerBundle_34 : decode cX3_offerBundle 34 = .ok (.iinc 4 (-1), 3) := by decide +kernel
theorem dX3_offerBundle_37 : decode cX3_offerBundle 37 = .ok (.goto (-34), 3) := by decide +kernel
theorem dX3_offerBundle_40 : decode cX3_offerBundle 40 = .ok (.return_, 1) := by decide +kernel
theorem dX3_firstWay_0 : decode cX3_firstWay 0 = .ok (.iload_n 2, 1) := by decide +kernel
theorem dX3_firstWay_1 : decode cX3_firstWay 1 = .ok (.iconst 4, 1) := by decide +kernel
theorem dX3_firstWay_2 : decode cX3_firstWay 2 = .ok (.imul, 1) := by decide +kernel
theorem dX3_firstWay_3 : decode cX3_firstWay 3 = .ok (.istore 5, 2) := by decide +kernel
theorem dX3_firstWay_5 : decode cX3_firstWay 5 = .ok (.iconst 0, 1) := by decide +kernel
theorem dX3_firstWay_6 : decode cX3_firstWay 6 = .ok (.istore 6, 2) := by decide +kernel
theorem dX3_firstWay_8 : decode cX3_firstWay 8 = .ok (.iload 6, 2) := by decide +kernel
theorem dX3_firstWay_10 : decode cX3_firstWay 10 = .ok (.aload_n 1, 1) := by decide +kernel
theorem dX3_firstWay_11 : decode cX3_firstWay 11 = .ok (.iload 5, 2) := by decide +kernel
theorem dX3_firstWay_13 : decode cX3_firstWay 13 = .ok (.iaload, 1) := by decide +kernel
theorem dX3_firstWay_14 : decode cX3_firstWay 14 = .ok (.if_icmp .gt 134, 3) := by decide +kernel
theorem dX3_firstWay_17 : decode cX3_firstWay 17 = .ok (.iconst 0, 1) := by decide +kernel
theorem dX3_firstWay_18 : decode cX3_firstWay 18 = .ok (.istore 7, 2) := by decide +kernel
theorem dX3_firstWay_20 : decode cX3_firstWay 20 = .ok (.iload 7, 2) := by decide +kernel
theorem dX3_firstWay_22 : decode cX3_firstWay 22 = .ok (.aload_n 1, 1) := by decide +kernel
theorem dX3_firstWay_23 : decode cX3_firstWay 23 = .ok (.iload 5, 2) := by decide +kernel
theorem dX3_firstWay_25 : decode cX3_firstWay 25 = .ok (.iconst 1, 1) := by decide +kernel
theorem dX3_firstWay_26 : decode cX3_firstWay 26 = .ok (.iadd, 1) := by decide +kernel
theorem dX3_firstWay_27 : decode cX3_firstWay 27 = .ok (.iaload, 1) := by decide +kernel
theorem dX3_firstWay_28 : decode cX3_firstWay 28 = .ok (.if_icmp .gt 114, 3) := by decide +kernel
theorem dX3_firstWay_31 : decode cX3_firstWay 31 = .ok (.iconst 0, 1) := by decide +kernel
theorem dX3_firstWay_32 : decode cX3_firstWay 32 = .ok (.istore 8, 2) := by decide +kernel
theorem dX3_firstWay_34 : decode cX3_firstWay 34 = .ok (.iload 8, 2) := by decide +kernel
theorem dX3_firstWay_36 : decode cX3_firstWay 36 = .ok (.aload_n 1, 1) := by decide +kernel
theorem dX3_firstWay_37 : decode cX3_firstWay 37 = .ok (.iload 5, 2) := by decide +kernel
theorem dX3_firstWay_39 : decode cX3_firstWay 39 = .ok (.iconst 2, 1) := by decide +kernel
theorem dX3_firstWay_40 : decode cX3_firstWay 40 = .ok (.iadd, 1) := by decide +kernel
theorem dX3_firstWay_41 : decode cX3_firstWay 41 = .ok (.iaload, 1) := by decide +kernel
theorem dX3_firstWay_42 : decode cX3_firstWay 42 = .ok (.if_icmp .gt 94, 3) := by decide +kernel
theorem dX3_firstWay_45 : decode cX3_firstWay 45 = .ok (.iload 4, 2) := by decide +kernel
theorem dX3_firstWay_47 : decode cX3_firstWay 47 = .ok (.iload 6, 2) := by decide +kernel
theorem dX3_firstWay_49 : decode cX3_firstWay 49 = .ok (.isub, 1) := by decide +kernel
theorem dX3_firstWay_50 : decode cX3_firstWay 50 = .ok (.iload 7, 2) := by decide +kernel
theorem dX3_firstWay_52 : decode cX3_firstWay 52 = .ok (.isub, 1) := by decide +kernel
theorem dX3_firstWay_53 : decode cX3_firstWay 53 = .ok (.iload 8, 2) := by decide +kernel
theorem dX3_firstWay_55 : decode cX3_firstWay 55 = .ok (.isub, 1) := by decide +kernel
theorem dX3_firstWay_56 : decode cX3_firstWay 56 = .ok (.istore 9, 2) := by decide +kernel
theorem dX3_firstWay_58 : decode cX3_firstWay 58 = .ok (.iload 6, 2) := by decide +kernel
theorem dX3_firstWay_60 : decode cX3_firstWay 60 = .ok (.aload_n 0, 1) := by decide +kernel
theorem dX3_firstWay_61 : decode cX3_firstWay 61 = .ok (.iconst 0, 1) := by decide +kernel
theorem dX3_firstWay_62 : decode cX3_firstWay 62 = .ok (.iaload, 1) := by decide +kernel
theorem dX3_firstWay_63 : decode cX3_firstWay 63 = .ok (.imul, 1) := by decide +kernel
theorem dX3_firstWay_64 : decode cX3_firstWay 64 = .ok (.iload 7, 2) := by decide +kernel
theorem dX3_firstWay_66 : decode cX3_firstWay 66 = .ok (.aload_n 0, 1) := by decide +kernel
theorem dX3_firstWay_67 : decode cX3_firstWay 67 = .ok (.iconst 1, 1) := by decide +kernel
theorem dX3_firstWay_68 : decode cX3_firstWay 68 = .ok (.iaload, 1) := by decide +kernel
theorem dX3_firstWay_69 : decode cX3_firstWay 69 = .ok (.imul, 1) := by decide +kernel
theorem dX3_firstWay_70 : decode cX3_firstWay 70 = .ok (.iadd, 1) := by decide +kernel
theorem dX3_firstWay_71 : decode cX3_firstWay 71 = .ok (.iload 8, 2) := by decide +kernel
theorem dX3_firstWay_73 : decode cX3_firstWay 73 = .ok (.aload_n 0, 1) := by decide +kernel
theorem dX3_firstWay_74 : decode cX3_firstWay 74 = .ok (.iconst 2, 1) := by decide +kernel
theorem dX3_firstWay_75 : decode cX3_firstWay 75 = .ok (.iaload, 1) := by decide +kernel
theorem dX3_firstWay_76 : decode cX3_firstWay 76 = .ok (.imul, 1) := by decide +kernel
theorem dX3_firstWay_77 : decode cX3_firstWay 77 = .ok (.iadd, 1) := by decide +kernel
theorem dX3_firstWay_78 : decode cX3_firstWay 78 = .ok (.iload 9, 2) := by decide +kernel
theorem dX3_firstWay_80 : decode cX3_firstWay 80 = .ok (.aload_n 0, 1) := by decide +kernel
theorem dX3_firstWay_81 : decode cX3_firstWay 81 = .ok (.iconst 3, 1) := by decide +kernel
theorem dX3_firstWay_82 : decode cX3_firstWay 82 = .ok (.iaload, 1) := by decide +kernel
theorem dX3_firstWay_83 : decode cX3_firstWay 83 = .ok (.imul, 1) := by decide +kernel
theorem dX3_firstWay_84 : decode cX3_firstWay 84 = .ok (.iadd, 1) := by decide +kernel
theorem dX3_firstWay_85 : decode cX3_firstWay 85 = .ok (.istore 10, 2) := by decide +kernel
theorem dX3_firstWay_87 : decode cX3_firstWay 87 = .ok (.iload 10, 2) := by decide +kernel
theorem dX3_firstWay_89 : decode cX3_firstWay 89 = .ok (.iload_n 3, 1) := by decide +kernel
theorem dX3_firstWay_90 : decode cX3_firstWay 90 = .ok (.if_icmp .ne 40, 3) := by decide +kernel
theorem dX3_firstWay_93 : decode cX3_firstWay 93 = .ok (.iload 9, 2) := by decide +kernel
theorem dX3_firstWay_95 : decode cX3_firstWay 95 = .ok (.iconst 0, 1) := by decide +kernel
theorem dX3_firstWay_96 : decode cX3_firstWay 96 = .ok (.aload_n 1, 1) := by decide +kernel
theorem dX3_firstWay_97 : decode cX3_firstWay 97 = .ok (.iload 5, 2) := by decide +kernel
theorem dX3_firstWay_99 : decode cX3_firstWay 99 = .ok (.iconst 3, 1) := by decide +kernel
theorem dX3_firstWay_100 : decode cX3_firstWay 100 = .ok (.iadd, 1) := by decide +kernel
theorem dX3_firstWay_101 : decode cX3_firstWay 101 = .ok (.iaload, 1) := by decide +kernel
theorem dX3_firstWay_102 : decode cX3_firstWay 102 = .ok (.invokestatic 58, 3) := by decide +kernel
theorem dX3_firstWay_105 : decode cX3_firstWay 105 = .ok (.ifCond .eq 25, 3) := by decide +kernel
theorem dX3_firstWay_108 : decode cX3_firstWay 108 = .ok (.iload 6, 2) := by decide +kernel
theorem dX3_firstWay_110 : decode cX3_firstWay 110 = .ok (.sipush 1000, 3) := by decide +kernel
theorem dX3_firstWay_113 : decode cX3_firstWay 113 = .ok (.imul, 1) := by decide +kernel
theorem dX3_firstWay_114 : decode cX3_firstWay 114 = .ok (.iload 7, 2) := by decide +kernel
theorem dX3_firstWay_116 : decode cX3_firstWay 116 = .ok (.bipush 100, 2) := by decide +kernel
theorem dX3_firstWay_118 : decode cX3_firstWay 118 = .ok (.imul, 1) := by decide +kernel
theorem dX3_firstWay_119 : decode cX3_firstWay 119 = .ok (.iadd, 1) := by decide +kernel
theorem dX3_firstWay_120 : decode cX3_firstWay 120 = .ok (.iload 8, 2) := by decide +kernel
theorem dX3_firstWay_122 : decode cX3_firstWay 122 = .ok (.bipush 10, 2) := by decide +kernel
theorem dX3_firstWay_124 : decode cX3_firstWay 124 = .ok (.imul, 1) := by decide +kernel
theorem dX3_firstWay_125 : decode cX3_firstWay 125 = .ok (.iadd, 1) := by decide +kernel
theorem dX3_firstWay_126 : decode cX3_firstWay 126 = .ok (.iload 9, 2) := by decide +kernel
theorem dX3_firstWay_128 : decode cX3_firstWay 128 = .ok (.iadd, 1) := by decide +kernel
theorem dX3_firstWay_129 : decode cX3_firstWay 129 = .ok (.ireturn, 1) := by decide +kernel
theorem dX3_firstWay_130 : decode cX3_firstWay 130 = .ok (.iinc 8 1, 3) := by decide +kernel
theorem dX3_firstWay_133 : decode cX3_firstWay 133 = .ok (.goto (-99), 3) := by decide +kernel
theorem dX3_firstWay_136 : decode cX3_firstWay 136 = .ok (.iinc 7 1, 3) := by decide +kernel
theorem dX3_firstWay_139 : decode cX3_firstWay 139 = .ok (.goto (-119), 3) := by decide +kernel
theorem dX3_firstWay_142 : decode cX3_firstWay 142 = .ok (.iinc 6 1, 3) := by decide +kernel
theorem dX3_firstWay_145 : decode cX3_firstWay 145 = .ok (.goto (-137), 3) := by decide +kernel
theorem dX3_firstWay_148 : decode cX3_firstWay 148 = .ok (.iconst 0, 1) := by decide +kernel
theorem dX3_firstWay_149 : decode cX3_firstWay 149 = .ok (.ireturn, 1) := by decide +kernel
theorem dX3_figureOf_0 : decode cX3_figureOf 0 = .ok (.iload_n 0, 1) := by decide +kernel
theorem dX3_figureOf_1 : decode cX3_figureOf 1 = .ok (.istore_n 2, 1) := by decide +kernel
theorem dX3_figureOf_2 : decode cX3_figureOf 2 = .ok (.iconst 3, 1) := by decide +kernel
theorem dX3_figureOf_3 : decode cX3_figureOf 3 = .ok (.istore_n 3, 1) := by decide +kernel
theorem dX3_figureOf_4 : decode cX3_figureOf 4 = .ok (.iload_n 3, 1) := by decide +kernel
theorem dX3_figureOf_5 : decode cX3_figureOf 5 = .ok (.iload_n 1, 1) := by decide +kernel
theorem dX3_figureOf_6 : decode cX3_figureOf 6 = .ok (.if_icmp .le 14, 3) := by decide +kernel
theorem dX3_figureOf_9 : decode cX3_figureOf 9 = .ok (.iload_n 2, 1) := by decide +kernel
theorem dX3_figureOf_10 : decode cX3_figureOf 10 = .ok (.bipush 10, 2) := by decide +kernel
theorem dX3_figureOf_12 : decode cX3_figureOf 12 = .ok (.idiv, 1) := by decide +kernel
theorem dX3_figureOf_13 : decode cX3_figureOf 13 = .ok (.istore_n 2, 1) := by decide +kernel
theorem dX3_figureOf_14 : decode cX3_figureOf 14 = .ok (.iinc 3 (-1), 3) := by decide +kernel
theorem dX3_figureOf_17 : decode cX3_figureOf 17 = .ok (.goto (-13), 3) := by decide +kernel
theorem dX3_figureOf_20 : decode cX3_figureOf 20 = .ok (.iload_n 2, 1) := by decide +kernel
theorem dX3_figureOf_21 : decode cX3_figureOf 21 = .ok (.bipush 10, 2) := by decide +kernel
theorem dX3_figureOf_23 : decode cX3_figureOf 23 = .ok (.irem, 1) := by decide +kernel
theorem dX3_figureOf_24 : decode cX3_figureOf 24 = .ok (.ireturn, 1) := by decide +kernel
theorem dX4_init_0 : decode cX4_init 0 = .ok (.aload_n 0, 1) := by decide +kernel
theorem dX4_init_1 : decode cX4_init 1 = .ok (.invokespecial 3, 3) := by decide +kernel
theorem dX4_init_4 : decode cX4_init 4 = .ok (.aload_n 0, 1) := by decide +kernel
theorem dX4_init_5 : decode cX4_init 5 = .ok (.bipush 16, 2) := by decide +kernel
theorem dX4_init_7 : decode cX4_init 7 = .ok (.newarray .int, 2) := by decide +kernel
theorem dX4_init_9 : decode cX4_init 9 = .ok (.putfield 9, 3) := by decide +kernel
theorem dX4_init_12 : decode cX4_init 12 = .ok (.return_, 1) := by decide +kernel
theorem dX4_begin_0 : decode cX4_begin 0 = .ok (.aload_n 1, 1) := by decide +kernel
theorem dX4_begin_1 : decode cX4_begin 1 = .ok (.getfield 15, 3) := by decide +kernel
theorem dX4_begin_4 : decode cX4_begin 4 = .ok (.iconst 0, 1) := by decide +kernel
theorem dX4_begin_5 : decode cX4_begin 5 = .ok (.aload_n 0, 1) := by decide +kernel
theorem dX4_begin_6 : decode cX4_begin 6 = .ok (.getfield 9, 3) := by decide +kernel
theorem dX4_begin_9 : decode cX4_begin 9 = .ok (.iconst 0, 1) := by decide +kernel
theorem dX4_begin_10 : decode cX4_begin 10 = .ok (.aload_n 0, 1) := by decide +kernel
theorem dX4_begin_11 : decode cX4_begin 11 = .ok (.getfield 9, 3) := by decide +kernel
theorem dX4_begin_14 : decode cX4_begin 14 = .ok (.arraylength, 1) := by decide +kernel
theorem dX4_begin_15 : decode cX4_begin 15 = .ok (.invokestatic 20, 3) := by decide +kernel
theorem dX4_begin_18 : decode cX4_begin 18 = .ok (.aload_n 0, 1) := by decide +kernel
theorem dX4_begin_19 : decode cX4_begin 19 = .ok (.iconst 0, 1) := by decide +kernel
theorem dX4_begin_20 : decode cX4_begin 20 = .ok (.putfield 26, 3) := by decide +kernel
theorem dX4_begin_23 : decode cX4_begin 23 = .ok (.aload_n 0, 1) := by decide +kernel
theorem dX4_begin_24 : decode cX4_begin 24 = .ok (.iconst 0, 1) := by decide +kernel
theorem dX4_begin_25 : decode cX4_begin 25 = .ok (.putfield 30, 3) := by decide +kernel
theorem dX4_begin_28 : decode cX4_begin 28 = .ok (.return_, 1) := by decide +kernel
theorem dX4_copyFrom_0 : decode cX4_copyFrom 0 = .ok (.aload_n 1, 1) := by decide +kernel
theorem dX4_copyFrom_1 : decode cX4_copyFrom 1 = .ok (.getfield 9, 3) := by decide +kernel
theorem dX4_copyFrom_4 : decode cX4_copyFrom 4 = .ok (.iconst 0, 1) := by decide +kernel
theorem dX4_copyFrom_5 : decode cX4_copyFrom 5 = .ok (.aload_n 0, 1) := by decide +kernel
theorem dX4_copyFrom_6 : decode cX4_copyFrom 6 = .ok (.getfield 9, 3) := by decide +kernel
theorem dX4_copyFrom_9 : decode cX4_copyFrom 9 = .ok (.iconst 0, 1) := by decide +kernel
theorem dX4_copyFrom_10 : decode cX4_copyFrom 10 = .ok (.aload_n 0, 1) := by decide +kernel
theorem dX4_copyFrom_11 : decode cX4_copyFrom 11 = .ok (.getfield 9, 3) := by decide +kernel
theorem dX4_copyFrom_14 : decode cX4_copyFrom 14 = .ok (.arraylength, 1) := by decide +kernel
theorem dX4_copyFrom_15 : decode cX4_copyFrom 15 = .ok (.invokestatic 20, 3) := by decide +kernel
theorem dX4_copyFrom_18 : decode cX4_copyFrom 18 = .ok (.aload_n 0, 1) := by decide +kernel
theorem dX4_copyFrom_19 : decode cX4_copyFrom 19 = .ok (.aload_n 1, 1) := by decide +kernel
theorem dX4_copyFrom_20 : decode cX4_copyFrom 20 = .ok (.getfield 26, 3) := by decide +kernel
theorem dX4_copyFrom_23 : decode cX4_copyFrom 23 = .ok (.putfield 26, 3) := by decide +kernel
theorem dX4_copyFrom_26 : decode cX4_copyFrom 26 = .ok (.aload_n 0, 1) := by decide +kernel
theorem dX4_copyFrom_27 : decode cX4_copyFrom 27 = .ok (.aload_n 1, 1) := by decide +kernel
theorem dX4_copyFrom_28 : decode cX4_copyFrom 28 = .ok (.getfield 30, 3) := by decide +kernel
theorem dX4_copyFrom_31 : decode cX4_copyFrom 31 = .ok (.putfield 30, 3) := by decide +kernel
theorem dX4_copyFrom_34 : decode cX4_copyFrom 34 = .ok (.return_, 1) := by decide +kernel
theorem dX4_add_0 : decode cX4_add 0 = .ok (.aload_n 0, 1) := by decide +kernel
theorem dX4_add_1 : decode cX4_add 1 = .ok (.getfield 9, 3) := by decide +kernel
theorem dX4_add_4 : decode cX4_add 4 = .ok (.iload_n 1, 1) := by decide +kernel
theorem dX4_add_5 : decode cX4_add 5 = .ok (.bipush 9, 2) := by decide +kernel
theorem dX4_add_7 : decode cX4_add 7 = .ok (.aload_n 0, 1) := by decide +kernel
theorem dX4_add_8 : decode cX4_add 8 = .ok (.getfield 9, 3) := by decide +kernel
theorem dX4_add_11 : decode cX4_add 11 = .ok (.iload_n 1, 1) := by decide +kernel
theorem dX4_add_12 : decode cX4_add 12 = .ok (.iaload, 1) := by decide +kernel
theorem dX4_add_13 : decode cX4_add 13 = .ok (.iload_n 2, 1) := by decide +kernel
theorem dX4_add_14 : decode cX4_add 14 = .ok (.iadd, 1) := by decide +kernel
theorem dX4_add_15 : decode cX4_add 15 = .ok (.invokestatic 33, 3) := by decide +kernel
theorem dX4_add_18 : decode cX4_add 18 = .ok (.iastore, 1) := by decide +kernel
theorem dX4_add_19 : decode cX4_add 19 = .ok (.return_, 1) := by decide +kernel
theorem dX5_init_0 : decode cX5_init 0 = .ok (.aload_n 0, 1) := by decide +kernel
theorem dX5_init_1 : decode cX5_init 1 = .ok (.invokespecial 3, 3) := by decide +kernel
theorem dX5_init_4 : decode cX5_init 4 = .ok (.aload_n 0, 1) := by decide +kernel
theorem dX5_init_5 : decode cX5_init 5 = .ok (.sipush 4096, 3) := by decide +kernel
theorem dX5_init_8 : decode cX5_init 8 = .ok (.newarray .short, 2) := by decide +kernel
theorem dX5_init_10 : decode cX5_init 10 = .ok (.putfield 9, 3) := by decide +kernel
theorem dX5_init_13 : decode cX5_init 13 = .ok (.aload_n 0, 1) := by decide +kernel
theorem dX5_init_14 : decode cX5_init 14 = .ok (.iconst 4, 1) := by decide +kernel
theorem dX5_init_15 : decode cX5_init 15 = .ok (.newarray .int, 2) := by decide +kernel
theorem dX5_init_17 : decode cX5_init 17 = .ok (.putfield 15, 3) := by decide +kernel
theorem dX5_init_20 : decode cX5_init 20 = .ok (.aload_n 0, 1) := by decide +kernel
theorem dX5_init_21 : decode cX5_init 21 = .ok (.iconst (-1), 1) := by decide +kernel
theorem dX5_init_22 : decode cX5_init 22 = .ok (.putfield 19, 3) := by decide +kernel
theorem dX5_init_25 : decode cX5_init 25 = .ok (.return_, 1) := by decide +kernel
theorem dX5_prepare_0 : decode cX5_prepare 0 = .ok (.aload_n 0, 1) := by decide +kernel
theorem dX5_prepare_1 : decode cX5_prepare 1 = .ok (.getfield 19, 3) := by decide +kernel
theorem dX5_prepare_4 : decode cX5_prepare 4 = .ok (.iload_n 1, 1) := by decide +kernel
theorem dX5_prepare_5 : decode cX5_prepare 5 = .ok (.if_icmp .ne 4, 3) := by decide +kernel
theorem dX5_prepare_8 : decode cX5_prepare 8 = .ok (.return_, 1) := by decide +kernel
theorem dX5_prepare_9 : decode cX5_prepare 9 = .ok (.aload_n 0, 1) := by decide +kernel
theorem dX5_prepare_10 : decode cX5_prepare 10 = .ok (.iload_n 1, 1) := by decide +kernel
theorem dX5_prepare_11 : decode cX5_prepare 11 = .ok (.putfield 19, 3) := by decide +kernel
theorem dX5_prepare_14 : decode cX5_prepare 14 = .ok (.aload_n 0, 1) := by decide +kernel
theorem dX5_prepare_15 : decode cX5_prepare 15 = .ok (.iload_n 1, 1) := by decide +kernel
theorem dX5_prepare_16 : decode cX5_prepare 16 = .ok (.iload_n 1, 1) := by decide +kernel
theorem dX5_prepare_17 : decode cX5_prepare 17 = .ok (.iconst 1, 1) := by decide +kernel
theorem dX5_prepare_18 : decode cX5_prepare 18 = .ok (.isub, 1) := by decide +kernel
theorem dX5_prepare_19 : decode cX5_prepare 19 = .ok (.imul, 1) := by decide +kernel
theorem dX5_prepare_20 : decode cX5_prepare 20 = .ok (.iconst 2, 1) := by decide +kernel
theorem dX5_prepare_21 : decode cX5_prepare 21 = .ok (.idiv, 1) := by decide +kernel
theorem dX5_prepare_22 : decode cX5_prepare 22 = .ok (.putfield 23, 3) := by decide +kernel
theorem dX5_prepare_25 : decode cX5_prepare 25 = .ok (.iconst 1, 1) := by decide +kernel
theorem dX5_prepare_26 : decode cX5_prepare 26 = .ok (.iconst 2, 1) := by decide +kernel
theorem dX5_prepare_27 : decode cX5_prepare 27 = .ok (.aload_n 0, 1) := by decide +kernel
theorem dX5_prepare_28 : decode cX5_prepare 28 = .ok (.getfield 23, 3) := by decide +kernel
theorem dX5_prepare_31 : decode cX5_prepare 31 = .ok (.imul, 1) := by decide +kernel
theorem dX5_prepare_32 : decode cX5_prepare 32 = .ok (.ishl, 1) := by decide +kernel
theorem dX5_prepare_33 : decode cX5_prepare 33 = .ok (.iconst 1, 1) := by decide +kernel
theorem dX5_prepare_34 : decode cX5_prepare 34 = .ok (.isub, 1) := by decide +kernel
theorem dX5_prepare_35 : decode cX5_prepare 35 = .ok (.istore_n 2, 1) := by decide +kernel
theorem dX5_prepare_36 : decode cX5_prepare 36 = .ok (.iload_n 2, 1) := by decide +kernel
theorem dX5_prepare_37 : decode cX5_prepare 37 = .ok (.ifCond .lt 46, 3) := by decide +kernel
theorem dX5_prepare_40 : decode cX5_prepare 40 = .ok (.aload_n 0, 1) := by decide +kernel
theorem dX5_prepare_41 : decode cX5_prepare 41 = .ok (.iload_n 2, 1) := by decide +kernel
theorem dX5_prepare_42 : decode cX5_prepare 42 = .ok (.invokevirtual 26, 3) := by decide +kernel
theorem dX5_prepare_45 : decode cX5_prepare 45 = .ok (.istore_n 3, 1) := by decide +kernel
theorem dX5_prepare_46 : decode cX5_prepare 46 = .ok (.iload_n 3, 1) := by decide +kernel
theorem dX5_prepare_47 : decode cX5_prepare 47 = .ok (.iconst 1, 1) := by decide +kernel
theorem dX5_prepare_48 : decode cX5_prepare 48 = .ok (.if_icmp .gt 7, 3) := by decide +kernel
theorem dX5_prepare_51 : decode cX5_prepare 51 = .ok (.iconst 0, 1) := by decide +kernel
theorem dX5_prepare_52 : decode cX5_prepare 52 = .ok (.goto 10, 3) := by decide +kernel
theorem dX5_prepare_55 : decode cX5_prepare 55 = .ok (.iconst 1, 1) := by decide +kernel
theorem dX5_prepare_56 : decode cX5_prepare 56 = .ok (.aload_n 0, 1) := by decide +kernel
theorem dX5_prepare_57 : decode cX5_prepare 57 = .ok (.iload_n 2, 1) := by decide +kernel
theorem dX5_prepare_58 : decode cX5_prepare 58 = .ok (.invokevirtual 30, 3) := by decide +kernel
theorem dX5_prepare_61 : decode cX5_prepare 61 = .ok (.iadd, 1) := by decide +kernel
theorem dX5_prepare_62 : decode cX5_prepare 62 = .ok (.istore 4, 2) := by decide +kernel
theorem dX5_prepare_64 : decode cX5_prepare 64 = .ok (.aload_n 0, 1) := by decide +kernel
theorem dX5_prepare_65 : decode cX5_prepare 65 = .ok (.getfield 9, 3) := by decide +kernel
theorem dX5_prepare_68 : decode cX5_prepare 68 = .ok (.iload_n 2, 1) := by decide +kernel
theorem dX5_prepare_69 : decode cX5_prepare 69 = .ok (.iload_n 3, 1) := by decide +kernel
theorem dX5_prepare_70 : decode cX5_prepare 70 = .ok (.iconst 3, 1) := by decide +kernel
theorem dX5_prepare_71 : decode cX5_prepare 71 = .ok (.ishl, 1) := by decide +kernel
theorem dX5_prepare_72 : decode cX5_prepare 72 = .ok (.iload 4, 2) := by decide +kernel
theorem dX5_prepare_74 : decode cX5_prepare 74 = .ok (.ior, 1) := by decide +kernel
theorem dX5_prepare_75 : decode cX5_prepare 75 = .ok (.i2s, 1) := by decide +kernel
theorem dX5_prepare_76 : decode cX5_prepare 76 = .ok (.sastore, 1) := by decide +kernel
theorem dX5_prepare_77 : decode cX5_prepare 77 = .ok (.iinc 2 (-1), 3) := by decide +kernel
theorem dX5_prepare_80 : decode cX5_prepare 80 = .ok (.goto (-44), 3) := by decide +kernel
theorem dX5_prepare_83 : decode cX5_prepare 83 = .ok (.return_, 1) := by decide +kernel
theorem dX5_ordersLeft_0 : decode cX5_ordersLeft 0 = .ok (.aload_n 0, 1) := by decide +kernel
theorem dX5_ordersLeft_1 : decode cX5_ordersLeft 1 = .ok (.getfield 9, 3) := by decide +kernel
theorem dX5_ordersLeft_4 : decode cX5_ordersLeft 4 = .ok (.iload_n 1, 1) := by decide +kernel
theorem dX5_ordersLeft_5 : decode cX5_ordersLeft 5 = .ok (.saload, 1) := by decide +kernel
theorem dX5_ordersLeft_6 : decode cX5_ordersLeft 6 = .ok (.iconst 3, 1) := by decide +kernel
theorem dX5_ordersLeft_7 : decode cX5_ordersLeft 7 = .ok (.ishr, 1) := by decide +kernel
theorem dX5_ordersLeft_8 : decode cX5_ordersLeft 8 = .ok (.ireturn, 1) := by decide +kernel
theorem dX5_worstOf_0 : decode cX5_worstOf 0 = .ok (.aload_n 0, 1) := by decide +kernel
theorem dX5_worstOf_1 : decode cX5_worstOf 1 = .ok (.getfield 9, 3) := by decide +kernel
theorem dX5_worstOf_4 : decode cX5_worstOf 4 = .ok (.iload_n 1, 1) := by decide +kernel
theorem dX5_worstOf_5 : decode cX5_worstOf 5 = .ok (.saload, 1) := by decide +kernel
theorem dX5_worstOf_6 : decode cX5_worstOf 6 = .ok (.bipush 7, 2) := by decide +kernel
theorem dX5_worstOf_8 : decode cX5_worstOf 8 = .ok (.iand, 1) := by decide +kernel
theorem dX5_worstOf_9 : decode cX5_worstOf 9 = .ok (.ireturn, 1) := by decide +kernel
theorem dX5_nextPair_0 : decode cX5_nextPair 0 = .ok (.aload_n 0, 1) := by decide +kernel
theorem dX5_nextPair_1 : decode cX5_nextPair 1 = .ok (.iload_n 1, 1) := by decide +kernel
theorem dX5_nextPair_2 : decode cX5_nextPair 2 = .ok (.invokevirtual 33, 3) := by decide +kernel
theorem dX5_nextPair_5 : decode cX5_nextPair 5 = .ok (.istore_n 2, 1) := by decide +kernel
theorem dX5_nextPair_6 : decode cX5_nextPair 6 = .ok (.iload_n 2, 1) := by decide +kernel
theorem dX5_nextPair_7 : decode cX5_nextPair 7 = .ok (.ifCond .ne 6, 3) := by decide +kernel
theorem dX5_nextPair_10 : decode cX5_nextPair 10 = .ok (.bipush (-9), 2) := by decide +kernel
theorem dX5_nextPair_12 : decode cX5_nextPair 12 = .ok (.ireturn, 1) := by decide +kernel
theorem dX5_nextPair_13 : decode cX5_nextPair 13 = .ok (.iconst 0, 1) := by decide +kernel
theorem dX5_nextPair_14 : decode cX5_nextPair 14 = .ok (.istore_n 3, 1) := by decide +kernel
theorem dX5_nextPair_15 : decode cX5_nextPair 15 = .ok (.iload_n 3, 1) := by decide +kernel
theorem dX5_nextPair_16 : decode cX5_nextPair 16 = .ok (.aload_n 0, 1) := by decide +kernel
theorem dX5_nextPair_17 : decode cX5_nextPair 17 = .ok (.getfield 19, 3) := by decide +kernel
theorem dX5_nextPair_20 : decode cX5_nextPair 20 = .ok (.if_icmp .ge 67, 3) := by decide +kernel
theorem dX5_nextPair_23 : decode cX5_nextPair 23 = .ok (.iload_n 3, 1) := by decide +kernel
theorem dX5_nextPair_24 : decode cX5_nextPair 24 = .ok (.iconst 1, 1) := by decide +kernel
theorem dX5_nextPair_25 : decode cX5_nextPair 25 = .ok (.iadd, 1) := by decide +kernel
theorem dX5_nextPair_26 : decode cX5_nextPair 26 = .ok (.istore 4, 2) := by decide +kernel
theorem dX5_nextPair_28 : decode cX5_nextPair 28 = .ok (.iload 4, 2) := by decide +kernel
theorem dX5_nextPair_30 : decode cX5_nextPair 30 = .ok (.aload_n 0, 1) := by decide +kernel
theorem dX5_nextPair_31 : decode cX5_nextPair 31 = .ok (.getfield 19, 3) := by decide +kernel
theorem dX5_nextPair_34 : decode cX5_nextPair 34 = .ok (.if_icmp .ge 47, 3) := by decide +kernel
theorem dX5_nextPair_37 : decode cX5_nextPair 37 = .ok (.iload_n 3, 1) := by decide +kernel
theorem dX5_nextPair_38 : decode cX5_nextPair 38 = .ok (.iload 4, 2) := by decide +kernel
theorem dX5_nextPair_40 : decode cX5_nextPair 40 = .ok (.invokestatic 36, 3) := by decide +kernel
theorem dX5_nextPair_43 : decode cX5_nextPair 43 = .ok (.istore 5, 2) := by decide +kernel
theorem dX5_nextPair_45 : decode cX5_nextPair 45 = .ok (.iload_n 1, 1) := by decide +kernel
theorem dX5_nextPair_46 : decode cX5_nextPair 46 = .ok (.iload 5, 2) := by decide +kernel
theorem dX5_nextPair_48 : decode cX5_nextPair 48 = .ok (.invokestatic 40, 3) := by decide +kernel
theorem dX5_nextPair_51 : decode cX5_nextPair 51 = .ok (.ifCond .ne 24, 3) := by decide +kernel
theorem dX5_nextPair_54 : decode cX5_nextPair 54 = .ok (.aload_n 0, 1) := by decide +kernel
theorem dX5_nextPair_55 : decode cX5_nextPair 55 = .ok (.iload_n 1, 1) := by decide +kernel
theorem dX5_nextPair_56 : decode cX5_nextPair 56 = .ok (.iload 5, 2) := by decide +kernel
theorem dX5_nextPair_58 : decode cX5_nextPair 58 = .ok (.invokevirtual 43, 3) := by decide +kernel
theorem dX5_nextPair_61 : decode cX5_nextPair 61 = .ok (.iload_n 2, 1) := by decide +kernel
theorem dX5_nextPair_62 : decode cX5_nextPair 62 = .ok (.iconst 1, 1) := by decide +kernel
theorem dX5_nextPair_63 : decode cX5_nextPair 63 = .ok (.isub, 1) := by decide +kernel
theorem dX5_nextPair_64 : decode cX5_nextPair 64 = .ok (.if_icmp .ne 11, 3) := by decide +kernel
theorem dX5_nextPair_67 : decode cX5_nextPair 67 = .ok (.bipush 10, 2) := by decide +kernel
theorem dX5_nextPair_69 : decode cX5_nextPair 69 = .ok (.iload_n 3, 1) := by decide +kernel
theorem dX5_nextPair_70 : decode cX5_nextPair 70 = .ok (.imul, 1) := by decide +kernel
theorem dX5_nextPair_71 : decode cX5_nextPair 71 = .ok (.iload 4, 2) := by decide +kernel
theorem dX5_nextPair_73 : decode cX5_nextPair 73 = .ok (.iadd, 1) := by decide +kernel
theorem dX5_nextPair_74 : decode cX5_nextPair 74 = .ok (.ireturn, 1) := by decide +kernel
theorem dX5_nextPair_75 : decode cX5_nextPair 75 = .ok (.iinc 4 1, 3) := by decide +kernel
theorem dX5_nextPair_78 : decode cX5_nextPair 78 = .ok (.goto (-50), 3) := by decide +kernel
theorem dX5_nextPair_81 : decode cX5_nextPair 81 = .ok (.iinc 3 1, 3) := by decide +kernel
theorem dX5_nextPair_84 : decode cX5_nextPair 84 = .ok (.goto (-69), 3) := by decide +kernel
theorem dX5_nextPair_87 : decode cX5_nextPair 87 = .ok (.bipush (-9), 2) := by decide +kernel
theorem dX5_nextPair_89 : decode cX5_nextPair 89 = .ok (.ireturn, 1) := by decide +kernel
theorem dX5_countOrders_0 : decode cX5_countOrders 0 = .ok (.iconst 0, 1) := by decide +kernel
theorem dX5_countOrders_1 : decode cX5_countOrders 1 = .ok (.istore_n 2, 1) := by decide +kernel
theorem dX5_countOrders_2 : decode cX5_countOrders 2 = .ok (.iload_n 2, 1) := by decide +kernel
theorem dX5_countOrders_3 : decode cX5_countOrders 3 = .ok (.aload_n 0, 1) := by decide +kernel
theorem dX5_countOrders_4 : decode cX5_countOrders 4 = .ok (.getfield 23, 3) := by decide +kernel
theorem dX5_countOrders_7 : decode cX5_countOrders 7 = .ok (.if_icmp .ge 50, 3) := by decide +kernel
theorem dX5_countOrders_10 : decode cX5_countOrders 10 = .ok (.iload_n 1, 1) := by decide +kernel
theorem dX5_countOrders_11 : decode cX5_countOrders 11 = .ok (.iload_n 2, 1) := by decide +kernel
theorem dX5_countOrders_12 : decode cX5_countOrders 12 = .ok (.invokestatic 40, 3) := by decide +kernel
theorem dX5_countOrders_15 : decode cX5_countOrders 15 = .ok (.ifCond .ne 36, 3) := by decide +kernel
theorem dX5_countOrders_18 : decode cX5_countOrders 18 = .ok (.aload_n 0, 1) := by decide +kernel
theorem dX5_countOrders_19 : decode cX5_countOrders 19 = .ok (.iload_n 1, 1) := by decide +kernel
theorem dX5_countOrders_20 : decode cX5_countOrders 20 = .ok (.iload_n 2, 1) := by decide +kernel
theorem dX5_countOrders_21 : decode cX5_countOrders 21 = .ok (.iconst 1, 1) := by decide +kernel
theorem dX5_countOrders_22 : decode cX5_countOrders 22 = .ok (.invokestatic 46, 3) := by decide +kernel
theorem dX5_countOrders_25 : decode cX5_countOrders 25 = .ok (.invokevirtual 50, 3) := by decide +kernel
theorem dX5_countOrders_28 : decode cX5_countOrders 28 = .ok (.aload_n 0, 1) := by decide +kernel
theorem dX5_countOrders_29 : decode cX5_countOrders 29 = .ok (.iload_n 1, 1) := by decide +kernel
theorem dX5_countOrders_30 : decode cX5_countOrders 30 = .ok (.iload_n 2, 1) := by decide +kernel
theorem dX5_countOrders_31 : decode cX5_countOrders 31 = .ok (.iconst 2, 1) := by decide +kernel
theorem dX5_countOrders_32 : decode cX5_countOrders 32 = .ok (.invokestatic 46, 3) := by decide +kernel
theorem dX5_countOrders_35 : decode cX5_countOrders 35 = .ok (.invokevirtual 50, 3) := by decide +kernel
theorem dX5_countOrders_38 : decode cX5_countOrders 38 = .ok (.iadd, 1) := by decide +kernel
theorem dX5_countOrders_39 : decode cX5_countOrders 39 = .ok (.aload_n 0, 1) := by decide +kernel
theorem dX5_countOrders_40 : decode cX5_countOrders 40 = .ok (.iload_n 1, 1) := by decide +kernel
theorem dX5_countOrders_41 : decode cX5_countOrders 41 = .ok (.iload_n 2, 1) := by decide +kernel
theorem dX5_countOrders_42 : decode cX5_countOrders 42 = .ok (.iconst 3, 1) := by decide +kernel
theorem dX5_countOrders_43 : decode cX5_countOrders 43 = .ok (.invokestatic 46, 3) := by decide +kernel
theorem dX5_countOrders_46 : decode cX5_countOrders 46 = .ok (.invokevirtual 50, 3) := by decide +kernel
theorem dX5_countOrders_49 : decode cX5_countOrders 49 = .ok (.iadd, 1) := by decide +kernel
theorem dX5_countOrders_50 : decode cX5_countOrders 50 = .ok (.ireturn, 1) := by decide +kernel
theorem dX5_countOrders_51 : decode cX5_countOrders 51 = .ok (.iinc 2 1, 3) := by decide +kernel
theorem dX5_countOrders_54 : decode cX5_countOrders 54 = .ok (.goto (-52), 3) := by decide +kernel
theorem dX5_countOrders_57 : decode cX5_countOrders 57 = .ok (.aload_n 0, 1) := by decide +kernel
theorem dX5_countOrders_58 : decode cX5_countOrders 58 = .ok (.iload_n 1, 1) := by decide +kernel
theorem dX5_countOrders_59 : decode cX5_countOrders 59 = .ok (.invokevirtual 53, 3) := by decide +kernel
theorem dX5_countOrders_62 : decode cX5_countOrders 62 = .ok (.ifCond .eq 7, 3) := by decide +kernel
theorem dX5_countOrders_65 : decode cX5_countOrders 65 = .ok (.iconst 1, 1) := by decide +kernel
theorem dX5_countOrders_66 : decode cX5_countOrders 66 = .ok (.goto 4, 3) := by decide +kernel
theorem dX5_countOrders_69 : decode cX5_countOrders 69 = .ok (.iconst 0, 1) := by decide +kernel
theorem dX5_countOrders_70 : decode cX5_countOrders 70 = .ok (.ireturn, 1) := by decide +kernel
theorem dX5_leastBehind_0 : decode cX5_leastBehind 0 = .ok (.bipush 7, 2) := by decide +kernel
theorem dX5_leastBehind_2 : decode cX5_leastBehind 2 = .ok (.istore_n 2, 1) := by decide +kernel
theorem dX5_leastBehind_3 : decode cX5_leastBehind 3 = .ok (.iconst 0, 1) := by decide +kernel
theorem dX5_leastBehind_4 : decode cX5_leastBehind 4 = .ok (.istore_n 3, 1) := by decide +kernel
theorem dX5_leastBehind_5 : decode cX5_leastBehind 5 = .ok (.iload_n 3, 1) := by decide +kernel
theorem dX5_leastBehind_6 : decode cX5_leastBehind 6 = .ok (.aload_n 0, 1) := by decide +kernel
theorem dX5_leastBehind_7 : decode cX5_leastBehind 7 = .ok (.getfield 23, 3) := by decide +kernel
theorem dX5_leastBehind_10 : decode cX5_leastBehind 10 = .ok (.if_icmp .ge 28, 3) := by decide +kernel
theorem dX5_leastBehind_13 : decode cX5_leastBehind 13 = .ok (.iload_n 1, 1) := by decide +kernel
theorem dX5_leastBehind_14 : decode cX5_leastBehind 14 = .ok (.iload_n 3, 1) := by decide +kernel
theorem dX5_leastBehind_15 : decode cX5_leastBehind 15 = .ok (.invokestatic 40, 3) := by decide +kernel
theorem dX5_leastBehind_18 : decode cX5_leastBehind 18 = .ok (.ifCond .ne 14, 3) := by decide +kernel
theorem dX5_leastBehind_21 : decode cX5_leastBehind 21 = .ok (.iload_n 2, 1) := by decide +kernel
theorem dX5_leastBehind_22 : decode cX5_leastBehind 22 = .ok (.aload_n 0, 1) := by decide +kernel
theorem dX5_leastBehind_23 : decode cX5_leastBehind 23 = .ok (.iload_n 1, 1) := by decide +kernel
theorem dX5_leastBehind_24 : decode cX5_leastBehind 24 = .ok (.iload_n 3, 1) := by decide +kernel
theorem dX5_leastBehind_25 : decode cX5_leastBehind 25 = .ok (.invokevirtual 43, 3) := by decide +kernel
theorem dX5_leastBehind_28 : decode cX5_leastBehind 28 = .ok (.invokestatic 57, 3) := by decide +kernel
theorem dX5_leastBehind_31 : decode cX5_leastBehind 31 = .ok (.istore_n 2, 1) := by decide +kernel
theorem dX5_leastBehind_32 : decode cX5_leastBehind 32 = .ok (.iinc 3 1, 3) := by decide +kernel
theorem dX5_leastBehind_35 : decode cX5_leastBehind 35 = .ok (.goto (-30), 3) := by decide +kernel
theorem dX5_leastBehind_38 : decode cX5_leastBehind 38 = .ok (.iload_n 2, 1) := by decide +kernel
theorem dX5_leastBehind_39 : decode cX5_leastBehind 39 = .ok (.ireturn, 1) := by decide +kernel
theorem dX5_worstBehind_0 : decode cX5_worstBehind 0 = .ok (.aload_n 0, 1) := by decide +kernel
theorem dX5_worstBehind_1 : decode cX5_worstBehind 1 = .ok (.iload_n 1, 1) := by decide +kernel
theorem dX5_worstBehind_2 : decode cX5_worstBehind 2 = .ok (.iload_n 2, 1) := by decide +kernel
theorem dX5_worstBehind_3 : decode cX5_worstBehind 3 = .ok (.iconst 1, 1) := by decide +kernel
theorem dX5_worstBehind_4 : decode cX5_worstBehind 4 = .ok (.invokestatic 46, 3) := by decide +kernel
theorem dX5_worstBehind_7 : decode cX5_worstBehind 7 = .ok (.invokevirtual 33, 3) := by decide +kernel
theorem dX5_worstBehind_10 : decode cX5_worstBehind 10 = .ok (.istore_n 3, 1) := by decide +kernel
theorem dX5_worstBehind_11 : decode cX5_worstBehind 11 = .ok (.aload_n 0, 1) := by decide +kernel
theorem dX5_worstBehind_12 : decode cX5_worstBehind 12 = .ok (.iload_n 1, 1) := by decide +kernel
theorem dX5_worstBehind_13 : decode cX5_worstBehind 13 = .ok (.iload_n 2, 1) := by decide +kernel
theorem dX5_worstBehind_14 : decode cX5_worstBehind 14 = .ok (.iconst 2, 1) := by decide +kernel
theorem dX5_worstBehind_15 : decode cX5_worstBehind 15 = .ok (.invokestatic 46, 3) := by decide +kernel
theorem dX5_worstBehind_18 : decode cX5_worstBehind 18 = .ok (.invokevirtual 33, 3) := by decide +kernel
theorem dX5_worstBehind_21 : decode cX5_worstBehind 21 = .ok (.istore 4, 2) := by decide +kernel
theorem dX5_worstBehind_23 : decode cX5_worstBehind 23 = .ok (.aload_n 0, 1) := by decide +kernel
theorem dX5_worstBehind_24 : decode cX5_worstBehind 24 = .ok (.iload_n 1, 1) := by decide +kernel
theorem dX5_worstBehind_25 : decode cX5_worstBehind 25 = .ok (.iload_n 2, 1) := by decide +kernel
theorem dX5_worstBehind_26 : decode cX5_worstBehind 26 = .ok (.iconst 3, 1) := by decide +kernel
theorem dX5_worstBehind_27 : decode cX5_worstBehind 27 = .ok (.invokestatic 46, 3) := by decide +kernel
theorem dX5_worstBehind_30 : decode cX5_worstBehind 30 = .ok (.invokevirtual 33, 3) := by decide +kernel
theorem dX5_worstBehind_33 : decode cX5_worstBehind 33 = .ok (.istore 5, 2) := by decide +kernel
theorem dX5_worstBehind_35 : decode cX5_worstBehind 35 = .ok (.iload_n 3, 1) := by decide +kernel
theorem dX5_worstBehind_36 : decode cX5_worstBehind 36 = .ok (.iload 4, 2) := by decide +kernel
theorem dX5_worstBehind_38 : decode cX5_worstBehind 38 = .ok (.iload 5, 2) := by decide +kernel
theorem dX5_worstBehind_40 : decode cX5_worstBehind 40 = .ok (.invokestatic 62, 3) := by decide +kernel
theorem dX5_worstBehind_43 : decode cX5_worstBehind 43 = .ok (.invokestatic 62, 3) := by decide +kernel
theorem dX5_worstBehind_46 : decode cX5_worstBehind 46 = .ok (.ireturn, 1) := by decide +kernel
theorem dX5_isOrder_0 : decode cX5_isOrder 0 = .ok (.aload_n 0, 1) := by decide +kernel
theorem dX5_isOrder_1 : decode cX5_isOrder 1 = .ok (.iload_n 1, 1) := by decide +kernel
theorem dX5_isOrder_2 : decode cX5_isOrder 2 = .ok (.invokevirtual 65, 3) := by decide +kernel
theorem dX5_isOrder_5 : decode cX5_isOrder 5 = .ok (.iconst 0, 1) := by decide +kernel
theorem dX5_isOrder_6 : decode cX5_isOrder 6 = .ok (.istore_n 2, 1) := by decide +kernel
theorem dX5_isOrder_7 : decode cX5_isOrder 7 = .ok (.iconst 1, 1) := by decide +kernel
theorem dX5_isOrder_8 : decode cX5_isOrder 8 = .ok (.istore_n 3, 1) := by decide +kernel
theorem dX5_isOrder_9 : decode cX5_isOrder 9 = .ok (.iload_n 3, 1) := by decide +kernel
theorem dX5_isOrder_10 : decode cX5_isOrder 10 = .ok (.aload_n 0, 1) := by decide +kernel
theorem dX5_isOrder_11 : decode cX5_isOrder 11 = .ok (.getfield 19, 3) := by decide +kernel
theorem dX5_isOrder_14 : decode cX5_isOrder 14 = .ok (.if_icmp .ge 57, 3) := by decide +kernel
theorem dX5_isOrder_17 : decode cX5_isOrder 17 = .ok (.iconst 0, 1) := by decide +kernel
theorem dX5_isOrder_18 : decode cX5_isOrder 18 = .ok (.istore 4, 2) := by decide +kernel
theorem dX5_isOrder_20 : decode cX5_isOrder 20 = .ok (.iload 4, 2) := by decide +kernel
theorem dX5_isOrder_22 : decode cX5_isOrder 22 = .ok (.iload_n 3, 1) := by decide +kernel
theorem dX5_isOrder_23 : decode cX5_isOrder 23 = .ok (.if_icmp .ge 42, 3) := by decide +kernel
theorem dX5_isOrder_26 : decode cX5_isOrder 26 = .ok (.aload_n 0, 1) := by decide +kernel
theorem dX5_isOrder_27 : decode cX5_isOrder 27 = .ok (.getfield 15, 3) := by decide +kernel
theorem dX5_isOrder_30 : decode cX5_isOrder 30 = .ok (.iload 4, 2) := by decide +kernel
theorem dX5_isOrder_32 : decode cX5_isOrder 32 = .ok (.iaload, 1) := by decide +kernel
theorem dX5_isOrder_33 : decode cX5_isOrder 33 = .ok (.aload_n 0, 1) := by decide +kernel
theorem dX5_isOrder_34 : decode cX5_isOrder 34 = .ok (.getfield 15, 3) := by decide +kernel
theorem dX5_isOrder_37 : decode cX5_isOrder 37 = .ok (.iload_n 3, 1) := by decide +kernel
theorem dX5_isOrder_38 : decode cX5_isOrder 38 = .ok (.iaload, 1) := by decide +kernel
theorem dX5_isOrder_39 : decode cX5_isOrder 39 = .ok (.invokestatic 69, 3) := by decide +kernel
theorem dX5_isOrder_42 : decode cX5_isOrder 42 = .ok (.istore 5, 2) := by decide +kernel
theorem dX5_isOrder_44 : decode cX5_isOrder 44 = .ok (.iload_n 1, 1) := by decide +kernel
theorem dX5_isOrder_45 : decode cX5_isOrder 45 = .ok (.iload_n 2, 1) := by decide +kernel
theorem dX5_isOrder_46 : decode cX5_isOrder 46 = .ok (.invokestatic 40, 3) := by decide +kernel
theorem dX5_isOrder_49 : decode cX5_isOrder 49 = .ok (.iload 5, 2) := by decide +kernel
theorem dX5_isOrder_51 : decode cX5_isOrder 51 = .ok (.if_icmp .eq 5, 3) := by decide +kernel
theorem dX5_isOrder_54 : decode cX5_isOrder 54 = .ok (.iconst 0, 1) := by decide +kernel
theorem dX5_isOrder_55 : decode cX5_isOrder 55 = .ok (.ireturn, 1) := by decide +kernel
theorem dX5_isOrder_56 : decode cX5_isOrder 56 = .ok (.iinc 2 1, 3) := by decide +kernel
theorem dX5_isOrder_59 : decode cX5_isOrder 59 = .ok (.iinc 4 1, 3) := by decide +kernel
theorem dX5_isOrder_62 : decode cX5_isOrder 62 = .ok (.goto (-42), 3) := by decide +kernel
theorem dX5_isOrder_65 : decode cX5_isOrder 65 = .ok (.iinc 3 1, 3) := by decide +kernel
theorem dX5_isOrder_68 : decode cX5_isOrder 68 = .ok (.goto (-59), 3) := by decide +kernel
theorem dX5_isOrder_71 : decode cX5_isOrder 71 = .ok (.iconst 1, 1) := by decide +kernel
theorem dX5_isOrder_72 : decode cX5_isOrder 72 = .ok (.ireturn, 1) := by decide +kernel
theorem dX5_countHeavierOnes_0 : decode cX5_countHeavierOnes 0 = .ok (.aload_n 0, 1) := by decide +kernel
theorem dX5_countHeavierOnes_1 : decode cX5_countHeavierOnes 1 = .ok (.getfield 15, 3) := by decide +kernel
theorem dX5_countHeavierOnes_4 : decode cX5_countHeavierOnes 4 = .ok (.iconst 0, 1) := by decide +kernel
theorem dX5_countHeavierOnes_5 : decode cX5_countHeavierOnes 5 = .ok (.invokestatic 72, 3) := by decide +kernel
theorem dX5_countHeavierOnes_8 : decode cX5_countHeavierOnes 8 = .ok (.iconst 0, 1) := by decide +kernel
theorem dX5_countHeavierOnes_9 : decode cX5_countHeavierOnes 9 = .ok (.istore_n 2, 1) := by decide +kernel
theorem dX5_countHeavierOnes_10 : decode cX5_countHeavierOnes 10 = .ok (.iconst 1, 1) := by decide +kernel
theorem dX5_countHeavierOnes_11 : decode cX5_countHeavierOnes 11 = .ok (.istore_n 3, 1) := by decide +kernel
theorem dX5_countHeavierOnes_12 : decode cX5_countHeavierOnes 12 = .ok (.iload_n 3, 1) := by decide +kernel
theorem dX5_countHeavierOnes_13 : decode cX5_countHeavierOnes 13 = .ok (.aload_n 0, 1) := by decide +kernel
theorem dX5_countHeavierOnes_14 : decode cX5_countHeavierOnes 14 = .ok (.getfield 19, 3) := by decide +kernel
theorem dX5_countHeavierOnes_17 : decode cX5_countHeavierOnes 17 = .ok (.if_icmp .ge 70, 3) := by decide +kernel
theorem dX5_countHeavierOnes_20 : decode cX5_countHeavierOnes 20 = .ok (.iconst 0, 1) := by decide +kernel
theorem dX5_countHeavierOnes_21 : decode cX5_countHeavierOnes 21 = .ok (.istore 4, 2) := by decide +kernel
theorem dX5_countHeavierOnes_23 : decode cX5_countHeavierOnes 23 = .ok (.iload 4, 2) := by decide +kernel
theorem dX5_countHeavierOnes_25 : decode cX5_countHeavierOnes 25 = .ok (.iload_n 3, 1) := by decide +kernel
theorem dX5_countHeavierOnes_26 : decode cX5_countHeavierOnes 26 = .ok (.if_icmp .ge 55, 3) := by decide +kernel
theorem dX5_countHeavierOnes_29 : decode cX5_countHeavierOnes 29 = .ok (.iload_n 1, 1) := by decide +kernel
theorem dX5_countHeavierOnes_30 : decode cX5_countHeavierOnes 30 = .ok (.iload_n 2, 1) := by decide +kernel
theorem dX5_countHeavierOnes_31 : decode cX5_countHeavierOnes 31 = .ok (.invokestatic 40, 3) := by decide +kernel
theorem dX5_countHeavierOnes_34 : decode cX5_countHeavierOnes 34 = .ok (.istore 5, 2) := by decide +kernel
theorem dX5_countHeavierOnes_36 : decode cX5_countHeavierOnes 36 = .ok (.iload 5, 2) := by decide +kernel
theorem dX5_countHeavierOnes_38 : decode cX5_countHeavierOnes 38 = .ok (.iconst 1, 1) := by decide +kernel
theorem dX5_countHeavierOnes_39 : decode cX5_countHeavierOnes 39 = .ok (.if_icmp .ne 16, 3) := by decide +kernel
theorem dX5_countHeavierOnes_42 : decode cX5_countHeavierOnes 42 = .ok (.aload_n 0, 1) := by decide +kernel
theorem dX5_countHeavierOnes_43 : decode cX5_countHeavierOnes 43 = .ok (.getfield 15, 3) := by decide +kernel
theorem dX5_countHeavierOnes_46 : decode cX5_countHeavierOnes 46 = .ok (.iload_n 3, 1) := by decide +kernel
theorem dX5_countHeavierOnes_47 : decode cX5_countHeavierOnes 47 = .ok (.dup2, 1) := by decide +kernel
theorem dX5_countHeavierOnes_48 : decode cX5_countHeavierOnes 48 = .ok (.iaload, 1) := by decide +kernel
theorem dX5_countHeavierOnes_49 : decode cX5_countHeavierOnes 49 = .ok (.iconst 1, 1) := by decide +kernel
theorem dX5_countHeavierOnes_50 : decode cX5_countHeavierOnes 50 = .ok (.iadd, 1) := by decide +kernel
theorem dX5_countHeavierOnes_51 : decode cX5_countHeavierOnes 51 = .ok (.iastore, 1) := by decide +kernel
theorem dX5_countHeavierOnes_52 : decode cX5_countHeavierOnes 52 = .ok (.goto 20, 3) := by decide +kernel
theorem dX5_countHeavierOnes_55 : decode cX5_countHeavierOnes 55 = .ok (.iload 5, 2) := by decide +kernel
theorem dX5_countHeavierOnes_57 : decode cX5_countHeavierOnes 57 = .ok (.iconst 2, 1) := by decide +kernel
theorem dX5_countHeavierOnes_58 : decode cX5_countHeavierOnes 58 = .ok (.if_icmp .ne 14, 3) := by decide +kernel
theorem dX5_countHeavierOnes_61 : decode cX5_countHeavierOnes 61 = .ok (.aload_n 0, 1) := by decide +kernel
theorem dX5_countHeavierOnes_62 : decode cX5_countHeavierOnes 62 = .ok (.getfield 15, 3) := by decide +kernel
theorem dX5_countHeavierOnes_65 : decode cX5_countHeavierOnes 65 = .ok (.iload 4, 2) := by decide +kernel
theorem dX5_countHeavierOnes_67 : decode cX5_countHeavierOnes 67 = .ok (.dup2, 1) := by decide +kernel
theorem dX5_countHeavierOnes_68 : decode cX5_countHeavierOnes 68 = .ok (.iaload, 1) := by decide +kernel
theorem dX5_countHeavierOnes_69 : decode cX5_countHeavierOnes 69 = .ok (.iconst 1, 1) := by decide +kernel
theorem dX5_countHeavierOnes_70 : decode cX5_countHeavierOnes 70 = .ok (.iadd, 1) := by decide +kernel
theorem dX5_countHeavierOnes_71 : decode cX5_countHeavierOnes 71 = .ok (.iastore, 1) := by decide +kernel
theorem dX5_countHeavierOnes_72 : decode cX5_countHeavierOnes 72 = .ok (.iinc 2 1, 3) := by decide +kernel
theorem dX5_countHeavierOnes_75 : decode cX5_countHeavierOnes 75 = .ok (.iinc 4 1, 3) := by decide +kernel
theorem dX5_countHeavierOnes_78 : decode cX5_countHeavierOnes 78 = .ok (.goto (-55), 3) := by decide +kernel
theorem dX5_countHeavierOnes_81 : decode cX5_countHeavierOnes 81 = .ok (.iinc 3 1, 3) := by decide +kernel
theorem dX5_countHeavierOnes_84 : decode cX5_countHeavierOnes 84 = .ok (.goto (-72), 3) := by decide +kernel
theorem dX5_countHeavierOnes_87 : decode cX5_countHeavierOnes 87 = .ok (.return_, 1) := by decide +kernel
theorem dX5_dueFinding_0 : decode cX5_dueFinding 0 = .ok (.iload_n 0, 1) := by decide +kernel
theorem dX5_dueFinding_1 : decode cX5_dueFinding 1 = .ok (.iload_n 1, 1) := by decide +kernel
theorem dX5_dueFinding_2 : decode cX5_dueFinding 2 = .ok (.if_icmp .ne 5, 3) := by decide +kernel
theorem dX5_dueFinding_5 : decode cX5_dueFinding 5 = .ok (.iconst 3, 1) := by decide +kernel
theorem dX5_dueFinding_6 : decode cX5_dueFinding 6 = .ok (.ireturn, 1) := by decide +kernel
theorem dX5_dueFinding_7 : decode cX5_dueFinding 7 = .ok (.iload_n 0, 1) := by decide +kernel
theorem dX5_dueFinding_8 : decode cX5_dueFinding 8 = .ok (.iload_n 1, 1) := by decide +kernel
theorem dX5_dueFinding_9 : decode cX5_dueFinding 9 = .ok (.if_icmp .ge 7, 3) := by decide +kernel
theorem dX5_dueFinding_12 : decode cX5_dueFinding 12 = .ok (.iconst 1, 1) := by decide +kernel
theorem dX5_dueFinding_13 : decode cX5_dueFinding 13 = .ok (.goto 4, 3) := by decide +kernel
theorem dX5_dueFinding_16 : decode cX5_dueFinding 16 = .ok (.iconst 2, 1) := by decide +kernel
theorem dX5_dueFinding_17 : decode cX5_dueFinding 17 = .ok (.ireturn, 1) := by decide +kernel
theorem dX6_init_0 : decode cX6_init 0 = .ok (.aload_n 0, 1) := by decide +kernel
theorem dX6_init_1 : decode cX6_init 1 = .ok (.invokespecial 3, 3) := by decide +kernel
theorem dX6_init_4 : decode cX6_init 4 = .ok (.aload_n 0, 1) := by decide +kernel
theorem dX6_init_5 : decode cX6_init 5 = .ok (.sipush 150, 3) := by decide +kernel
theorem dX6_init_8 : decode cX6_init 8 = .ok (.newarray .char, 2) := by decide +kernel
theorem dX6_init_10 : decode cX6_init 10 = .ok (.putfield 9, 3) := by decide +kernel
theorem dX6_init_13 : decode cX6_init 13 = .ok (.aload_n 0, 1) := by decide +kernel
theorem dX6_init_14 : decode cX6_init 14 = .ok (.iconst (-1), 1) := by decide +kernel
theorem dX6_init_15 : decode cX6_init 15 = .ok (.putfield 15, 3) := by decide +kernel
theorem dX6_init_18 : decode cX6_init 18 = .ok (.return_, 1) := by decide +kernel
theorem dX6_append_0 : decode cX6_append 0 = .ok (.aload_n 0, 1) := by decide +kernel
theorem dX6_append_1 : decode cX6_append 1 = .ok (.getfield 19, 3) := by decide +kernel
theorem dX6_append_4 : decode cX6_append 4 = .ok (.sipush 150, 3) := by decide +kernel
theorem dX6_append_7 : decode cX6_append 7 = .ok (.if_icmp .lt 5, 3) := by decide +kernel
theorem dX6_append_10 : decode cX6_append 10 = .ok (.iconst 0, 1) := by decide +kernel
theorem dX6_append_11 : decode cX6_append 11 = .ok (.ireturn, 1) := by decide +kernel
theorem dX6_append_12 : decode cX6_append 12 = .ok (.aload_n 0, 1) := by decide +kernel
theorem dX6_append_13 : decode cX6_append 13 = .ok (.getfield 9, 3) := by decide +kernel
theorem dX6_append_16 : decode cX6_append 16 = .ok (.aload_n 0, 1) := by decide +kernel
theorem dX6_append_17 : decode cX6_append 17 = .ok (.getfield 19, 3) := by decide +kernel
theorem dX6_append_20 : decode cX6_append 20 = .ok (.iload_n 1, 1) := by decide +kernel
theorem dX6_append_21 : decode cX6_append 21 = .ok (.castore, 1) := by decide +kernel
theorem dX6_append_22 : decode cX6_append 22 = .ok (.aload_n 0, 1) := by decide +kernel
theorem dX6_append_23 : decode cX6_append 23 = .ok (.dup, 1) := by decide +kernel
theorem dX6_append_24 : decode cX6_append 24 = .ok (.getfield 19, 3) := by decide +kernel
theorem dX6_append_27 : decode cX6_append 27 = .ok (.iconst 1, 1) := by decide +kernel
theorem dX6_append_28 : decode cX6_append 28 = .ok (.iadd, 1) := by decide +kernel
theorem dX6_append_29 : decode cX6_append 29 = .ok (.putfield 19, 3) := by decide +kernel
theorem dX6_append_32 : decode cX6_append 32 = .ok (.iconst 1, 1) := by decide +kernel
theorem dX6_append_33 : decode cX6_append 33 = .ok (.ireturn, 1) := by decide +kernel
theorem dX6_hasFault_0 : decode cX6_hasFault 0 = .ok (.aload_n 0, 1) := by decide +kernel
theorem dX6_hasFault_1 : decode cX6_hasFault 1 = .ok (.getfield 15, 3) := by decide +kernel
theorem dX6_hasFault_4 : decode cX6_hasFault 4 = .ok (.iconst (-1), 1) := by decide +kernel
theorem dX6_hasFault_5 : decode cX6_hasFault 5 = .ok (.if_icmp .eq 7, 3) := by decide +kernel
theorem dX6_hasFault_8 : decode cX6_hasFault 8 = .ok (.iconst 1, 1) := by decide +kernel
theorem dX6_hasFault_9 : decode cX6_hasFault 9 = .ok (.goto 4, 3) := by decide +kernel
theorem dX6_hasFault_12 : decode cX6_hasFault 12 = .ok (.iconst 0, 1) := by decide +kernel
theorem dX6_hasFault_13 : decode cX6_hasFault 13 = .ok (.ireturn, 1) := by decide +kernel
theorem dX6_readInto_0 : decode cX6_readInto 0 = .ok (.aload_n 1, 1) := by decide +kernel
theorem dX6_readInto_1 : decode cX6_readInto 1 = .ok (.invokevirtual 22, 3) := by decide +kernel
theorem dX6_readInto_4 : decode cX6_readInto 4 = .ok (.aload_n 0, 1) := by decide +kernel
theorem dX6_readInto_5 : decode cX6_readInto 5 = .ok (.iconst 0, 1) := by decide +kernel
theorem dX6_readInto_6 : decode cX6_readInto 6 = .ok (.putfield 27, 3) := by decide +kernel
theorem dX6_readInto_9 : decode cX6_readInto 9 = .ok (.aload_n 0, 1) := by decide +kernel
theorem dX6_readInto_10 : decode cX6_readInto 10 = .ok (.iconst (-1), 1) := by decide +kernel
theorem dX6_readInto_11 : decode cX6_readInto 11 = .ok (.putfield 15, 3) := by decide +kernel
theorem dX6_readInto_14 : decode cX6_readInto 14 = .ok (.iconst 0, 1) := by decide +kernel
theorem dX6_readInto_15 : decode cX6_readInto 15 = .ok (.istore_n 2, 1) := by decide +kernel
theorem dX6_readInto_16 : decode cX6_readInto 16 = .ok (.aload_n 0, 1) := by decide +kernel
theorem dX6_readInto_17 : decode cX6_readInto 17 = .ok (.invokevirtual 30, 3) := by decide +kernel
theorem dX6_readInto_20 : decode cX6_readInto 20 = .ok (.iload_n 2, 1) := by decide +kernel
theorem dX6_readInto_21 : decode cX6_readInto 21 = .ok (.sipush 150, 3) := by decide +kernel
theorem dX6_readInto_24 : decode cX6_readInto 24 = .ok (.if_icmp .ge 36, 3) := by decide +kernel
theorem dX6_readInto_27 : decode cX6_readInto 27 = .ok (.aload_n 0, 1) := by decide +kernel
theorem dX6_readInto_28 : decode cX6_readInto 28 = .ok (.getfield 27, 3) := by decide +kernel
theorem dX6_readInto_31 : decode cX6_readInto 31 = .ok (.aload_n 0, 1) := by decide +kernel
theorem dX6_readInto_32 : decode cX6_readInto 32 = .ok (.getfield 19, 3) := by decide +kernel
theorem dX6_readInto_35 : decode cX6_readInto 35 = .ok (.if_icmp .ge 25, 3) := by decide +kernel
theorem dX6_readInto_38 : decode cX6_readInto 38 = .ok (.aload_n 0, 1) := by decide +kernel
theorem dX6_readInto_39 : decode cX6_readInto 39 = .ok (.invokevirtual 33, 3) := by decide +kernel
theorem dX6_readInto_42 : decode cX6_readInto 42 = .ok (.ifCond .ne 18, 3) := by decide +kernel
theorem dX6_readInto_45 : decode cX6_readInto 45 = .ok (.aload_n 0, 1) := by decide +kernel
theorem dX6_readInto_46 : decode cX6_readInto 46 = .ok (.aload_n 1, 1) := by decide +kernel
theorem dX6_readInto_47 : decode cX6_readInto 47 = .ok (.invokevirtual 37, 3) := by decide +kernel
theorem dX6_readInto_50 : decode cX6_readInto 50 = .ok (.iinc 2 1, 3) := by decide +kernel
theorem dX6_readInto_53 : decode cX6_readInto 53 = .ok (.aload_n 0, 1) := by decide +kernel
theorem dX6_readInto_54 : decode cX6_readInto 54 = .ok (.invokevirtual 30, 3) := by decide +kernel
theorem dX6_readInto_57 : decode cX6_readInto 57 = .ok (.goto (-37), 3) := by decide +kernel
theorem dX6_readInto_60 : decode cX6_readInto 60 = .ok (.iload_n 2, 1) := by decide +kernel
theorem dX6_readInto_61 : decode cX6_readInto 61 = .ok (.ireturn, 1) := by decide +kernel
theorem dX6_readItem_0 : decode cX6_readItem 0 = .ok (.aload_n 0, 1) := by decide +kernel
theorem dX6_readItem_1 : decode cX6_readItem 1 = .ok (.getfield 9, 3) := by decide +kernel
theorem dX6_readItem_4 : decode cX6_readItem 4 = .ok (.aload_n 0, 1) := by decide +kernel
theorem dX6_readItem_5 : decode cX6_readItem 5 = .ok (.getfield 27, 3) := by decide +kernel
theorem dX6_readItem_8 : decode cX6_readItem 8 = .ok (.caload, 1) := by decide +kernel
theorem dX6_readItem_9 : decode cX6_readItem 9 = .ok (.istore_n 2, 1) := by decide +kernel
theorem dX6_readItem_10 : decode cX6_readItem 10 = .ok (.iload_n 2, 1) := by decide +kernel
theorem dX6_readItem_11 : decode cX6_readItem 11 = .ok (.bipush 115, 2) := by decide +kernel
theorem dX6_readItem_13 : decode cX6_readItem 13 = .ok (.if_icmp .eq 37, 3) := by decide +kernel
theorem dX6_readItem_16 : decode cX6_readItem 16 = .ok (.iload_n 2, 1) := by decide +kernel
theorem dX6_readItem_17 : decode cX6_readItem 17 = .ok (.bipush 103, 2) := by decide +kernel
theorem dX6_readItem_19 : decode cX6_readItem 19 = .ok (.if_icmp .eq 31, 3) := by decide +kernel
theorem dX6_readItem_22 : decode cX6_readItem 22 = .ok (.iload_n 2, 1) := by decide +kernel
theorem dX6_readItem_23 : decode cX6_readItem 23 = .ok (.bipush 112, 2) := by decide +kernel
theorem dX6_readItem_25 : decode cX6_readItem 25 = .ok (.if_icmp .ne 11, 3) := by decide +kernel
theorem dX6_readItem_28 : decode cX6_readItem 28 = .ok (.aload_n 1, 1) := by decide +kernel
theorem dX6_readItem_29 : decode cX6_readItem 29 = .ok (.getfield 41, 3) := by decide +kernel
theorem dX6_readItem_32 : decode cX6_readItem 32 = .ok (.iconst 4, 1) := by decide +kernel
theorem dX6_readItem_33 : decode cX6_readItem 33 = .ok (.if_icmp .lt 17, 3) := by decide +kernel
theorem dX6_readItem_36 : decode cX6_readItem 36 = .ok (.iload_n 2, 1) := by decide +kernel
theorem dX6_readItem_37 : decode cX6_readItem 37 = .ok (.bipush 98, 2) := by decide +kernel
theorem dX6_readItem_39 : decode cX6_readItem 39 = .ok (.if_icmp .ne 15, 3) := by decide +kernel
theorem dX6_readItem_42 : decode cX6_readItem 42 = .ok (.aload_n 1, 1) := by decide +kernel
theorem dX6_readItem_43 : decode cX6_readItem 43 = .ok (.getfield 44, 3) := by decide +kernel
theorem dX6_readItem_46 : decode cX6_readItem 46 = .ok (.iconst 5, 1) := by decide +kernel
theorem dX6_readItem_47 : decode cX6_readItem 47 = .ok (.if_icmp .ge 7, 3) := by decide +kernel
theorem dX6_readItem_50 : decode cX6_readItem 50 = .ok (.iconst 1, 1) := by decide +kernel
theorem dX6_readItem_51 : decode cX6_readItem 51 = .ok (.goto 4, 3) := by decide +kernel
theorem dX6_readItem_54 : decode cX6_readItem 54 = .ok (.iconst 0, 1) := by decide +kernel
theorem dX6_readItem_55 : decode cX6_readItem 55 = .ok (.istore_n 3, 1) := by decide +kernel
theorem dX6_readItem_56 : decode cX6_readItem 56 = .ok (.iload_n 3, 1) := by decide +kernel
theorem dX6_readItem_57 : decode cX6_readItem 57 = .ok (.ifCond .ne 12, 3) := by decide +kernel
theorem dX6_readItem_60 : decode cX6_readItem 60 = .ok (.aload_n 0, 1) := by decide +kernel
theorem dX6_readItem_61 : decode cX6_readItem 61 = .ok (.aload_n 0, 1) := by decide +kernel
theorem dX6_readItem_62 : decode cX6_readItem 62 = .ok (.getfield 27, 3) := by decide +kernel
theorem dX6_readItem_65 : decode cX6_readItem 65 = .ok (.putfield 15, 3) := by decide +kernel
theorem dX6_readItem_68 : decode cX6_readItem 68 = .ok (.return_, 1) := by decide +kernel
theorem dX6_readItem_69 : decode cX6_readItem 69 = .ok (.aload_n 0, 1) := by decide +kernel
theorem dX6_readItem_70 : decode cX6_readItem 70 = .ok (.dup, 1) := by decide +kernel
theorem dX6_readItem_71 : decode cX6_readItem 71 = .ok (.getfield 27, 3) := by decide +kernel
theorem dX6_readItem_74 : decode cX6_readItem 74 = .ok (.iconst 1, 1) := by decide +kernel
theorem dX6_readItem_75 : decode cX6_readItem 75 = .ok (.iadd, 1) := by decide +kernel
theorem dX6_readItem_76 : decode cX6_readItem 76 = .ok (.putfield 27, 3) := by decide +kernel
theorem dX6_readItem_79 : decode cX6_readItem 79 = .ok (.iload_n 2, 1) := by decide +kernel
theorem dX6_readItem_80 : decode cX6_readItem 80 = .ok (.bipush 115, 2) := by decide +kernel
theorem dX6_readItem_82 : decode cX6_readItem 82 = .ok (.if_icmp .ne 11, 3) := by decide +kernel
theorem dX6_readItem_85 : decode cX6_readItem 85 = .ok (.aload_n 0, 1) := by decide +kernel
theorem dX6_readItem_86 : decode cX6_readItem 86 = .ok (.aload_n 1, 1) := by decide +kernel
theorem dX6_readItem_87 : decode cX6_readItem 87 = .ok (.invokevirtual 47, 3) := by decide +kernel
theorem dX6_readItem_90 : decode cX6_readItem 90 = .ok (.goto 36, 3) := by decide +kernel
theorem dX6_readItem_93 : decode cX6_readItem 93 = .ok (.iload_n 2, 1) := by decide +kernel
theorem dX6_readItem_94 : decode cX6_readItem 94 = .ok (.bipush 112, 2) := by decide +kernel
theorem dX6_readItem_96 : decode cX6_readItem 96 = .ok (.if_icmp .ne 11, 3) := by decide +kernel
theorem dX6_readItem_99 : decode cX6_readItem 99 = .ok (.aload_n 0, 1) := by decide +kernel
theorem dX6_readItem_100 : decode cX6_readItem 100 = .ok (.aload_n 1, 1) := by decide +kernel
theorem dX6_readItem_101 : decode cX6_readItem 101 = .ok (.invokevirtual 50, 3) := by decide +kernel
theorem dX6_readItem_104 : decode cX6_readItem 104 = .ok (.goto 22, 3) := by decide +kernel
theorem dX6_readItem_107 : decode cX6_readItem 107 = .ok (.iload_n 2, 1) := by decide +kernel
theorem dX6_readItem_108 : decode cX6_readItem 108 = .ok (.bipush 103, 2) := by decide +kernel
theorem dX6_readItem_110 : decode cX6_readItem 110 = .ok (.if_icmp .ne 11, 3) := by decide +kernel
theorem dX6_readItem_113 : decode cX6_readItem 113 = .ok (.aload_n 0, 1) := by decide +kernel
theorem dX6_readItem_114 : decode cX6_readItem 114 = .ok (.aload_n 1, 1) := by decide +kernel
theorem dX6_readItem_115 : decode cX6_readItem 115 = .ok (.invokevirtual 53, 3) := by decide +kernel
theorem dX6_readItem_118 : decode cX6_readItem 118 = .ok (.goto 8, 3) := by decide +kernel
theorem dX6_readItem_121 : decode cX6_readItem 121 = .ok (.aload_n 0, 1) := by decide +kernel
theorem dX6_readItem_122 : decode cX6_readItem 122 = .ok (.aload_n 1, 1) := by decide +kernel
theorem dX6_readItem_123 : decode cX6_readItem 123 = .ok (.invokevirtual 56, 3) := by decide +kernel
theorem dX6_readItem_126 : decode cX6_readItem 126 = .ok (.return_, 1) := by decide +kernel
theorem dX6_readWeight_0 : decode cX6_readWeight 0 = .ok (.aload_n 0, 1) := by decide +kernel
theorem dX6_readWeight_1 : decode cX6_readWeight 1 = .ok (.iconst 0, 1) := by decide +kernel
theorem dX6_readWeight_2 : decode cX6_readWeight 2 = .ok (.iconst 3, 1) := by decide +kernel
theorem dX6_readWeight_3 : decode cX6_readWeight 3 = .ok (.invokevirtual 59, 3) := by decide +kernel
theorem dX6_readWeight_6 : decode cX6_readWeight 6 = .ok (.istore_n 2, 1) := by decide +kernel
theorem dX6_readWeight_7 : decode cX6_readWeight 7 = .ok (.aload_n 0, 1) := by decide +kernel
theorem dX6_readWeight_8 : decode cX6_readWeight 8 = .ok (.iconst 1, 1) := by decide +kernel
theorem dX6_readWeight_9 : decode cX6_readWeight 9 = .ok (.bipush 20, 2) := by decide +kernel
theorem dX6_readWeight_11 : decode cX6_readWeight 11 = .ok (.invokevirtual 59, 3) := by decide +kernel
theorem dX6_readWeight_14 : decode cX6_readWeight 14 = .ok (.istore_n 3, 1) := by decide +kernel
theorem dX6_readWeight_15 : decode cX6_readWeight 15 = .ok (.aload_n 0, 1) := by decide +kernel
theorem dX6_readWeight_16 : decode cX6_readWeight 16 = .ok (.invokevirtual 63, 3) := by decide +kernel
theorem dX6_readWeight_19 : decode cX6_readWeight 19 = .ok (.aload_n 0, 1) := by decide +kernel
theorem dX6_readWeight_20 : decode cX6_readWeight 20 = .ok (.invokevirtual 33, 3) := by decide +kernel
theorem dX6_readWeight_23 : decode cX6_readWeight 23 = .ok (.ifCond .ne 10, 3) := by decide +kernel
theorem dX6_readWeight_26 : decode cX6_readWeight 26 = .ok (.aload_n 1, 1) := by decide +kernel
theorem dX6_readWeight_27 : decode cX6_readWeight 27 = .ok (.getfield 66, 3) := by decide +kernel
theorem dX6_readWeight_30 : decode cX6_readWeight 30 = .ok (.iload_n 2, 1) := by decide +kernel
theorem dX6_readWeight_31 : decode cX6_readWeight 31 = .ok (.iload_n 3, 1) := by decide +kernel
theorem dX6_readWeight_32 : decode cX6_readWeight 32 = .ok (.iastore, 1) := by decide +kernel
theorem dX6_readWeight_33 : decode cX6_readWeight 33 = .ok (.return_, 1) := by decide +kernel
theorem dX6_readPerson_0 : decode cX6_readPerson 0 = .ok (.iconst 0, 1) := by decide +kernel
theorem dX6_readPerson_1 : decode cX6_readPerson 1 = .ok (.istore_n 2, 1) := by decide +kernel
theorem dX6_readPerson_2 : decode cX6_readPerson 2 = .ok (.iload_n 2, 1) := by decide +kernel
theorem dX6_readPerson_3 : decode cX6_readPerson 3 = .ok (.iconst 4, 1) := by decide +kernel
theorem dX6_readPerson_4 : decode cX6_readPerson 4 = .ok (.if_icmp .ge 38, 3) := by decide +kernel
theorem dX6_readPerson_7 : decode cX6_readPerson 7 = .ok (.aload_n 0, 1) := by decide +kernel
theorem dX6_readPerson_8 : decode cX6_readPerson 8 = .ok (.iconst 0, 1) := by decide +kernel
theorem dX6_readPerson_9 : decode cX6_readPerson 9 = .ok (.bipush 9, 2) := by decide +kernel
theorem dX6_readPerson_11 : decode cX6_readPerson 11 = .ok (.invokevirtual 59, 3) := by decide +kernel
theorem dX6_readPerson_14 : decode cX6_readPerson 14 = .ok (.istore_n 3, 1) := by decide +kernel
theorem dX6_readPerson_15 : decode cX6_readPerson 15 = .ok (.aload_n 0, 1) := by decide +kernel
theorem dX6_readPerson_16 : decode cX6_readPerson 16 = .ok (.invokevirtual 33, 3) := by decide +kernel
theorem dX6_readPerson_19 : decode cX6_readPerson 19 = .ok (.ifCond .ne 17, 3) := by decide +kernel
theorem dX6_readPerson_22 : decode cX6_readPerson 22 = .ok (.aload_n 1, 1) := by decide +kernel
theorem dX6_readPerson_23 : decode cX6_readPerson 23 = .ok (.getfield 70, 3) := by decide +kernel
theorem dX6_readPerson_26 : decode cX6_readPerson 26 = .ok (.aload_n 1, 1) := by decide +kernel
theorem dX6_readPerson_27 : decode cX6_readPerson 27 = .ok (.getfield 41, 3) := by decide +kernel
theorem dX6_readPerson_30 : decode cX6_readPerson 30 = .ok (.iconst 4, 1) := by decide +kernel
theorem dX6_readPerson_31 : decode cX6_readPerson 31 = .ok (.imul, 1) := by decide +kernel
theorem dX6_readPerson_32 : decode cX6_readPerson 32 = .ok (.iload_n 2, 1) := by decide +kernel
theorem dX6_readPerson_33 : decode cX6_readPerson 33 = .ok (.iadd, 1) := by decide +kernel
theorem dX6_readPerson_34 : decode cX6_readPerson 34 = .ok (.iload_n 3, 1) := by decide +kernel
theorem dX6_readPerson_35 : decode cX6_readPerson 35 = .ok (.iastore, 1) := by decide +kernel
theorem dX6_readPerson_36 : decode cX6_readPerson 36 = .ok (.iinc 2 1, 3) := by decide +kernel
theorem dX6_readPerson_39 : decode cX6_readPerson 39 = .ok (.goto (-37), 3) := by decide +kernel
theorem dX6_readPerson_42 : decode cX6_readPerson 42 = .ok (.aload_n 0, 1) := by decide +kernel
theorem dX6_readPerson_43 : decode cX6_readPerson 43 = .ok (.invokevirtual 63, 3) := by decide +kernel
theorem dX6_readPerson_46 : decode cX6_readPerson 46 = .ok (.aload_n 0, 1) := by decide +kernel
theorem dX6_readPerson_47 : decode cX6_readPerson 47 = .ok (.invokevirtual 33, 3) := by decide +kernel
theorem dX6_readPerson_50 : decode cX6_readPerson 50 = .ok (.ifCond .ne 13, 3) := by decide +kernel
theorem dX6_readPerson_53 : decode cX6_readPerson 53 = .ok (.aload_n 1, 1) := by decide +kernel
theorem dX6_readPerson_54 : decode cX6_readPerson 54 = .ok (.dup, 1) := by decide +kernel
theorem dX6_readPerson_55 : decode cX6_readPerson 55 = .ok (.getfield 41, 3) := by decide +kernel
theorem dX6_readPerson_58 : decode cX6_readPerson 58 = .ok (.iconst 1, 1) := by decide +kernel
theorem dX6_readPerson_59 : decode cX6_readPerson 59 = .ok (.iadd, 1) := by decide +kernel
theorem dX6_readPerson_60 : decode cX6_readPerson 60 = .ok (.putfield 41, 3) := by decide +kernel
theorem dX6_readPerson_63 : decode cX6_readPerson 63 = .ok (.return_, 1) := by decide +kernel
theorem dX6_readGrowth_0 : decode cX6_readGrowth 0 = .ok (.aload_n 0, 1) := by decide +kernel
theorem dX6_readGrowth_1 : decode cX6_readGrowth 1 = .ok (.iconst 0, 1) := by decide +kernel
theorem dX6_readGrowth_2 : decode cX6_readGrowth 2 = .ok (.aload_n 1, 1) := by decide +kernel
theorem dX6_readGrowth_3 : decode cX6_readGrowth 3 = .ok (.getfield 41, 3) := by decide +kernel
theorem dX6_readGrowth_6 : decode cX6_readGrowth 6 = .ok (.iconst 1, 1) := by decide +kernel
theorem dX6_readGrowth_7 : decode cX6_readGrowth 7 = .ok (.isub, 1) := by decide +kernel
theorem dX6_readGrowth_8 : decode cX6_readGrowth 8 = .ok (.invokevirtual 59, 3) := by decide +kernel
theorem dX6_readGrowth_11 : decode cX6_readGrowth 11 = .ok (.istore_n 2, 1) := by decide +kernel
theorem dX6_readGrowth_12 : decode cX6_readGrowth 12 = .ok (.aload_n 0, 1) := by decide +kernel
theorem dX6_readGrowth_13 : decode cX6_readGrowth 13 = .ok (.iconst 0, 1) := by decide +kernel
theorem dX6_readGrowth_14 : decode cX6_readGrowth 14 = .ok (.iconst 3, 1) := by decide +kernel
theorem dX6_readGrowth_15 : decode cX6_readGrowth 15 = .ok (.invokevirtual 59, 3) := by decide +kernel
theorem dX6_readGrowth_18 : decode cX6_readGrowth 18 = .ok (.istore_n 3, 1) := by decide +kernel
theorem dX6_readGrowth_19 : decode cX6_readGrowth 19 = .ok (.aload_n 0, 1) := by decide +kernel
theorem dX6_readGrowth_20 : decode cX6_readGrowth 20 = .ok (.iconst 0, 1) := by decide +kernel
theorem dX6_readGrowth_21 : decode cX6_readGrowth 21 = .ok (.iconst 3, 1) := by decide +kernel
theorem dX6_readGrowth_22 : decode cX6_readGrowth 22 = .ok (.invokevirtual 59, 3) := by decide +kernel
theorem dX6_readGrowth_25 : decode cX6_readGrowth 25 = .ok (.istore 4, 2) := by decide +kernel
theorem dX6_readGrowth_27 : decode cX6_readGrowth 27 = .ok (.aload_n 0, 1) := by decide +kernel
theorem dX6_readGrowth_28 : decode cX6_readGrowth 28 = .ok (.invokevirtual 63, 3) := by decide +kernel
theorem dX6_readGrowth_31 : decode cX6_readGrowth 31 = .ok (.aload_n 0, 1) := by decide +kernel
theorem dX6_readGrowth_32 : decode cX6_readGrowth 32 = .ok (.invokevirtual 33, 3) := by decide +kernel
theorem dX6_readGrowth_35 : decode cX6_readGrowth 35 = .ok (.ifCond .ne 15, 3) := by decide +kernel
theorem dX6_readGrowth_38 : decode cX6_readGrowth 38 = .ok (.aload_n 1, 1) := by decide +kernel
theorem dX6_readGrowth_39 : decode cX6_readGrowth 39 = .ok (.getfield 73, 3) := by decide +kernel
theorem dX6_readGrowth_42 : decode cX6_readGrowth 42 = .ok (.iload_n 2, 1) := by decide +kernel
theorem dX6_readGrowth_43 : decode cX6_readGrowth 43 = .ok (.iconst 4, 1) := by decide +kernel
theorem dX6_readGrowth_44 : decode cX6_readGrowth 44 = .ok (.imul, 1) := by decide +kernel
theorem dX6_readGrowth_45 : decode cX6_readGrowth 45 = .ok (.iload_n 3, 1) := by decide +kernel
theorem dX6_readGrowth_46 : decode cX6_readGrowth 46 = .ok (.iadd, 1) := by decide +kernel
theorem dX6_readGrowth_47 : decode cX6_readGrowth 47 = .ok (.iload 4, 2) := by decide +kernel
theorem dX6_readGrowth_49 : decode cX6_readGrowth 49 = .ok (.iastore, 1) := by decide +kernel
theorem dX6_readGrowth_50 : decode cX6_readGrowth 50 = .ok (.return_, 1) := by decide +kernel
theorem dX6_readPiece_0 : decode cX6_readPiece 0 = .ok (.aload_n 0, 1) := by decide +kernel
theorem dX6_readPiece_1 : decode cX6_readPiece 1 = .ok (.iconst 1, 1) := by decide +kernel
theorem dX6_readPiece_2 : decode cX6_readPiece 2 = .ok (.bipush 60, 2) := by decide +kernel
theorem dX6_readPiece_4 : decode cX6_readPiece 4 = .ok (.invokevirtual 59, 3) := by decide +kernel
theorem dX6_readPiece_7 : decode cX6_readPiece 7 = .ok (.istore_n 2, 1) := by decide +kernel
theorem dX6_readPiece_8 : decode cX6_readPiece 8 = .ok (.aload_n 0, 1) := by decide +kernel
theorem dX6_readPiece_9 : decode cX6_readPiece 9 = .ok (.invokevirtual 63, 3) := by decide +kernel
theorem dX6_readPiece_12 : decode cX6_readPiece 12 = .ok (.aload_n 0, 1) := by decide +kernel
theorem dX6_readPiece_13 : decode cX6_readPiece 13 = .ok (.invokevirtual 33, 3) := by decide +kernel
theorem dX6_readPiece_16 : decode cX6_readPiece 16 = .ok (.ifCond .ne 23, 3) := by decide +kernel
theorem dX6_readPiece_19 : decode cX6_readPiece 19 = .ok (.aload_n 1, 1) := by decide +kernel
theorem dX6_readPiece_20 : decode cX6_readPiece 20 = .ok (.getfield 76, 3) := by decide +kernel
theorem dX6_readPiece_23 : decode cX6_readPiece 23 = .ok (.aload_n 1, 1) := by decide +kernel
theorem dX6_readPiece_24 : decode cX6_readPiece 24 = .ok (.getfield 44, 3) := by decide +kernel
theorem dX6_readPiece_27 : decode cX6_readPiece 27 = .ok (.iload_n 2, 1) := by decide +kernel
theorem dX6_readPiece_28 : decode cX6_readPiece 28 = .ok (.iastore, 1) := by decide +kernel
theorem dX6_readPiece_29 : decode cX6_readPiece 29 = .ok (.aload_n 1, 1) := by decide +kernel
theorem dX6_readPiece_30 : decode cX6_readPiece 30 = .ok (.dup, 1) := by decide +kernel
theorem dX6_readPiece_31 : decode cX6_readPiece 31 = .ok (.getfield 44, 3) := by decide +kernel
theorem dX6_readPiece_34 : decode cX6_readPiece 34 = .ok (.iconst 1, 1) := by decide +kernel
theorem dX6_readPiece_35 : decode cX6_readPiece 35 = .ok (.iadd, 1) := by decide +kernel
theorem dX6_readPiece_36 : decode cX6_readPiece 36 = .ok (.putfield 44, 3) := by decide +kernel
theorem dX6_readPiece_39 : decode cX6_readPiece 39 = .ok (.return_, 1) := by decide +kernel
theorem dX6_readNumber_0 : decode cX6_readNumber 0 = .ok (.aload_n 0, 1) := by decide +kernel
theorem dX6_readNumber_1 : decode cX6_readNumber 1 = .ok (.invokevirtual 33, 3) := by decide +kernel
theorem dX6_readNumber_4 : decode cX6_readNumber 4 = .ok (.ifCond .eq 5, 3) := by decide +kernel
theorem dX6_readNumber_7 : decode cX6_readNumber 7 = .ok (.iload_n 1, 1) := by decide +kernel
theorem dX6_readNumber_8 : decode cX6_readNumber 8 = .ok (.ireturn, 1) := by decide +kernel
theorem dX6_readNumber_9 : decode cX6_readNumber 9 = .ok (.aload_n 0, 1) := by decide +kernel
theorem dX6_readNumber_10 : decode cX6_readNumber 10 = .ok (.invokevirtual 30, 3) := by decide +kernel
theorem dX6_readNumber_13 : decode cX6_readNumber 13 = .ok (.aload_n 0, 1) := by decide +kernel
theorem dX6_readNumber_14 : decode cX6_readNumber 14 = .ok (.getfield 27, 3) := by decide +kernel
theorem dX6_readNumber_17 : decode cX6_readNumber 17 = .ok (.istore_n 3, 1) := by decide +kernel
theorem dX6_readNumber_18 : decode cX6_readNumber 18 = .ok (.iconst 0, 1) := by decide +kernel
theorem dX6_readNumber_19 : decode cX6_readNumber 19 = .ok (.istore 4, 2) := by decide +kernel
theorem dX6_readNumber_21 : decode cX6_readNumber 21 = .ok (.aload_n 0, 1) := by decide +kernel
theorem dX6_readNumber_22 : decode cX6_readNumber 22 = .ok (.getfield 27, 3) := by decide +kernel
theorem dX6_readNumber_25 : decode cX6_readNumber 25 = .ok (.aload_n 0, 1) := by decide +kernel
theorem dX6_readNumber_26 : decode cX6_readNumber 26 = .ok (.getfield 19, 3) := by decide +kernel
theorem dX6_readNumber_29 : decode cX6_readNumber 29 = .ok (.if_icmp .ge 61, 3) := by decide +kernel
theorem dX6_readNumber_32 : decode cX6_readNumber 32 = .ok (.aload_n 0, 1) := by decide +kernel
theorem dX6_readNumber_33 : decode cX6_readNumber 33 = .ok (.getfield 9, 3) := by decide +kernel
theorem dX6_readNumber_36 : decode cX6_readNumber 36 = .ok (.aload_n 0, 1) := by decide +kernel
theorem dX6_readNumber_37 : decode cX6_readNumber 37 = .ok (.getfield 27, 3) := by decide +kernel
theorem dX6_readNumber_40 : decode cX6_readNumber 40 = .ok (.caload, 1) := by decide +kernel
theorem dX6_readNumber_41 : decode cX6_readNumber 41 = .ok (.invokestatic 79, 3) := by decide +kernel
theorem dX6_readNumber_44 : decode cX6_readNumber 44 = .ok (.ifCond .eq 46, 3) := by decide +kernel
theorem dX6_readNumber_47 : decode cX6_readNumber 47 = .ok (.aload_n 0, 1) := by decide +kernel
theorem dX6_readNumber_48 : decode cX6_readNumber 48 = .ok (.getfield 27, 3) := by decide +kernel
theorem dX6_readNumber_51 : decode cX6_readNumber 51 = .ok (.iload_n 3, 1) := by decide +kernel
theorem dX6_readNumber_52 : decode cX6_readNumber 52 = .ok (.isub, 1) := by decide +kernel
theorem dX6_readNumber_53 : decode cX6_readNumber 53 = .ok (.iconst 2, 1) := by decide +kernel
theorem dX6_readNumber_54 : decode cX6_readNumber 54 = .ok (.if_icmp .ge 23, 3) := by decide +kernel
theorem dX6_readNumber_57 : decode cX6_readNumber 57 = .ok (.iload 4, 2) := by decide +kernel
theorem dX6_readNumber_59 : decode cX6_readNumber 59 = .ok (.bipush 10, 2) := by decide +kernel
theorem dX6_readNumber_61 : decode cX6_readNumber 61 = .ok (.imul, 1) := by decide +kernel
theorem dX6_readNumber_62 : decode cX6_readNumber 62 = .ok (.aload_n 0, 1) := by decide +kernel
theorem dX6_readNumber_63 : decode cX6_readNumber 63 = .ok (.getfield 9, 3) := by decide +kernel
theorem dX6_readNumber_66 : decode cX6_readNumber 66 = .ok (.aload_n 0, 1) := by decide +kernel
theorem dX6_readNumber_67 : decode cX6_readNumber 67 = .ok (.getfield 27, 3) := by decide +kernel
theorem dX6_readNumber_70 : decode cX6_readNumber 70 = .ok (.caload, 1) := by decide +kernel
theorem dX6_readNumber_71 : decode cX6_readNumber 71 = .ok (.bipush 48, 2) := by decide +kernel
theorem dX6_readNumber_73 : decode cX6_readNumber 73 = .ok (.isub, 1) := by decide +kernel
theorem dX6_readNumber_74 : decode cX6_readNumber 74 = .ok (.iadd, 1) := by decide +kernel
theorem dX6_readNumber_75 : decode cX6_readNumber 75 = .ok (.istore 4, 2) := by decide +kernel
theorem dX6_readNumber_77 : decode cX6_readNumber 77 = .ok (.aload_n 0, 1) := by decide +kernel
theorem dX6_readNumber_78 : decode cX6_readNumber 78 = .ok (.dup, 1) := by decide +kernel
theorem dX6_readNumber_79 : decode cX6_readNumber 79 = .ok (.getfield 27, 3) := by decide +kernel
theorem dX6_readNumber_82 : decode cX6_readNumber 82 = .ok (.iconst 1, 1) := by decide +kernel
theorem dX6_readNumber_83 : decode cX6_readNumber 83 = .ok (.iadd, 1) := by decide +kernel
theorem dX6_readNumber_84 : decode cX6_readNumber 84 = .ok (.putfield 27, 3) := by decide +kernel
theorem dX6_readNumber_87 : decode cX6_readNumber 87 = .ok (.goto (-66), 3) := by decide +kernel
theorem dX6_readNumber_90 : decode cX6_readNumber 90 = .ok (.aload_n 0, 1) := by decide +kernel
theorem dX6_readNumber_91 : decode cX6_readNumber 91 = .ok (.getfield 27, 3) := by decide +kernel
theorem dX6_readNumber_94 : decode cX6_readNumber 94 = .ok (.iload_n 3, 1) := by decide +kernel
theorem dX6_readNumber_95 : decode cX6_readNumber 95 = .ok (.isub, 1) := by decide +kernel
theorem dX6_readNumber_96 : decode cX6_readNumber 96 = .ok (.istore 5, 2) := by decide +kernel
theorem dX6_readNumber_98 : decode cX6_readNumber 98 = .ok (.iload 5, 2) := by decide +kernel
theorem dX6_readNumber_100 : decode cX6_readNumber 100 = .ok (.iconst 1, 1) := by decide +kernel
theorem dX6_readNumber_101 : decode cX6_readNumber 101 = .ok (.if_icmp .eq 20, 3) := by decide +kernel
theorem dX6_readNumber_104 : decode cX6_readNumber 104 = .ok (.iload 5, 2) := by decide +kernel
theorem dX6_readNumber_106 : decode cX6_readNumber 106 = .ok (.iconst 2, 1) := by decide +kernel
theorem dX6_readNumber_107 : decode cX6_readNumber 107 = .ok (.if_icmp .ne 18, 3) := by decide +kernel
theorem dX6_readNumber_110 : decode cX6_readNumber 110 = .ok (.aload_n 0, 1) := by decide +kernel
theorem dX6_readNumber_111 : decode cX6_readNumber 111 = .ok (.getfield 9, 3) := by decide +kernel
theorem dX6_readNumber_114 : decode cX6_readNumber 114 = .ok (.iload_n 3, 1) := by decide +kernel
theorem dX6_readNumber_115 : decode cX6_readNumber 115 = .ok (.caload, 1) := by decide +kernel
theorem dX6_readNumber_116 : decode cX6_readNumber 116 = .ok (.bipush 48, 2) := by decide +kernel
theorem dX6_readNumber_118 : decode cX6_readNumber 118 = .ok (.if_icmp .eq 7, 3) := by decide +kernel
theorem dX6_readNumber_121 : decode cX6_readNumber 121 = .ok (.iconst 1, 1) := by decide +kernel
theorem dX6_readNumber_122 : decode cX6_readNumber 122 = .ok (.goto 4, 3) := by decide +kernel
theorem dX6_readNumber_125 : decode cX6_readNumber 125 = .ok (.iconst 0, 1) := by decide +kernel
theorem dX6_readNumber_126 : decode cX6_readNumber 126 = .ok (.istore 6, 2) := by decide +kernel
theorem dX6_readNumber_128 : decode cX6_readNumber 128 = .ok (.iload 6, 2) := by decide +kernel
theorem dX6_readNumber_130 : decode cX6_readNumber 130 = .ok (.ifCond .eq 13, 3) := by decide +kernel
theorem dX6_readNumber_133 : decode cX6_readNumber 133 = .ok (.iload 4, 2) := by decide +kernel
theorem dX6_readNumber_135 : decode cX6_readNumber 135 = .ok (.iload_n 1, 1) := by decide +kernel
theorem dX6_readNumber_136 : decode cX6_readNumber 136 = .ok (.iload_n 2, 1) := by decide +kernel
theorem dX6_readNumber_137 : decode cX6_readNumber 137 = .ok (.invokestatic 83, 3) := by decide +kernel
theorem dX6_readNumber_140 : decode cX6_readNumber 140 = .ok (.ifCond .ne 8, 3) := by decide +kernel
theorem dX6_readNumber_143 : decode cX6_readNumber 143 = .ok (.aload_n 0, 1) := by decide +kernel
theorem dX6_readNumber_144 : decode cX6_readNumber 144 = .ok (.iload_n 3, 1) := by decide +kernel
theorem dX6_readNumber_145 : decode cX6_readNumber 145 = .ok (.putfield 15, 3) := by decide +kernel
theorem dX6_readNumber_148 : decode cX6_readNumber 148 = .ok (.iload 4, 2) := by decide +kernel
theorem dX6_readNumber_150 : decode cX6_readNumber 150 = .ok (.ireturn, 1) := by decide +kernel
theorem dX6_readEnd_0 : decode cX6_readEnd 0 = .ok (.aload_n 0, 1) := by decide +kernel
theorem dX6_readEnd_1 : decode cX6_readEnd 1 = .ok (.invokevirtual 33, 3) := by decide +kernel
theorem dX6_readEnd_4 : decode cX6_readEnd 4 = .ok (.ifCond .eq 4, 3) := by decide +kernel
theorem dX6_readEnd_7 : decode cX6_readEnd 7 = .ok (.return_, 1) := by decide +kernel
theorem dX6_readEnd_8 : decode cX6_readEnd 8 = .ok (.aload_n 0, 1) := by decide +kernel
theorem dX6_readEnd_9 : decode cX6_readEnd 9 = .ok (.invokevirtual 30, 3) := by decide +kernel
theorem dX6_readEnd_12 : decode cX6_readEnd 12 = .ok (.aload_n 0, 1) := by decide +kernel
theorem dX6_readEnd_13 : decode cX6_readEnd 13 = .ok (.getfield 27, 3) := by decide +kernel
theorem dX6_readEnd_16 : decode cX6_readEnd 16 = .ok (.aload_n 0, 1) := by decide +kernel
theorem dX6_readEnd_17 : decode cX6_readEnd 17 = .ok (.getfield 19, 3) := by decide +kernel
theorem dX6_readEnd_20 : decode cX6_readEnd 20 = .ok (.if_icmp .ge 30, 3) := by decide +kernel
theorem dX6_readEnd_23 : decode cX6_readEnd 23 = .ok (.aload_n 0, 1) := by decide +kernel
theorem dX6_readEnd_24 : decode cX6_readEnd 24 = .ok (.getfield 9, 3) := by decide +kernel
theorem dX6_readEnd_27 : decode cX6_readEnd 27 = .ok (.aload_n 0, 1) := by decide +kernel
theorem dX6_readEnd_28 : decode cX6_readEnd 28 = .ok (.getfield 27, 3) := by decide +kernel
theorem dX6_readEnd_31 : decode cX6_readEnd 31 = .ok (.caload, 1) := by decide +kernel
theorem dX6_readEnd_32 : decode cX6_readEnd 32 = .ok (.bipush 59, 2) := by decide +kernel
theorem dX6_readEnd_34 : decode cX6_readEnd 34 = .ok (.if_icmp .ne 16, 3) := by decide +kernel
theorem dX6_readEnd_37 : decode cX6_readEnd 37 = .ok (.aload_n 0, 1) := by decide +kernel
theorem dX6_readEnd_38 : decode cX6_readEnd 38 = .ok (.dup, 1) := by decide +kernel
theorem dX6_readEnd_39 : decode cX6_readEnd 39 = .ok (.getfield 27, 3) := by decide +kernel
theorem dX6_readEnd_42 : decode cX6_readEnd 42 = .ok (.iconst 1, 1) := by decide +kernel
theorem dX6_readEnd_43 : decode cX6_readEnd 43 = .ok (.iadd, 1) := by decide +kernel
theorem dX6_readEnd_44 : decode cX6_readEnd 44 = .ok (.putfield 27, 3) := by decide +kernel
theorem dX6_readEnd_47 : decode cX6_readEnd 47 = .ok (.goto 11, 3) := by decide +kernel
theorem dX6_readEnd_50 : decode cX6_readEnd 50 = .ok (.aload_n 0, 1) := by decide +kernel
theorem dX6_readEnd_51 : decode cX6_readEnd 51 = .ok (.aload_n 0, 1) := by decide +kernel
theorem dX6_readEnd_52 : decode cX6_readEnd 52 = .ok (.getfield 27, 3) := by decide +kernel
theorem dX6_readEnd_55 : decode cX6_readEnd 55 = .ok (.putfield 15, 3) := by decide +kernel
theorem dX6_readEnd_58 : decode cX6_readEnd 58 = .ok (.return_, 1) := by decide +kernel
theorem dX6_skipBlanks_0 : decode cX6_skipBlanks 0 = .ok (.aload_n 0, 1) := by decide +kernel
theorem dX6_skipBlanks_1 : decode cX6_skipBlanks 1 = .ok (.getfield 27, 3) := by decide +kernel
theorem dX6_skipBlanks_4 : decode cX6_skipBlanks 4 = .ok (.aload_n 0, 1) := by decide +kernel
theorem dX6_skipBlanks_5 : decode cX6_skipBlanks 5 = .ok (.getfield 19, 3) := by decide +kernel
theorem dX6_skipBlanks_8 : decode cX6_skipBlanks 8 = .ok (.if_icmp .ge 30, 3) := by decide +kernel
theorem dX6_skipBlanks_11 : decode cX6_skipBlanks 11 = .ok (.aload_n 0, 1) := by decide +kernel
theorem dX6_skipBlanks_12 : decode cX6_skipBlanks 12 = .ok (.getfield 9, 3) := by decide +kernel
theorem dX6_skipBlanks_15 : decode cX6_skipBlanks 15 = .ok (.aload_n 0, 1) := by decide +kernel
theorem dX6_skipBlanks_16 : decode cX6_skipBlanks 16 = .ok (.getfield 27, 3) := by decide +kernel
theorem dX6_skipBlanks_19 : decode cX6_skipBlanks 19 = .ok (.caload, 1) := by decide +kernel
theorem dX6_skipBlanks_20 : decode cX6_skipBlanks 20 = .ok (.bipush 32, 2) := by decide +kernel
theorem dX6_skipBlanks_22 : decode cX6_skipBlanks 22 = .ok (.if_icmp .ne 16, 3) := by decide +kernel
theorem dX6_skipBlanks_25 : decode cX6_skipBlanks 25 = .ok (.aload_n 0, 1) := by decide +kernel
theorem dX6_skipBlanks_26 : decode cX6_skipBlanks 26 = .ok (.dup, 1) := by decide +kernel
theorem dX6_skipBlanks_27 : decode cX6_skipBlanks 27 = .ok (.getfield 27, 3) := by decide +kernel
theorem dX6_skipBlanks_30 : decode cX6_skipBlanks 30 = .ok (.iconst 1, 1) := by decide +kernel
theorem dX6_skipBlanks_31 : decode cX6_skipBlanks 31 = .ok (.iadd, 1) := by decide +kernel
theorem dX6_skipBlanks_32 : decode cX6_skipBlanks 32 = .ok (.putfield 27, 3) := by decide +kernel
theorem dX6_skipBlanks_35 : decode cX6_skipBlanks 35 = .ok (.goto (-35), 3) := by decide +kernel
theorem dX6_skipBlanks_38 : decode cX6_skipBlanks 38 = .ok (.return_, 1) := by decide +kernel
theorem dX6_isFigure_0 : decode cX6_isFigure 0 = .ok (.iload_n 0, 1) := by decide +kernel
theorem dX6_isFigure_1 : decode cX6_isFigure 1 = .ok (.bipush 48, 2) := by decide +kernel
theorem dX6_isFigure_3 : decode cX6_isFigure 3 = .ok (.if_icmp .lt 13, 3) := by decide +kernel
theorem dX6_isFigure_6 : decode cX6_isFigure 6 = .ok (.iload_n 0, 1) := by decide +kernel
theorem dX6_isFigure_7 : decode cX6_isFigure 7 = .ok (.bipush 57, 2) := by decide +kernel
theorem dX6_isFigure_9 : decode cX6_isFigure 9 = .ok (.if_icmp .gt 7, 3) := by decide +kernel
theorem dX6_isFigure_12 : decode cX6_isFigure 12 = .ok (.iconst 1, 1) := by decide +kernel
theorem dX6_isFigure_13 : decode cX6_isFigure 13 = .ok (.goto 4, 3) := by decide +kernel
theorem dX6_isFigure_16 : decode cX6_isFigure 16 = .ok (.iconst 0, 1) := by decide +kernel
theorem dX6_isFigure_17 : decode cX6_isFigure 17 = .ok (.ireturn, 1) := by decide +kernel
theorem dX7_init_0 : decode cX7_init 0 = .ok (.aload_n 0, 1) := by decide +kernel
theorem dX7_init_1 : decode cX7_init 1 = .ok (.invokespecial 3, 3) := by decide +kernel
theorem dX7_init_4 : decode cX7_init 4 = .ok (.aload_n 0, 1) := by decide +kernel
theorem dX7_init_5 : decode cX7_init 5 = .ok (.iconst 4, 1) := by decide +kernel
theorem dX7_init_6 : decode cX7_init 6 = .ok (.newarray .int, 2) := by decide +kernel
theorem dX7_init_8 : decode cX7_init 8 = .ok (.putfield 9, 3) := by decide +kernel
theorem dX7_init_11 : decode cX7_init 11 = .ok (.aload_n 0, 1) := by decide +kernel
theorem dX7_init_12 : decode cX7_init 12 = .ok (.bipush 16, 2) := by decide +kernel
theorem dX7_init_14 : decode cX7_init 14 = .ok (.newarray .int, 2) := by decide +kernel
theorem dX7_init_16 : decode cX7_init 16 = .ok (.putfield 15, 3) := by decide +kernel
theorem dX7_init_19 : decode cX7_init 19 = .ok (.aload_n 0, 1) := by decide +kernel
theorem dX7_init_20 : decode cX7_init 20 = .ok (.bipush 16, 2) := by decide +kernel
theorem dX7_init_22 : decode cX7_init 22 = .ok (.newarray .int, 2) := by decide +kernel
theorem dX7_init_24 : decode cX7_init 24 = .ok (.putfield 18, 3) := by decide +kernel
theorem dX7_init_27 : decode cX7_init 27 = .ok (.aload_n 0, 1) := by decide +kernel
theorem dX7_init_28 : decode cX7_init 28 = .ok (.iconst 5, 1) := by decide +kernel
theorem dX7_init_29 : decode cX7_init 29 = .ok (.newarray .int, 2) := by decide +kernel
theorem dX7_init_31 : decode cX7_init 31 = .ok (.putfield 21, 3) := by decide +kernel
theorem dX7_init_34 : decode cX7_init 34 = .ok (.return_, 1) := by decide +kernel
theorem dX7_makeEmpty_0 : decode cX7_makeEmpty 0 = .ok (.getstatic 24, 3) := by decide +kernel
theorem dX7_makeEmpty_3 : decode cX7_makeEmpty 3 = .ok (.iconst 0, 1) := by decide +kernel
theorem dX7_makeEmpty_4 : decode cX7_makeEmpty 4 = .ok (.aload_n 0, 1) := by decide +kernel
theorem dX7_makeEmpty_5 : decode cX7_makeEmpty 5 = .ok (.getfield 9, 3) := by decide +kernel
theorem dX7_makeEmpty_8 : decode cX7_makeEmpty 8 = .ok (.iconst 0, 1) := by decide +kernel
theorem dX7_makeEmpty_9 : decode cX7_makeEmpty 9 = .ok (.iconst 4, 1) := by decide +kernel
theorem dX7_makeEmpty_10 : decode cX7_makeEmpty 10 = .ok (.invokestatic 27, 3) := by decide +kernel
theorem dX7_makeEmpty_13 : decode cX7_makeEmpty 13 = .ok (.aload_n 0, 1) := by decide +kernel
theorem dX7_makeEmpty_14 : decode cX7_makeEmpty 14 = .ok (.getfield 15, 3) := by decide +kernel
theorem dX7_makeEmpty_17 : decode cX7_makeEmpty 17 = .ok (.iconst 0, 1) := by decide +kernel
theorem dX7_makeEmpty_18 : decode cX7_makeEmpty 18 = .ok (.invokestatic 33, 3) := by decide +kernel
theorem dX7_makeEmpty_21 : decode cX7_makeEmpty 21 = .ok (.aload_n 0, 1) := by decide +kernel
theorem dX7_makeEmpty_22 : decode cX7_makeEmpty 22 = .ok (.getfield 18, 3) := by decide +kernel
theorem dX7_makeEmpty_25 : decode cX7_makeEmpty 25 = .ok (.iconst 0, 1) := by decide +kernel
theorem dX7_makeEmpty_26 : decode cX7_makeEmpty 26 = .ok (.invokestatic 33, 3) := by decide +kernel
theorem dX7_makeEmpty_29 : decode cX7_makeEmpty 29 = .ok (.aload_n 0, 1) := by decide +kernel
theorem dX7_makeEmpty_30 : decode cX7_makeEmpty 30 = .ok (.getfield 21, 3) := by decide +kernel
theorem dX7_makeEmpty_33 : decode cX7_makeEmpty 33 = .ok (.iconst 0, 1) := by decide +kernel
theorem dX7_makeEmpty_34 : decode cX7_makeEmpty 34 = .ok (.invokestatic 33, 3) := by decide +kernel
theorem dX7_makeEmpty_37 : decode cX7_makeEmpty 37 = .ok (.aload_n 0, 1) := by decide +kernel
theorem dX7_makeEmpty_38 : decode cX7_makeEmpty 38 = .ok (.iconst 0, 1) := by decide +kernel
theorem dX7_makeEmpty_39 : decode cX7_makeEmpty 39 = .ok (.putfield 39, 3) := by decide +kernel
theorem dX7_makeEmpty_42 : decode cX7_makeEmpty 42 = .ok (.aload_n 0, 1) := by decide +kernel
theorem dX7_makeEmpty_43 : decode cX7_makeEmpty 43 = .ok (.iconst 0, 1) := by decide +kernel
theorem dX7_makeEmpty_44 : decode cX7_makeEmpty 44 = .ok (.putfield 43, 3) := by decide +kernel
theorem dX7_makeEmpty_47 : decode cX7_makeEmpty 47 = .ok (.return_, 1) := by decide +kernel
theorem dX7_copyFrom_0 : decode cX7_copyFrom 0 = .ok (.aload_n 1, 1) := by decide +kernel
theorem dX7_copyFrom_1 : decode cX7_copyFrom 1 = .ok (.getfield 9, 3) := by decide +kernel
theorem dX7_copyFrom_4 : decode cX7_copyFrom 4 = .ok (.iconst 0, 1) := by decide +kernel
theorem dX7_copyFrom_5 : decode cX7_copyFrom 5 = .ok (.aload_n 0, 1) := by decide +kernel
theorem dX7_copyFrom_6 : decode cX7_copyFrom 6 = .ok (.getfield 9, 3) := by decide +kernel
theorem dX7_copyFrom_9 : decode cX7_copyFrom 9 = .ok (.iconst 0, 1) := by decide +kernel
theorem dX7_copyFrom_10 : decode cX7_copyFrom 10 = .ok (.aload_n 0, 1) := by decide +kernel
theorem dX7_copyFrom_11 : decode cX7_copyFrom 11 = .ok (.getfield 9, 3) := by decide +kernel
theorem dX7_copyFrom_14 : decode cX7_copyFrom 14 = .ok (.arraylength, 1) := by decide +kernel
theorem dX7_copyFrom_15 : decode cX7_copyFrom 15 = .ok (.invokestatic 27, 3) := by decide +kernel
theorem dX7_copyFrom_18 : decode cX7_copyFrom 18 = .ok (.aload_n 1, 1) := by decide +kernel
theorem dX7_copyFrom_19 : decode cX7_copyFrom 19 = .ok (.getfield 15, 3) := by decide +kernel
theorem dX7_copyFrom_22 : decode cX7_copyFrom 22 = .ok (.iconst 0, 1) := by decide +kernel
theorem dX7_copyFrom_23 : decode cX7_copyFrom 23 = .ok (.aload_n 0, 1) := by decide +kernel
theorem dX7_copyFrom_24 : decode cX7_copyFrom 24 = .ok (.getfield 15, 3) := by decide +kernel
theorem dX7_copyFrom_27 : decode cX7_copyFrom 27 = .ok (.iconst 0, 1) := by decide +kernel
theorem dX7_copyFrom_28 : decode cX7_copyFrom 28 = .ok (.aload_n 0, 1) := by decide +kernel
theorem dX7_copyFrom_29 : decode cX7_copyFrom 29 = .ok (.getfield 15, 3) := by decide +kernel
theorem dX7_copyFrom_32 : decode cX7_copyFrom 32 = .ok (.arraylength, 1) := by decide +kernel
theorem dX7_copyFrom_33 : decode cX7_copyFrom 33 = .ok (.invokestatic 27, 3) := by decide +kernel
theorem dX7_copyFrom_36 : decode cX7_copyFrom 36 = .ok (.aload_n 1, 1) := by decide +kernel
theorem dX7_copyFrom_37 : decode cX7_copyFrom 37 = .ok (.getfield 18, 3) := by decide +kernel
theorem dX7_copyFrom_40 : decode cX7_copyFrom 40 = .ok (.iconst 0, 1) := by decide +kernel
theorem dX7_copyFrom_41 : decode cX7_copyFrom 41 = .ok (.aload_n 0, 1) := by decide +kernel
theorem dX7_copyFrom_42 : decode cX7_copyFrom 42 = .ok (.getfield 18, 3) := by decide +kernel
theorem dX7_copyFrom_45 : decode cX7_copyFrom 45 = .ok (.iconst 0, 1) := by decide +kernel
theorem dX7_copyFrom_46 : decode cX7_copyFrom 46 = .ok (.aload_n 0, 1) := by decide +kernel
theorem dX7_copyFrom_47 : decode cX7_copyFrom 47 = .ok (.getfield 18, 3) := by decide +kernel
theorem dX7_copyFrom_50 : decode cX7_copyFrom 50 = .ok (.arraylength, 1) := by decide +kernel
theorem dX7_copyFrom_51 : decode cX7_copyFrom 51 = .ok (.invokestatic 27, 3) := by decide +kernel
theorem dX7_copyFrom_54 : decode cX7_copyFrom 54 = .ok (.aload_n 1, 1) := by decide +kernel
theorem dX7_copyFrom_55 : decode cX7_copyFrom 55 = .ok (.getfield 21, 3) := by decide +kernel
theorem dX7_copyFrom_58 : decode cX7_copyFrom 58 = .ok (.iconst 0, 1) := by decide +kernel
theorem dX7_copyFrom_59 : decode cX7_copyFrom 59 = .ok (.aload_n 0, 1) := by decide +kernel
theorem dX7_copyFrom_60 : decode cX7_copyFrom 60 = .ok (.getfield 21, 3) := by decide +kernel
theorem dX7_copyFrom_63 : decode cX7_copyFrom 63 = .ok (.iconst 0, 1) := by decide +kernel
theorem dX7_copyFrom_64 : decode cX7_copyFrom 64 = .ok (.aload_n 0, 1) := by decide +kernel
theorem dX7_copyFrom_65 : decode cX7_copyFrom 65 = .ok (.getfield 21, 3) := by decide +kernel
theorem dX7_copyFrom_68 : decode cX7_copyFrom 68 = .ok (.arraylength, 1) := by decide +kernel
theorem dX7_copyFrom_69 : decode cX7_copyFrom 69 = .ok (.invokestatic 27, 3) := by decide +kernel
theorem dX7_copyFrom_72 : decode cX7_copyFrom 72 = .ok (.aload_n 0, 1) := by decide +kernel
theorem dX7_copyFrom_73 : decode cX7_copyFrom 73 = .ok (.aload_n 1, 1) := by decide +kernel
theorem dX7_copyFrom_74 : decode cX7_copyFrom 74 = .ok (.getfield 39, 3) := by decide +kernel
theorem dX7_copyFrom_77 : decode cX7_copyFrom 77 = .ok (.putfield 39, 3) := by decide +kernel
theorem dX7_copyFrom_80 : decode cX7_copyFrom 80 = .ok (.aload_n 0, 1) := by decide +kernel
theorem dX7_copyFrom_81 : decode cX7_copyFrom 81 = .ok (.aload_n 1, 1) := by decide +kernel
theorem dX7_copyFrom_82 : decode cX7_copyFrom 82 = .ok (.getfield 43, 3) := by decide +kernel
theorem dX7_copyFrom_85 : decode cX7_copyFrom 85 = .ok (.putfield 43, 3) := by decide +kernel
theorem dX7_copyFrom_88 : decode cX7_copyFrom 88 = .ok (.return_, 1) := by decide +kernel
theorem dX8_init_0 : decode cX8_init 0 = .ok (.aload_n 0, 1) := by decide +kernel
theorem dX8_init_1 : decode cX8_init 1 = .ok (.invokespecial 3, 3) := by decide +kernel
theorem dX8_init_4 : decode cX8_init 4 = .ok (.aload_n 0, 1) := by decide +kernel
theorem dX8_init_5 : decode cX8_init 5 = .ok (.new 9, 3) := by decide +kernel
theorem dX8_init_8 : decode cX8_init 8 = .ok (.dup, 1) := by decide +kernel
theorem dX8_init_9 : decode cX8_init 9 = .ok (.invokespecial 11, 3) := by decide +kernel
theorem dX8_init_12 : decode cX8_init 12 = .ok (.putfield 12, 3) := by decide +kernel
theorem dX8_init_15 : decode cX8_init 15 = .ok (.aload_n 0, 1) := by decide +kernel
theorem dX8_init_16 : decode cX8_init 16 = .ok (.new 16, 3) := by decide +kernel
theorem dX8_init_19 : decode cX8_init 19 = .ok (.dup, 1) := by decide +kernel
theorem dX8_init_20 : decode cX8_init 20 = .ok (.invokespecial 18, 3) := by decide +kernel
theorem dX8_init_23 : decode cX8_init 23 = .ok (.putfield 19, 3) := by decide +kernel
theorem dX8_init_26 : decode cX8_init 26 = .ok (.aload_n 0, 1) := by decide +kernel
theorem dX8_init_27 : decode cX8_init 27 = .ok (.new 16, 3) := by decide +kernel
theorem dX8_init_30 : decode cX8_init 30 = .ok (.dup, 1) := by decide +kernel
theorem dX8_init_31 : decode cX8_init 31 = .ok (.invokespecial 18, 3) := by decide +kernel
theorem dX8_init_34 : decode cX8_init 34 = .ok (.putfield 23, 3) := by decide +kernel
theorem dX8_init_37 : decode cX8_init 37 = .ok (.aload_n 0, 1) := by decide +kernel
theorem dX8_init_38 : decode cX8_init 38 = .ok (.new 26, 3) := by decide +kernel
theorem dX8_init_41 : decode cX8_init 41 = .ok (.dup, 1) := by decide +kernel
theorem dX8_init_42 : decode cX8_init 42 = .ok (.invokespecial 28, 3) := by decide +kernel
theorem dX8_init_45 : decode cX8_init 45 = .ok (.putfield 29, 3) := by decide +kernel
theorem dX8_init_48 : decode cX8_init 48 = .ok (.aload_n 0, 1) := by decide +kernel
theorem dX8_init_49 : decode cX8_init 49 = .ok (.new 33, 3) := by decide +kernel
theorem dX8_init_52 : decode cX8_init 52 = .ok (.dup, 1) := by decide +kernel
theorem dX8_init_53 : decode cX8_init 53 = .ok (.invokespecial 35, 3) := by decide +kernel
theorem dX8_init_56 : decode cX8_init 56 = .ok (.putfield 36, 3) := by decide +kernel
theorem dX8_init_59 : decode cX8_init 59 = .ok (.aload_n 0, 1) := by decide +kernel
theorem dX8_init_60 : decode cX8_init 60 = .ok (.iconst 2, 1) := by decide +kernel
theorem dX8_init_61 : decode cX8_init 61 = .ok (.anewarray 26, 3) := by decide +kernel
theorem dX8_init_64 : decode cX8_init 64 = .ok (.dup, 1) := by decide +kernel
theorem dX8_init_65 : decode cX8_init 65 = .ok (.iconst 0, 1) := by decide +kernel
theorem dX8_init_66 : decode cX8_init 66 = .ok (.new 26, 3) := by decide +kernel
theorem dX8_init_69 : decode cX8_init 69 = .ok (.dup, 1) := by decide +kernel
theorem dX8_init_70 : decode cX8_init 70 = .ok (.invokespecial 28, 3) := by decide +kernel
theorem dX8_init_73 : decode cX8_init 73 = .ok (.aastore, 1) := by decide +kernel
theorem dX8_init_74 : decode cX8_init 74 = .ok (.dup, 1) := by decide +kernel
theorem dX8_init_75 : decode cX8_init 75 = .ok (.iconst 1, 1) := by decide +kernel
theorem dX8_init_76 : decode cX8_init 76 = .ok (.new 26, 3) := by decide +kernel
theorem dX8_init_79 : decode cX8_init 79 = .ok (.dup, 1) := by decide +kernel
theorem dX8_init_80 : decode cX8_init 80 = .ok (.invokespecial 28, 3) := by decide +kernel
theorem dX8_init_83 : decode cX8_init 83 = .ok (.aastore, 1) := by decide +kernel
theorem dX8_init_84 : decode cX8_init 84 = .ok (.putfield 40, 3) := by decide +kernel
theorem dX8_init_87 : decode cX8_init 87 = .ok (.aload_n 0, 1) := by decide +kernel
theorem dX8_init_88 : decode cX8_init 88 = .ok (.iconst 2, 1) := by decide +kernel
theorem dX8_init_89 : decode cX8_init 89 = .ok (.newarray .boolean, 2) := by decide +kernel
theorem dX8_init_91 : decode cX8_init 91 = .ok (.putfield 44, 3) := by decide +kernel
theorem dX8_init_94 : decode cX8_init 94 = .ok (.aload_n 0, 1) := by decide +kernel
theorem dX8_init_95 : decode cX8_init 95 = .ok (.new 48, 3) := by decide +kernel
theorem dX8_init_98 : decode cX8_init 98 = .ok (.dup, 1) := by decide +kernel
theorem dX8_init_99 : decode cX8_init 99 = .ok (.invokespecial 50, 3) := by decide +kernel
theorem dX8_init_102 : decode cX8_init 102 = .ok (.putfield 51, 3) := by decide +kernel
theorem dX8_init_105 : decode cX8_init 105 = .ok (.aload_n 0, 1) := by decide +kernel
theorem dX8_init_106 : decode cX8_init 106 = .ok (.new 55, 3) := by decide +kernel
theorem dX8_init_109 : decode cX8_init 109 = .ok (.dup, 1) := by decide +kernel
theorem dX8_init_110 : decode cX8_init 110 = .ok (.invokespecial 57, 3) := by decide +kernel
theorem dX8_init_113 : decode cX8_init 113 = .ok (.putfield 58, 3) := by decide +kernel
theorem dX8_init_116 : decode cX8_init 116 = .ok (.aload_n 0, 1) := by decide +kernel
theorem dX8_init_117 : decode cX8_init 117 = .ok (.new 62, 3) := by decide +kernel
theorem dX8_init_120 : decode cX8_init 120 = .ok (.dup, 1) := by decide +kernel
theorem dX8_init_121 : decode cX8_init 121 = .ok (.invokespecial 64, 3) := by decide +kernel
theorem dX8_init_124 : decode cX8_init 124 = .ok (.putfield 65, 3) := by decide +kernel
theorem dX8_init_127 : decode cX8_init 127 = .ok (.aload_n 0, 1) := by decide +kernel
theorem dX8_init_128 : decode cX8_init 128 = .ok (.new 69, 3) := by decide +kernel
theorem dX8_init_131 : decode cX8_init 131 = .ok (.dup, 1) := by decide +kernel
theorem dX8_init_132 : decode cX8_init 132 = .ok (.invokespecial 71, 3) := by decide +kernel
theorem dX8_init_135 : decode cX8_init 135 = .ok (.putfield 72, 3) := by decide +kernel
theorem dX8_init_138 : decode cX8_init 138 = .ok (.aload_n 0, 1) := by decide +kernel
theorem dX8_init_139 : decode cX8_init 139 = .ok (.getfield 19, 3) := by decide +kernel
theorem dX8_init_142 : decode cX8_init 142 = .ok (.invokevirtual 76, 3) := by decide +kernel
theorem dX8_init_145 : decode cX8_init 145 = .ok (.aload_n 0, 1) := by decide +kernel
theorem dX8_init_146 : decode cX8_init 146 = .ok (.invokevirtual 79, 3) := by decide +kernel
theorem dX8_init_149 : decode cX8_init 149 = .ok (.return_, 1) := by decide +kernel
theorem dX8_type_0 : decode cX8_type 0 = .ok (.iload_n 1, 1) := by decide +kernel
theorem dX8_type_1 : decode cX8_type 1 = .ok (.iconst 0, 1) := by decide +kernel
theorem dX8_type_2 : decode cX8_type 2 = .ok (.sipush 255, 3) := by decide +kernel
theorem dX8_type_5 : decode cX8_type 5 = .ok (.invokestatic 82, 3) := by decide +kernel
theorem dX8_type_8 : decode cX8_type 8 = .ok (.ifCond .ne 5, 3) := by decide +kernel
theorem dX8_type_11 : decode cX8_type 11 = .ok (.iconst (-1), 1) := by decide +kernel
theorem dX8_type_12 : decode cX8_type 12 = .ok (.ireturn, 1) := by decide +kernel
theorem dX8_type_13 : decode cX8_type 13 = .ok (.aload_n 0, 1) := by decide +kernel
theorem dX8_type_14 : decode cX8_type 14 = .ok (.getfield 12, 3) := by decide +kernel
theorem dX8_type_17 : decode cX8_type 17 = .ok (.iload_n 1, 1) := by decide +kernel
theorem dX8_type_18 : decode cX8_type 18 = .ok (.i2c, 1) := by decide +kernel
theorem dX8_type_19 : decode cX8_type 19 = .ok (.invokevirtual 86, 3) := by decide +kernel
theorem dX8_type_22 : decode cX8_type 22 = .ok (.ifCond .eq 13, 3) := by decide +kernel
theorem dX8_type_25 : decode cX8_type 25 = .ok (.aload_n 0, 1) := by decide +kernel
theorem dX8_type_26 : decode cX8_type 26 = .ok (.getfield 12, 3) := by decide +kernel
theorem dX8_type_29 : decode cX8_type 29 = .ok (.getfield 90, 3) := by decide +kernel
theorem dX8_type_32 : decode cX8_type 32 = .ok (.goto 5, 3) := by decide +kernel
theorem dX8_type_35 : decode cX8_type 35 = .ok (.bipush (-3), 2) := by decide +kernel
theorem dX8_type_37 : decode cX8_type 37 = .ok (.ireturn, 1) := by decide +kernel
theorem dX8_clear_0 : decode cX8_clear 0 = .ok (.aload_n 0, 1) := by decide +kernel
theorem dX8_clear_1 : decode cX8_clear 1 = .ok (.getfield 12, 3) := by decide +kernel
theorem dX8_clear_4 : decode cX8_clear 4 = .ok (.getfield 90, 3) := by decide +kernel
theorem dX8_clear_7 : decode cX8_clear 7 = .ok (.istore_n 1, 1) := by decide +kernel
theorem dX8_clear_8 : decode cX8_clear 8 = .ok (.aload_n 0, 1) := by decide +kernel
theorem dX8_clear_9 : decode cX8_clear 9 = .ok (.getfield 12, 3) := by decide +kernel
theorem dX8_clear_12 : decode cX8_clear 12 = .ok (.iconst 0, 1) := by decide +kernel
theorem dX8_clear_13 : decode cX8_clear 13 = .ok (.putfield 90, 3) := by decide +kernel
theorem dX8_clear_16 : decode cX8_clear 16 = .ok (.iload_n 1, 1) := by decide +kernel
theorem dX8_clear_17 : decode cX8_clear 17 = .ok (.ireturn, 1) := by decide +kernel
theorem dX8_shop_0 : decode cX8_shop 0 = .ok (.aload_n 0, 1) := by decide +kernel
theorem dX8_shop_1 : decode cX8_shop 1 = .ok (.getfield 12, 3) := by decide +kernel
theorem dX8_shop_4 : decode cX8_shop 4 = .ok (.aload_n 0, 1) := by decide +kernel
theorem dX8_shop_5 : decode cX8_shop 5 = .ok (.getfield 23, 3) := by decide +kernel
theorem dX8_shop_8 : decode cX8_shop 8 = .ok (.invokevirtual 94, 3) := by decide +kernel
theorem dX8_shop_11 : decode cX8_shop 11 = .ok (.istore_n 1, 1) := by decide +kernel
theorem dX8_shop_12 : decode cX8_shop 12 = .ok (.aload_n 0, 1) := by decide +kernel
theorem dX8_shop_13 : decode cX8_shop 13 = .ok (.getfield 12, 3) := by decide +kernel
theorem dX8_shop_16 : decode cX8_shop 16 = .ok (.invokevirtual 98, 3) := by decide +kernel
theorem dX8_shop_19 : decode cX8_shop 19 = .ok (.ifCond .eq 14, 3) := by decide +kernel
theorem dX8_shop_22 : decode cX8_shop 22 = .ok (.bipush (-10), 2) := by decide +kernel
theorem dX8_shop_24 : decode cX8_shop 24 = .ok (.aload_n 0, 1) := by decide +kernel
theorem dX8_shop_25 : decode cX8_shop 25 = .ok (.getfield 12, 3) := by decide +kernel
theorem dX8_shop_28 : decode cX8_shop 28 = .ok (.getfield 102, 3) := by decide +kernel
theorem dX8_shop_31 : decode cX8_shop 31 = .ok (.isub, 1) := by decide +kernel
theorem dX8_shop_32 : decode cX8_shop 32 = .ok (.ireturn, 1) := by decide +kernel
theorem dX8_shop_33 : decode cX8_shop 33 = .ok (.aload_n 0, 1) := by decide +kernel
theorem dX8_shop_34 : decode cX8_shop 34 = .ok (.getfield 19, 3) := by decide +kernel
theorem dX8_shop_37 : decode cX8_shop 37 = .ok (.aload_n 0, 1) := by decide +kernel
theorem dX8_shop_38 : decode cX8_shop 38 = .ok (.getfield 23, 3) := by decide +kernel
theorem dX8_shop_41 : decode cX8_shop 41 = .ok (.invokevirtual 105, 3) := by decide +kernel
theorem dX8_shop_44 : decode cX8_shop 44 = .ok (.aload_n 0, 1) := by decide +kernel
theorem dX8_shop_45 : decode cX8_shop 45 = .ok (.getfield 12, 3) := by decide +kernel
theorem dX8_shop_48 : decode cX8_shop 48 = .ok (.iconst 0, 1) := by decide +kernel
theorem dX8_shop_49 : decode cX8_shop 49 = .ok (.putfield 90, 3) := by decide +kernel
theorem dX8_shop_52 : decode cX8_shop 52 = .ok (.aload_n 0, 1) := by decide +kernel
theorem dX8_shop_53 : decode cX8_shop 53 = .ok (.invokevirtual 79, 3) := by decide +kernel
theorem dX8_shop_56 : decode cX8_shop 56 = .ok (.iload_n 1, 1) := by decide +kernel
theorem dX8_shop_57 : decode cX8_shop 57 = .ok (.ireturn, 1) := by decide +kernel
theorem dX8_holds_0 : decode cX8_holds 0 = .ok (.aload_n 0, 1) := by decide +kernel
theorem dX8_holds_1 : decode cX8_holds 1 = .ok (.iload_n 1, 1) := by decide +kernel
theorem dX8_holds_2 : decode cX8_holds 2 = .ok (.invokevirtual 109, 3) := by decide +kernel
theorem dX8_holds_5 : decode cX8_holds 5 = .ok (.ifCond .eq 26, 3) := by decide +kernel
theorem dX8_holds_8 : decode cX8_holds 8 = .ok (.iload_n 2, 1) := by decide +kernel
theorem dX8_holds_9 : decode cX8_holds 9 = .ok (.invokestatic 113, 3) := by decide +kernel
theorem dX8_holds_12 : decode cX8_holds 12 = .ok (.ifCond .eq 19, 3) := by decide +kernel
theorem dX8_holds_15 : decode cX8_holds 15 = .ok (.aload_n 0, 1) := by decide +kernel
theorem dX8_holds_16 : decode cX8_holds 16 = .ok (.getfield 29, 3) := by decide +kernel
theorem dX8_holds_19 : decode cX8_holds 19 = .ok (.getfield 116, 3) := by decide +kernel
theorem dX8_holds_22 : decode cX8_holds 22 = .ok (.iload_n 1, 1) := by decide +kernel
theorem dX8_holds_23 : decode cX8_holds 23 = .ok (.iconst 4, 1) := by decide +kernel
theorem dX8_holds_24 : decode cX8_holds 24 = .ok (.imul, 1) := by decide +kernel
theorem dX8_holds_25 : decode cX8_holds 25 = .ok (.iload_n 2, 1) := by decide +kernel
theorem dX8_holds_26 : decode cX8_holds 26 = .ok (.iadd, 1) := by decide +kernel
theorem dX8_holds_27 : decode cX8_holds 27 = .ok (.iaload, 1) := by decide +kernel
theorem dX8_holds_28 : decode cX8_holds 28 = .ok (.goto 4, 3) := by decide +kernel
theorem dX8_holds_31 : decode cX8_holds 31 = .ok (.iconst (-1), 1) := by decide +kernel
theorem dX8_holds_32 : decode cX8_holds 32 = .ok (.ireturn, 1) := by decide +kernel
theorem dX8_grows_0 : decode cX8_grows 0 = .ok (.aload_n 0, 1) := by decide +kernel
theorem dX8_grows_1 : decode cX8_grows 1 = .ok (.iload_n 1, 1) := by decide +kernel
theorem dX8_grows_2 : decode cX8_grows 2 = .ok (.invokevirtual 109, 3) := by decide +kernel
theorem dX8_grows_5 : decode cX8_grows 5 = .ok (.ifCond .eq 26, 3) := by decide +kernel
theorem dX8_grows_8 : decode cX8_grows 8 = .ok (.iload_n 2, 1) := by decide +kernel
theorem dX8_grows_9 : decode cX8_grows 9 = .ok (.invokestatic 113, 3) := by decide +kernel
theorem dX8_grows_12 : decode cX8_grows 12 = .ok (.ifCond .eq 19, 3) := by decide +kernel
theorem dX8_grows_15 : decode cX8_grows 15 = .ok (.aload_n 0, 1) := by decide +kernel
theorem dX8_grows_16 : decode cX8_grows 16 = .ok (.getfield 19, 3) := by decide +kernel
theorem dX8_grows_19 : decode cX8_grows 19 = .ok (.getfield 120, 3) := by decide +kernel
theorem dX8_grows_22 : decode cX8_grows 22 = .ok (.iload_n 1, 1) := by decide +kernel
theorem dX8_grows_23 : decode cX8_grows 23 = .ok (.iconst 4, 1) := by decide +kernel
theorem dX8_grows_24 : decode cX8_grows 24 = .ok (.imul, 1) := by decide +kernel
theorem dX8_grows_25 : decode cX8_grows 25 = .ok (.iload_n 2, 1) := by decide +kernel
theorem dX8_grows_26 : decode cX8_grows 26 = .ok (.iadd, 1) := by decide +kernel
theorem dX8_grows_27 : decode cX8_grows 27 = .ok (.iaload, 1) := by decide +kernel
theorem dX8_grows_28 : decode cX8_grows 28 = .ok (.goto 4, 3) := by decide +kernel
theorem dX8_grows_31 : decode cX8_grows 31 = .ok (.iconst (-1), 1) := by decide +kernel
theorem dX8_grows_32 : decode cX8_grows 32 = .ok (.ireturn, 1) := by decide +kernel
theorem dX8_weight_0 : decode cX8_weight 0 = .ok (.iload_n 1, 1) := by decide +kernel
theorem dX8_weight_1 : decode cX8_weight 1 = .ok (.invokestatic 113, 3) := by decide +kernel
theorem dX8_weight_4 : decode cX8_weight 4 = .ok (.ifCond .eq 13, 3) := by decide +kernel
theorem dX8_weight_7 : decode cX8_weight 7 = .ok (.aload_n 0, 1) := by decide +kernel
theorem dX8_weight_8 : decode cX8_weight 8 = .ok (.getfield 19, 3) := by decide +kernel
theorem dX8_weight_11 : decode cX8_weight 11 = .ok (.getfield 123, 3) := by decide +kernel
theorem dX8_weight_14 : decode cX8_weight 14 = .ok (.iload_n 1, 1) := by decide +kernel
theorem dX8_weight_15 : decode cX8_weight 15 = .ok (.iaload, 1) := by decide +kernel
theorem dX8_weight_16 : decode cX8_weight 16 = .ok (.ireturn, 1) := by decide +kernel
theorem dX8_weight_17 : decode cX8_weight 17 = .ok (.iload_n 1, 1) := by decide +kernel
theorem dX8_weight_18 : decode cX8_weight 18 = .ok (.iconst 4, 1) := by decide +kernel
theorem dX8_weight_19 : decode cX8_weight 19 = .ok (.bipush 8, 2) := by decide +kernel
theorem dX8_weight_21 : decode cX8_weight 21 = .ok (.invokestatic 82, 3) := by decide +kernel
theorem dX8_weight_24 : decode cX8_weight 24 = .ok (.ifCond .ne 5, 3) := by decide +kernel
theorem dX8_weight_27 : decode cX8_weight 27 = .ok (.iconst (-1), 1) := by decide +kernel
theorem dX8_weight_28 : decode cX8_weight 28 = .ok (.ireturn, 1) := by decide +kernel
theorem dX8_weight_29 : decode cX8_weight 29 = .ok (.iload_n 1, 1) := by decide +kernel
theorem dX8_weight_30 : decode cX8_weight 30 = .ok (.iconst 4, 1) := by decide +kernel
theorem dX8_weight_31 : decode cX8_weight 31 = .ok (.isub, 1) := by decide +kernel
theorem dX8_weight_32 : decode cX8_weight 32 = .ok (.istore_n 2, 1) := by decide +kernel
theorem dX8_weight_33 : decode cX8_weight 33 = .ok (.iload_n 2, 1) := by decide +kernel
theorem dX8_weight_34 : decode cX8_weight 34 = .ok (.aload_n 0, 1) := by decide +kernel
theorem dX8_weight_35 : decode cX8_weight 35 = .ok (.getfield 19, 3) := by decide +kernel
theorem dX8_weight_38 : decode cX8_weight 38 = .ok (.getfield 126, 3) := by decide +kernel
theorem dX8_weight_41 : decode cX8_weight 41 = .ok (.if_icmp .ge 15, 3) := by decide +kernel
theorem dX8_weight_44 : decode cX8_weight 44 = .ok (.aload_n 0, 1) := by decide +kernel
theorem dX8_weight_45 : decode cX8_weight 45 = .ok (.getfield 19, 3) := by decide +kernel
theorem dX8_weight_48 : decode cX8_weight 48 = .ok (.getfield 129, 3) := by decide +kernel
theorem dX8_weight_51 : decode cX8_weight 51 = .ok (.iload_n 2, 1) := by decide +kernel
theorem dX8_weight_52 : decode cX8_weight 52 = .ok (.iaload, 1) := by decide +kernel
theorem dX8_weight_53 : decode cX8_weight 53 = .ok (.goto 5, 3) := by decide +kernel
theorem dX8_weight_56 : decode cX8_weight 56 = .ok (.bipush (-9), 2) := by decide +kernel
theorem dX8_weight_58 : decode cX8_weight 58 = .ok (.ireturn, 1) := by decide +kernel
theorem dX8_heavy_0 : decode cX8_heavy 0 = .ok (.aload_n 0, 1) := by decide +kernel
theorem dX8_heavy_1 : decode cX8_heavy 1 = .ok (.iload_n 1, 1) := by decide +kernel
theorem dX8_heavy_2 : decode cX8_heavy 2 = .ok (.invokevirtual 109, 3) := by decide +kernel
theorem dX8_heavy_5 : decode cX8_heavy 5 = .ok (.ifCond .eq 11, 3) := by decide +kernel
theorem dX8_heavy_8 : decode cX8_heavy 8 = .ok (.aload_n 0, 1) := by decide +kernel
theorem dX8_heavy_9 : decode cX8_heavy 9 = .ok (.iload_n 1, 1) := by decide +kernel
theorem dX8_heavy_10 : decode cX8_heavy 10 = .ok (.invokevirtual 132, 3) := by decide +kernel
theorem dX8_heavy_13 : decode cX8_heavy 13 = .ok (.goto 4, 3) := by decide +kernel
theorem dX8_heavy_16 : decode cX8_heavy 16 = .ok (.iconst (-1), 1) := by decide +kernel
theorem dX8_heavy_17 : decode cX8_heavy 17 = .ok (.ireturn, 1) := by decide +kernel
theorem dX8_known_0 : decode cX8_known 0 = .ok (.aload_n 0, 1) := by decide +kernel
theorem dX8_known_1 : decode cX8_known 1 = .ok (.iload_n 1, 1) := by decide +kernel
theorem dX8_known_2 : decode cX8_known 2 = .ok (.iload_n 2, 1) := by decide +kernel
theorem dX8_known_3 : decode cX8_known 3 = .ok (.invokevirtual 136, 3) := by decide +kernel
theorem dX8_known_6 : decode cX8_known 6 = .ok (.ifCond .eq 12, 3) := by decide +kernel
theorem dX8_known_9 : decode cX8_known 9 = .ok (.aload_n 0, 1) := by decide +kernel
theorem dX8_known_10 : decode cX8_known 10 = .ok (.iload_n 1, 1) := by decide +kernel
theorem dX8_known_11 : decode cX8_known 11 = .ok (.iload_n 2, 1) := by decide +kernel
theorem dX8_known_12 : decode cX8_known 12 = .ok (.invokevirtual 140, 3) := by decide +kernel
theorem dX8_known_15 : decode cX8_known 15 = .ok (.goto 4, 3) := by decide +kernel
theorem dX8_known_18 : decode cX8_known 18 = .ok (.iconst (-1), 1) := by decide +kernel
theorem dX8_known_19 : decode cX8_known 19 = .ok (.ireturn, 1) := by decide +kernel
theorem dX8_now_0 : decode cX8_now 0 = .ok (.iload_n 1, 1) := by decide +kernel
theorem dX8_now_1 : decode cX8_now 1 = .ok (.tableswitch 78 0 6 #[43, 51, 56, 56, 56, 62, 70], 43) := by decide +kernel
theorem dX8_now_44 : decode cX8_now 44 = .ok (.aload_n 0, 1) := by decide +kernel
theorem dX8_now_45 : decode cX8_now 45 = .ok (.getfield 29, 3) := by decide +kernel
theorem dX8_now_48 : decode cX8_now 48 = .ok (.getfield 144, 3) := by decide +kernel
theorem dX8_now_51 : decode cX8_now 51 = .ok (.ireturn, 1) := by decide +kernel
theorem dX8_now_52 : decode cX8_now 52 = .ok (.aload_n 0, 1) := by decide +kernel
theorem dX8_now_53 : decode cX8_now 53 = .ok (.invokevirtual 147, 3) := by decide +kernel
theorem dX8_now_56 : decode cX8_now 56 = .ok (.ireturn, 1) := by decide +kernel
theorem dX8_now_57 : decode cX8_now 57 = .ok (.aload_n 0, 1) := by decide +kernel
theorem dX8_now_58 : decode cX8_now 58 = .ok (.iload_n 1, 1) := by decide +kernel
theorem dX8_now_59 : decode cX8_now 59 = .ok (.invokevirtual 151, 3) := by decide +kernel
theorem dX8_now_62 : decode cX8_now 62 = .ok (.ireturn, 1) := by decide +kernel
theorem dX8_now_63 : decode cX8_now 63 = .ok (.aload_n 0, 1) := by decide +kernel
theorem dX8_now_64 : decode cX8_now 64 = .ok (.getfield 58, 3) := by decide +kernel
theorem dX8_now_67 : decode cX8_now 67 = .ok (.invokevirtual 154, 3) := by decide +kernel
theorem dX8_now_70 : decode cX8_now 70 = .ok (.ireturn, 1) := by decide +kernel
theorem dX8_now_71 : decode cX8_now 71 = .ok (.aload_n 0, 1) := by decide +kernel
theorem dX8_now_72 : decode cX8_now 72 = .ok (.getfield 36, 3) := by decide +kernel
theorem dX8_now_75 : decode cX8_now 75 = .ok (.getfield 157, 3) := by decide +kernel
theorem dX8_now_78 : decode cX8_now 78 = .ok (.ireturn, 1) := by decide +kernel
theorem dX8_now_79 : decode cX8_now 79 = .ok (.iconst (-1), 1) := by decide +kernel
theorem dX8_now_80 : decode cX8_now 80 = .ok (.ireturn, 1) := by decide +kernel
theorem dX8_tells_0 : decode cX8_tells 0 = .ok (.aload_n 0, 1) := by decide +kernel
theorem dX8_tells_1 : decode cX8_tells 1 = .ok (.iload_n 1, 1) := by decide +kernel
theorem dX8_tells_2 : decode cX8_tells 2 = .ok (.iload_n 2, 1) := by decide +kernel
theorem dX8_tells_3 : decode cX8_tells 3 = .ok (.invokevirtual 136, 3) := by decide +kernel
theorem dX8_tells_6 : decode cX8_tells 6 = .ok (.ifCond .eq 10, 3) := by decide +kernel
theorem dX8_tells_9 : decode cX8_tells 9 = .ok (.iload_n 3, 1) := by decide +kernel
theorem dX8_tells_10 : decode cX8_tells 10 = .ok (.invokestatic 113, 3) := by decide +kernel
theorem dX8_tells_13 : decode cX8_tells 13 = .ok (.ifCond .ne 5, 3) := by decide +kernel
theorem dX8_tells_16 : decode cX8_tells 16 = .ok (.iconst (-1), 1) := by decide +kernel
theorem dX8_tells_17 : decode cX8_tells 17 = .ok (.ireturn, 1) := by decide +kernel
theorem dX8_tells_18 : decode cX8_tells 18 = .ok (.iload_n 1, 1) := by decide +kernel
theorem dX8_tells_19 : decode cX8_tells 19 = .ok (.iconst 4, 1) := by decide +kernel
theorem dX8_tells_20 : decode cX8_tells 20 = .ok (.imul, 1) := by decide +kernel
theorem dX8_tells_21 : decode cX8_tells 21 = .ok (.iload_n 3, 1) := by decide +kernel
theorem dX8_tells_22 : decode cX8_tells 22 = .ok (.iadd, 1) := by decide +kernel
theorem dX8_tells_23 : decode cX8_tells 23 = .ok (.istore 4, 2) := by decide +kernel
theorem dX8_tells_25 : decode cX8_tells 25 = .ok (.aload_n 0, 1) := by decide +kernel
theorem dX8_tells_26 : decode cX8_tells 26 = .ok (.getfield 29, 3) := by decide +kernel
theorem dX8_tells_29 : decode cX8_tells 29 = .ok (.getfield 116, 3) := by decide +kernel
theorem dX8_tells_32 : decode cX8_tells 32 = .ok (.iload 4, 2) := by decide +kernel
theorem dX8_tells_34 : decode cX8_tells 34 = .ok (.iaload, 1) := by decide +kernel
theorem dX8_tells_35 : decode cX8_tells 35 = .ok (.ifCond .ne 6, 3) := by decide +kernel
theorem dX8_tells_38 : decode cX8_tells 38 = .ok (.bipush (-2), 2) := by decide +kernel
theorem dX8_tells_40 : decode cX8_tells 40 = .ok (.ireturn, 1) := by decide +kernel
theorem dX8_tells_41 : decode cX8_tells 41 = .ok (.aload_n 0, 1) := by decide +kernel
theorem dX8_tells_42 : decode cX8_tells 42 = .ok (.getfield 36, 3) := by decide +kernel
theorem dX8_tells_45 : decode cX8_tells 45 = .ok (.aload_n 0, 1) := by decide +kernel
theorem dX8_tells_46 : decode cX8_tells 46 = .ok (.getfield 29, 3) := by decide +kernel
theorem dX8_tells_49 : decode cX8_tells 49 = .ok (.invokevirtual 160, 3) := by decide +kernel
theorem dX8_tells_52 : decode cX8_tells 52 = .ok (.aload_n 0, 1) := by decide +kernel
theorem dX8_tells_53 : decode cX8_tells 53 = .ok (.getfield 29, 3) := by decide +kernel
theorem dX8_tells_56 : decode cX8_tells 56 = .ok (.getfield 116, 3) := by decide +kernel
theorem dX8_tells_59 : decode cX8_tells 59 = .ok (.iload 4, 2) := by decide +kernel
theorem dX8_tells_61 : decode cX8_tells 61 = .ok (.dup2, 1) := by decide +kernel
theorem dX8_tells_62 : decode cX8_tells 62 = .ok (.iaload, 1) := by decide +kernel
theorem dX8_tells_63 : decode cX8_tells 63 = .ok (.iconst 1, 1) := by decide +kernel
theorem dX8_tells_64 : decode cX8_tells 64 = .ok (.isub, 1) := by decide +kernel
theorem dX8_tells_65 : decode cX8_tells 65 = .ok (.iastore, 1) := by decide +kernel
theorem dX8_tells_66 : decode cX8_tells 66 = .ok (.iload_n 3, 1) := by decide +kernel
theorem dX8_tells_67 : decode cX8_tells 67 = .ok (.ifCond .le 18, 3) := by decide +kernel
theorem dX8_tells_70 : decode cX8_tells 70 = .ok (.aload_n 0, 1) := by decide +kernel
theorem dX8_tells_71 : decode cX8_tells 71 = .ok (.getfield 29, 3) := by decide +kernel
theorem dX8_tells_74 : decode cX8_tells 74 = .ok (.iload_n 2, 1) := by decide +kernel
theorem dX8_tells_75 : decode cX8_tells 75 = .ok (.iconst 4, 1) := by decide +kernel
theorem dX8_tells_76 : decode cX8_tells 76 = .ok (.imul, 1) := by decide +kernel
theorem dX8_tells_77 : decode cX8_tells 77 = .ok (.iload_n 3, 1) := by decide +kernel
theorem dX8_tells_78 : decode cX8_tells 78 = .ok (.iadd, 1) := by decide +kernel
theorem dX8_tells_79 : decode cX8_tells 79 = .ok (.iconst 1, 1) := by decide +kernel
theorem dX8_tells_80 : decode cX8_tells 80 = .ok (.isub, 1) := by decide +kernel
theorem dX8_tells_81 : decode cX8_tells 81 = .ok (.iconst 1, 1) := by decide +kernel
theorem dX8_tells_82 : decode cX8_tells 82 = .ok (.invokevirtual 164, 3) := by decide +kernel
theorem dX8_tells_85 : decode cX8_tells 85 = .ok (.aload_n 0, 1) := by decide +kernel
theorem dX8_tells_86 : decode cX8_tells 86 = .ok (.iload_n 1, 1) := by decide +kernel
theorem dX8_tells_87 : decode cX8_tells 87 = .ok (.invokevirtual 132, 3) := by decide +kernel
theorem dX8_tells_90 : decode cX8_tells 90 = .ok (.ireturn, 1) := by decide +kernel
theorem dX8_keeps_0 : decode cX8_keeps 0 = .ok (.aload_n 0, 1) := by decide +kernel
theorem dX8_keeps_1 : decode cX8_keeps 1 = .ok (.iload_n 1, 1) := by decide +kernel
theorem dX8_keeps_2 : decode cX8_keeps 2 = .ok (.invokevirtual 109, 3) := by decide +kernel
theorem dX8_keeps_5 : decode cX8_keeps 5 = .ok (.ifCond .eq 10, 3) := by decide +kernel
theorem dX8_keeps_8 : decode cX8_keeps 8 = .ok (.iload_n 2, 1) := by decide +kernel
theorem dX8_keeps_9 : decode cX8_keeps 9 = .ok (.invokestatic 113, 3) := by decide +kernel
theorem dX8_keeps_12 : decode cX8_keeps 12 = .ok (.ifCond .ne 5, 3) := by decide +kernel
theorem dX8_keeps_15 : decode cX8_keeps 15 = .ok (.iconst (-1), 1) := by decide +kernel
theorem dX8_keeps_16 : decode cX8_keeps 16 = .ok (.ireturn, 1) := by decide +kernel
theorem dX8_keeps_17 : decode cX8_keeps 17 = .ok (.iload_n 1, 1) := by decide +kernel
theorem dX8_keeps_18 : decode cX8_keeps 18 = .ok (.iconst 4, 1) := by decide +kernel
theorem dX8_keeps_19 : decode cX8_keeps 19 = .ok (.imul, 1) := by decide +kernel
theorem dX8_keeps_20 : decode cX8_keeps 20 = .ok (.iload_n 2, 1) := by decide +kernel
theorem dX8_keeps_21 : decode cX8_keeps 21 = .ok (.iadd, 1) := by decide +kernel
theorem dX8_keeps_22 : decode cX8_keeps 22 = .ok (.istore_n 3, 1) := by decide +kernel
theorem dX8_keeps_23 : decode cX8_keeps 23 = .ok (.aload_n 0, 1) := by decide +kernel
theorem dX8_keeps_24 : decode cX8_keeps 24 = .ok (.getfield 29, 3) := by decide +kernel
theorem dX8_keeps_27 : decode cX8_keeps 27 = .ok (.getfield 116, 3) := by decide +kernel
theorem dX8_keeps_30 : decode cX8_keeps 30 = .ok (.iload_n 3, 1) := by decide +kernel
theorem dX8_keeps_31 : decode cX8_keeps 31 = .ok (.iaload, 1) := by decide +kernel
theorem dX8_keeps_32 : decode cX8_keeps 32 = .ok (.bipush 9, 2) := by decide +kernel
theorem dX8_keeps_34 : decode cX8_keeps 34 = .ok (.if_icmp .lt 6, 3) := by decide +kernel
theorem dX8_keeps_37 : decode cX8_keeps 37 = .ok (.bipush (-2), 2) := by decide +kernel
theorem dX8_keeps_39 : decode cX8_keeps 39 = .ok (.ireturn, 1) := by decide +kernel
theorem dX8_keeps_40 : decode cX8_keeps 40 = .ok (.aload_n 0, 1) := by decide +kernel
theorem dX8_keeps_41 : decode cX8_keeps 41 = .ok (.getfield 36, 3) := by decide +kernel
theorem dX8_keeps_44 : decode cX8_keeps 44 = .ok (.aload_n 0, 1) := by decide +kernel
theorem dX8_keeps_45 : decode cX8_keeps 45 = .ok (.getfield 29, 3) := by decide +kernel
theorem dX8_keeps_48 : decode cX8_keeps 48 = .ok (.invokevirtual 160, 3) := by decide +kernel
theorem dX8_keeps_51 : decode cX8_keeps 51 = .ok (.aload_n 0, 1) := by decide +kernel
theorem dX8_keeps_52 : decode cX8_keeps 52 = .ok (.getfield 29, 3) := by decide +kernel
theorem dX8_keeps_55 : decode cX8_keeps 55 = .ok (.iload_n 3, 1) := by decide +kernel
theorem dX8_keeps_56 : decode cX8_keeps 56 = .ok (.iconst 1, 1) := by decide +kernel
theorem dX8_keeps_57 : decode cX8_keeps 57 = .ok (.invokevirtual 164, 3) := by decide +kernel
theorem dX8_keeps_60 : decode cX8_keeps 60 = .ok (.aload_n 0, 1) := by decide +kernel
theorem dX8_keeps_61 : decode cX8_keeps 61 = .ok (.getfield 29, 3) := by decide +kernel
theorem dX8_keeps_64 : decode cX8_keeps 64 = .ok (.getfield 116, 3) := by decide +kernel
theorem dX8_keeps_67 : decode cX8_keeps 67 = .ok (.iload_n 3, 1) := by decide +kernel
theorem dX8_keeps_68 : decode cX8_keeps 68 = .ok (.iaload, 1) := by decide +kernel
theorem dX8_keeps_69 : decode cX8_keeps 69 = .ok (.ireturn, 1) := by decide +kernel
theorem dX8_day_0 : decode cX8_day 0 = .ok (.aload_n 0, 1) := by decide +kernel
theorem dX8_day_1 : decode cX8_day 1 = .ok (.getfield 29, 3) := by decide +kernel
theorem dX8_day_4 : decode cX8_day 4 = .ok (.getfield 144, 3) := by decide +kernel
theorem dX8_day_7 : decode cX8_day 7 = .ok (.sipush 999, 3) := by decide +kernel
theorem dX8_day_10 : decode cX8_day 10 = .ok (.if_icmp .lt 6, 3) := by decide +kernel
theorem dX8_day_13 : decode cX8_day 13 = .ok (.bipush (-2), 2) := by decide +kernel
theorem dX8_day_15 : decode cX8_day 15 = .ok (.ireturn, 1) := by decide +kernel
theorem dX8_day_16 : decode cX8_day 16 = .ok (.aload_n 0, 1) := by decide +kernel
theorem dX8_day_17 : decode cX8_day 17 = .ok (.getfield 36, 3) := by decide +kernel
theorem dX8_day_20 : decode cX8_day 20 = .ok (.aload_n 0, 1) := by decide +kernel
theorem dX8_day_21 : decode cX8_day 21 = .ok (.getfield 29, 3) := by decide +kernel
theorem dX8_day_24 : decode cX8_day 24 = .ok (.invokevirtual 160, 3) := by decide +kernel
theorem dX8_day_27 : decode cX8_day 27 = .ok (.iconst 0, 1) := by decide +kernel
theorem dX8_day_28 : decode cX8_day 28 = .ok (.istore_n 1, 1) := by decide +kernel
theorem dX8_day_29 : decode cX8_day 29 = .ok (.iload_n 1, 1) := by decide +kernel
theorem dX8_day_30 : decode cX8_day 30 = .ok (.aload_n 0, 1) := by decide +kernel
theorem dX8_day_31 : decode cX8_day 31 = .ok (.getfield 19, 3) := by decide +kernel
theorem dX8_day_34 : decode cX8_day 34 = .ok (.getfield 168, 3) := by decide +kernel
theorem dX8_day_37 : decode cX8_day 37 = .ok (.iconst 4, 1) := by decide +kernel
theorem dX8_day_38 : decode cX8_day 38 = .ok (.imul, 1) := by decide +kernel
theorem dX8_day_39 : decode cX8_day 39 = .ok (.if_icmp .ge 26, 3) := by decide +kernel
theorem dX8_day_42 : decode cX8_day 42 = .ok (.aload_n 0, 1) := by decide +kernel
theorem dX8_day_43 : decode cX8_day 43 = .ok (.getfield 29, 3) := by decide +kernel
theorem dX8_day_46 : decode cX8_day 46 = .ok (.iload_n 1, 1) := by decide +kernel
theorem dX8_day_47 : decode cX8_day 47 = .ok (.aload_n 0, 1) := by decide +kernel
theorem dX8_day_48 : decode cX8_day 48 = .ok (.getfield 19, 3) := by decide +kernel
theorem dX8_day_51 : decode cX8_day 51 = .ok (.getfield 120, 3) := by decide +kernel
theorem dX8_day_54 : decode cX8_day 54 = .ok (.iload_n 1, 1) := by decide +kernel
theorem dX8_day_55 : decode cX8_day 55 = .ok (.iaload, 1) := by decide +kernel
theorem dX8_day_56 : decode cX8_day 56 = .ok (.invokevirtual 164, 3) := by decide +kernel
theorem dX8_day_59 : decode cX8_day 59 = .ok (.iinc 1 1, 3) := by decide +kernel
theorem dX8_day_62 : decode cX8_day 62 = .ok (.goto (-33), 3) := by decide +kernel
theorem dX8_day_65 : decode cX8_day 65 = .ok (.aload_n 0, 1) := by decide +kernel
theorem dX8_day_66 : decode cX8_day 66 = .ok (.getfield 29, 3) := by decide +kernel
theorem dX8_day_69 : decode cX8_day 69 = .ok (.dup, 1) := by decide +kernel
theorem dX8_day_70 : decode cX8_day 70 = .ok (.getfield 144, 3) := by decide +kernel
theorem dX8_day_73 : decode cX8_day 73 = .ok (.iconst 1, 1) := by decide +kernel
theorem dX8_day_74 : decode cX8_day 74 = .ok (.iadd, 1) := by decide +kernel
theorem dX8_day_75 : decode cX8_day 75 = .ok (.putfield 144, 3) := by decide +kernel
theorem dX8_day_78 : decode cX8_day 78 = .ok (.aload_n 0, 1) := by decide +kernel
theorem dX8_day_79 : decode cX8_day 79 = .ok (.getfield 29, 3) := by decide +kernel
theorem dX8_day_82 : decode cX8_day 82 = .ok (.getfield 144, 3) := by decide +kernel
theorem dX8_day_85 : decode cX8_day 85 = .ok (.ireturn, 1) := by decide +kernel
theorem dX8_weighs_0 : decode cX8_weighs 0 = .ok (.aload_n 0, 1) := by decide +kernel
theorem dX8_weighs_1 : decode cX8_weighs 1 = .ok (.iload_n 1, 1) := by decide +kernel
theorem dX8_weighs_2 : decode cX8_weighs 2 = .ok (.iload_n 2, 1) := by decide +kernel
theorem dX8_weighs_3 : decode cX8_weighs 3 = .ok (.invokevirtual 136, 3) := by decide +kernel
theorem dX8_weighs_6 : decode cX8_weighs 6 = .ok (.ifCond .ne 5, 3) := by decide +kernel
theorem dX8_weighs_9 : decode cX8_weighs 9 = .ok (.iconst (-1), 1) := by decide +kernel
theorem dX8_weighs_10 : decode cX8_weighs 10 = .ok (.ireturn, 1) := by decide +kernel
theorem dX8_weighs_11 : decode cX8_weighs 11 = .ok (.aload_n 0, 1) := by decide +kernel
theorem dX8_weighs_12 : decode cX8_weighs 12 = .ok (.getfield 36, 3) := by decide +kernel
theorem dX8_weighs_15 : decode cX8_weighs 15 = .ok (.aload_n 0, 1) := by decide +kernel
theorem dX8_weighs_16 : decode cX8_weighs 16 = .ok (.getfield 29, 3) := by decide +kernel
theorem dX8_weighs_19 : decode cX8_weighs 19 = .ok (.invokevirtual 160, 3) := by decide +kernel
theorem dX8_weighs_22 : decode cX8_weighs 22 = .ok (.aload_n 0, 1) := by decide +kernel
theorem dX8_weighs_23 : decode cX8_weighs 23 = .ok (.getfield 29, 3) := by decide +kernel
theorem dX8_weighs_26 : decode cX8_weighs 26 = .ok (.aload_n 0, 1) := by decide +kernel
theorem dX8_weighs_27 : decode cX8_weighs 27 = .ok (.getfield 29, 3) := by decide +kernel
theorem dX8_weighs_30 : decode cX8_weighs 30 = .ok (.getfield 171, 3) := by decide +kernel
theorem dX8_weighs_33 : decode cX8_weighs 33 = .ok (.iload_n 1, 1) := by decide +kernel
theorem dX8_weighs_34 : decode cX8_weighs 34 = .ok (.iload_n 2, 1) := by decide +kernel
theorem dX8_weighs_35 : decode cX8_weighs 35 = .ok (.invokestatic 174, 3) := by decide +kernel
theorem dX8_weighs_38 : decode cX8_weighs 38 = .ok (.aload_n 0, 1) := by decide +kernel
theorem dX8_weighs_39 : decode cX8_weighs 39 = .ok (.iload_n 1, 1) := by decide +kernel
theorem dX8_weighs_40 : decode cX8_weighs 40 = .ok (.iload_n 2, 1) := by decide +kernel
theorem dX8_weighs_41 : decode cX8_weighs 41 = .ok (.invokevirtual 177, 3) := by decide +kernel
theorem dX8_weighs_44 : decode cX8_weighs 44 = .ok (.invokestatic 180, 3) := by decide +kernel
theorem dX8_weighs_47 : decode cX8_weighs 47 = .ok (.putfield 171, 3) := by decide +kernel
theorem dX8_weighs_50 : decode cX8_weighs 50 = .ok (.aload_n 0, 1) := by decide +kernel
theorem dX8_weighs_51 : decode cX8_weighs 51 = .ok (.iload_n 1, 1) := by decide +kernel
theorem dX8_weighs_52 : decode cX8_weighs 52 = .ok (.iload_n 2, 1) := by decide +kernel
theorem dX8_weighs_53 : decode cX8_weighs 53 = .ok (.invokevirtual 140, 3) := by decide +kernel
theorem dX8_weighs_56 : decode cX8_weighs 56 = .ok (.ireturn, 1) := by decide +kernel
theorem dX8_forgets_0 : decode cX8_forgets 0 = .ok (.aload_n 0, 1) := by decide +kernel
theorem dX8_forgets_1 : decode cX8_forgets 1 = .ok (.invokevirtual 147, 3) := by decide +kernel
theorem dX8_forgets_4 : decode cX8_forgets 4 = .ok (.istore_n 1, 1) := by decide +kernel
theorem dX8_forgets_5 : decode cX8_forgets 5 = .ok (.aload_n 0, 1) := by decide +kernel
theorem dX8_forgets_6 : decode cX8_forgets 6 = .ok (.getfield 36, 3) := by decide +kernel
theorem dX8_forgets_9 : decode cX8_forgets 9 = .ok (.aload_n 0, 1) := by decide +kernel
theorem dX8_forgets_10 : decode cX8_forgets 10 = .ok (.getfield 29, 3) := by decide +kernel
theorem dX8_forgets_13 : decode cX8_forgets 13 = .ok (.invokevirtual 160, 3) := by decide +kernel
theorem dX8_forgets_16 : decode cX8_forgets 16 = .ok (.aload_n 0, 1) := by decide +kernel
theorem dX8_forgets_17 : decode cX8_forgets 17 = .ok (.getfield 29, 3) := by decide +kernel
theorem dX8_forgets_20 : decode cX8_forgets 20 = .ok (.iconst 0, 1) := by decide +kernel
theorem dX8_forgets_21 : decode cX8_forgets 21 = .ok (.putfield 171, 3) := by decide +kernel
theorem dX8_forgets_24 : decode cX8_forgets 24 = .ok (.iload_n 1, 1) := by decide +kernel
theorem dX8_forgets_25 : decode cX8_forgets 25 = .ok (.ireturn, 1) := by decide +kernel
theorem dX8_undo_0 : decode cX8_undo 0 = .ok (.aload_n 0, 1) := by decide +kernel
theorem dX8_undo_1 : decode cX8_undo 1 = .ok (.getfield 36, 3) := by decide +kernel
theorem dX8_undo_4 : decode cX8_undo 4 = .ok (.getfield 157, 3) := by decide +kernel
theorem dX8_undo_7 : decode cX8_undo 7 = .ok (.ifCond .ne 6, 3) := by decide +kernel
theorem dX8_undo_10 : decode cX8_undo 10 = .ok (.bipush (-2), 2) := by decide +kernel
theorem dX8_undo_12 : decode cX8_undo 12 = .ok (.ireturn, 1) := by decide +kernel
theorem dX8_undo_13 : decode cX8_undo 13 = .ok (.aload_n 0, 1) := by decide +kernel
theorem dX8_undo_14 : decode cX8_undo 14 = .ok (.getfield 36, 3) := by decide +kernel
theorem dX8_undo_17 : decode cX8_undo 17 = .ok (.aload_n 0, 1) := by decide +kernel
theorem dX8_undo_18 : decode cX8_undo 18 = .ok (.getfield 29, 3) := by decide +kernel
theorem dX8_undo_21 : decode cX8_undo 21 = .ok (.invokevirtual 184, 3) := by decide +kernel
theorem dX8_undo_24 : decode cX8_undo 24 = .ok (.aload_n 0, 1) := by decide +kernel
theorem dX8_undo_25 : decode cX8_undo 25 = .ok (.getfield 36, 3) := by decide +kernel
theorem dX8_undo_28 : decode cX8_undo 28 = .ok (.getfield 157, 3) := by decide +kernel
theorem dX8_undo_31 : decode cX8_undo 31 = .ok (.ireturn, 1) := by decide +kernel
theorem dX8_beam_0 : decode cX8_beam 0 = .ok (.aload_n 0, 1) := by decide +kernel
theorem dX8_beam_1 : decode cX8_beam 1 = .ok (.iload_n 1, 1) := by decide +kernel
theorem dX8_beam_2 : decode cX8_beam 2 = .ok (.iload_n 2, 1) := by decide +kernel
theorem dX8_beam_3 : decode cX8_beam 3 = .ok (.invokevirtual 136, 3) := by decide +kernel
theorem dX8_beam_6 : decode cX8_beam 6 = .ok (.ifCond .eq 17, 3) := by decide +kernel
theorem dX8_beam_9 : decode cX8_beam 9 = .ok (.aload_n 0, 1) := by decide +kernel
theorem dX8_beam_10 : decode cX8_beam 10 = .ok (.iload_n 1, 1) := by decide +kernel
theorem dX8_beam_11 : decode cX8_beam 11 = .ok (.invokevirtual 132, 3) := by decide +kernel
theorem dX8_beam_14 : decode cX8_beam 14 = .ok (.aload_n 0, 1) := by decide +kernel
theorem dX8_beam_15 : decode cX8_beam 15 = .ok (.iload_n 2, 1) := by decide +kernel
theorem dX8_beam_16 : decode cX8_beam 16 = .ok (.invokevirtual 132, 3) := by decide +kernel
theorem dX8_beam_19 : decode cX8_beam 19 = .ok (.isub, 1) := by decide +kernel
theorem dX8_beam_20 : decode cX8_beam 20 = .ok (.goto 5, 3) := by decide +kernel
theorem dX8_beam_23 : decode cX8_beam 23 = .ok (.ldc 187, 2) := by decide +kernel
theorem dX8_beam_25 : decode cX8_beam 25 = .ok (.ireturn, 1) := by decide +kernel
theorem dX8_level_0 : decode cX8_level 0 = .ok (.aload_n 0, 1) := by decide +kernel
theorem dX8_level_1 : decode cX8_level 1 = .ok (.iload_n 1, 1) := by decide +kernel
theorem dX8_level_2 : decode cX8_level 2 = .ok (.iload_n 2, 1) := by decide +kernel
theorem dX8_level_3 : decode cX8_level 3 = .ok (.invokevirtual 136, 3) := by decide +kernel
theorem dX8_level_6 : decode cX8_level 6 = .ok (.ifCond .eq 13, 3) := by decide +kernel
theorem dX8_level_9 : decode cX8_level 9 = .ok (.iload_n 3, 1) := by decide +kernel
theorem dX8_level_10 : decode cX8_level 10 = .ok (.iconst 0, 1) := by decide +kernel
theorem dX8_level_11 : decode cX8_level 11 = .ok (.bipush 9, 2) := by decide +kernel
theorem dX8_level_13 : decode cX8_level 13 = .ok (.invokestatic 82, 3) := by decide +kernel
theorem dX8_level_16 : decode cX8_level 16 = .ok (.ifCond .ne 5, 3) := by decide +kernel
theorem dX8_level_19 : decode cX8_level 19 = .ok (.iconst (-1), 1) := by decide +kernel
theorem dX8_level_20 : decode cX8_level 20 = .ok (.ireturn, 1) := by decide +kernel
theorem dX8_level_21 : decode cX8_level 21 = .ok (.aload_n 0, 1) := by decide +kernel
theorem dX8_level_22 : decode cX8_level 22 = .ok (.getfield 65, 3) := by decide +kernel
theorem dX8_level_25 : decode cX8_level 25 = .ok (.aload_n 0, 1) := by decide +kernel
theorem dX8_level_26 : decode cX8_level 26 = .ok (.getfield 19, 3) := by decide +kernel
theorem dX8_level_29 : decode cX8_level 29 = .ok (.getfield 123, 3) := by decide +kernel
theorem dX8_level_32 : decode cX8_level 32 = .ok (.aload_n 0, 1) := by decide +kernel
theorem dX8_level_33 : decode cX8_level 33 = .ok (.getfield 29, 3) := by decide +kernel
theorem dX8_level_36 : decode cX8_level 36 = .ok (.getfield 116, 3) := by decide +kernel
theorem dX8_level_39 : decode cX8_level 39 = .ok (.iload_n 1, 1) := by decide +kernel
theorem dX8_level_40 : decode cX8_level 40 = .ok (.iload_n 2, 1) := by decide +kernel
theorem dX8_level_41 : decode cX8_level 41 = .ok (.invokevirtual 188, 3) := by decide +kernel
theorem dX8_level_44 : decode cX8_level 44 = .ok (.iload_n 3, 1) := by decide +kernel
theorem dX8_level_45 : decode cX8_level 45 = .ok (.ifCond .ne 11, 3) := by decide +kernel
theorem dX8_level_48 : decode cX8_level 48 = .ok (.aload_n 0, 1) := by decide +kernel
theorem dX8_level_49 : decode cX8_level 49 = .ok (.getfield 65, 3) := by decide +kernel
theorem dX8_level_52 : decode cX8_level 52 = .ok (.getfield 192, 3) := by decide +kernel
theorem dX8_level_55 : decode cX8_level 55 = .ok (.ireturn, 1) := by decide +kernel
theorem dX8_level_56 : decode cX8_level 56 = .ok (.iload_n 3, 1) := by decide +kernel
theorem dX8_level_57 : decode cX8_level 57 = .ok (.iconst 1, 1) := by decide +kernel
theorem dX8_level_58 : decode cX8_level 58 = .ok (.if_icmp .ne 11, 3) := by decide +kernel
theorem dX8_level_61 : decode cX8_level 61 = .ok (.aload_n 0, 1) := by decide +kernel
theorem dX8_level_62 : decode cX8_level 62 = .ok (.getfield 65, 3) := by decide +kernel
theorem dX8_level_65 : decode cX8_level 65 = .ok (.getfield 195, 3) := by decide +kernel
theorem dX8_level_68 : decode cX8_level 68 = .ok (.ireturn, 1) := by decide +kernel
theorem dX8_level_69 : decode cX8_level 69 = .ok (.iload_n 3, 1) := by decide +kernel
theorem dX8_level_70 : decode cX8_level 70 = .ok (.bipush 6, 2) := by decide +kernel
theorem dX8_level_72 : decode cX8_level 72 = .ok (.if_icmp .ge 31, 3) := by decide +kernel
theorem dX8_level_75 : decode cX8_level 75 = .ok (.aload_n 0, 1) := by decide +kernel
theorem dX8_level_76 : decode cX8_level 76 = .ok (.getfield 65, 3) := by decide +kernel
theorem dX8_level_79 : decode cX8_level 79 = .ok (.aload_n 0, 1) := by decide +kernel
theorem dX8_level_80 : decode cX8_level 80 = .ok (.getfield 19, 3) := by decide +kernel
theorem dX8_level_83 : decode cX8_level 83 = .ok (.getfield 123, 3) := by decide +kernel
theorem dX8_level_86 : decode cX8_level 86 = .ok (.aload_n 0, 1) := by decide +kernel
theorem dX8_level_87 : decode cX8_level 87 = .ok (.getfield 29, 3) := by decide +kernel
theorem dX8_level_90 : decode cX8_level 90 = .ok (.getfield 116, 3) := by decide +kernel
theorem dX8_level_93 : decode cX8_level 93 = .ok (.iload_n 1, 1) := by decide +kernel
theorem dX8_level_94 : decode cX8_level 94 = .ok (.iload_n 3, 1) := by decide +kernel
theorem dX8_level_95 : decode cX8_level 95 = .ok (.iconst 2, 1) := by decide +kernel
theorem dX8_level_96 : decode cX8_level 96 = .ok (.isub, 1) := by decide +kernel
theorem dX8_level_97 : decode cX8_level 97 = .ok (.invokevirtual 198, 3) := by decide +kernel
theorem dX8_level_100 : decode cX8_level 100 = .ok (.goto 29, 3) := by decide +kernel
theorem dX8_level_103 : decode cX8_level 103 = .ok (.aload_n 0, 1) := by decide +kernel
theorem dX8_level_104 : decode cX8_level 104 = .ok (.getfield 65, 3) := by decide +kernel
theorem dX8_level_107 : decode cX8_level 107 = .ok (.aload_n 0, 1) := by decide +kernel
theorem dX8_level_108 : decode cX8_level 108 = .ok (.getfield 19, 3) := by decide +kernel
theorem dX8_level_111 : decode cX8_level 111 = .ok (.getfield 123, 3) := by decide +kernel
theorem dX8_level_114 : decode cX8_level 114 = .ok (.aload_n 0, 1) := by decide +kernel
theorem dX8_level_115 : decode cX8_level 115 = .ok (.getfield 29, 3) := by decide +kernel
theorem dX8_level_118 : decode cX8_level 118 = .ok (.getfield 116, 3) := by decide +kernel
theorem dX8_level_121 : decode cX8_level 121 = .ok (.iload_n 2, 1) := by decide +kernel
theorem dX8_level_122 : decode cX8_level 122 = .ok (.iload_n 3, 1) := by decide +kernel
theorem dX8_level_123 : decode cX8_level 123 = .ok (.bipush 6, 2) := by decide +kernel
theorem dX8_level_125 : decode cX8_level 125 = .ok (.isub, 1) := by decide +kernel
theorem dX8_level_126 : decode cX8_level 126 = .ok (.invokevirtual 202, 3) := by decide +kernel
theorem dX8_level_129 : decode cX8_level 129 = .ok (.ireturn, 1) := by decide +kernel
theorem dX8_when_0 : decode cX8_when 0 = .ok (.aload_n 0, 1) := by decide +kernel
theorem dX8_when_1 : decode cX8_when 1 = .ok (.iload_n 1, 1) := by decide +kernel
theorem dX8_when_2 : decode cX8_when 2 = .ok (.iload_n 2, 1) := by decide +kernel
theorem dX8_when_3 : decode cX8_when 3 = .ok (.invokevirtual 136, 3) := by decide +kernel
theorem dX8_when_6 : decode cX8_when 6 = .ok (.ifCond .ne 5, 3) := by decide +kernel
theorem dX8_when_9 : decode cX8_when 9 = .ok (.iconst (-1), 1) := by decide +kernel
theorem dX8_when_10 : decode cX8_when 10 = .ok (.ireturn, 1) := by decide +kernel
theorem dX8_when_11 : decode cX8_when 11 = .ok (.iconst 0, 1) := by decide +kernel
theorem dX8_when_12 : decode cX8_when 12 = .ok (.istore_n 3, 1) := by decide +kernel
theorem dX8_when_13 : decode cX8_when 13 = .ok (.iload_n 3, 1) := by decide +kernel
theorem dX8_when_14 : decode cX8_when 14 = .ok (.bipush 99, 2) := by decide +kernel
theorem dX8_when_16 : decode cX8_when 16 = .ok (.if_icmp .gt 34, 3) := by decide +kernel
theorem dX8_when_19 : decode cX8_when 19 = .ok (.aload_n 0, 1) := by decide +kernel
theorem dX8_when_20 : decode cX8_when 20 = .ok (.iload_n 1, 1) := by decide +kernel
theorem dX8_when_21 : decode cX8_when 21 = .ok (.iload_n 3, 1) := by decide +kernel
theorem dX8_when_22 : decode cX8_when 22 = .ok (.invokevirtual 205, 3) := by decide +kernel
theorem dX8_when_25 : decode cX8_when 25 = .ok (.aload_n 0, 1) := by decide +kernel
theorem dX8_when_26 : decode cX8_when 26 = .ok (.iload_n 2, 1) := by decide +kernel
theorem dX8_when_27 : decode cX8_when 27 = .ok (.iload_n 3, 1) := by decide +kernel
theorem dX8_when_28 : decode cX8_when 28 = .ok (.invokevirtual 205, 3) := by decide +kernel
theorem dX8_when_31 : decode cX8_when 31 = .ok (.if_icmp .le 13, 3) := by decide +kernel
theorem dX8_when_34 : decode cX8_when 34 = .ok (.aload_n 0, 1) := by decide +kernel
theorem dX8_when_35 : decode cX8_when 35 = .ok (.getfield 29, 3) := by decide +kernel
theorem dX8_when_38 : decode cX8_when 38 = .ok (.getfield 144, 3) := by decide +kernel
theorem dX8_when_41 : decode cX8_when 41 = .ok (.iload_n 3, 1) := by decide +kernel
theorem dX8_when_42 : decode cX8_when 42 = .ok (.iadd, 1) := by decide +kernel
theorem dX8_when_43 : decode cX8_when 43 = .ok (.ireturn, 1) := by decide +kernel
theorem dX8_when_44 : decode cX8_when 44 = .ok (.iinc 3 1, 3) := by decide +kernel
theorem dX8_when_47 : decode cX8_when 47 = .ok (.goto (-34), 3) := by decide +kernel
theorem dX8_when_50 : decode cX8_when 50 = .ok (.bipush (-9), 2) := by decide +kernel
theorem dX8_when_52 : decode cX8_when 52 = .ok (.ireturn, 1) := by decide +kernel
theorem dX8_odds_0 : decode cX8_odds 0 = .ok (.aload_n 0, 1) := by decide +kernel
theorem dX8_odds_1 : decode cX8_odds 1 = .ok (.iload_n 1, 1) := by decide +kernel
theorem dX8_odds_2 : decode cX8_odds 2 = .ok (.iload_n 2, 1) := by decide +kernel
theorem dX8_odds_3 : decode cX8_odds 3 = .ok (.invokevirtual 136, 3) := by decide +kernel
theorem dX8_odds_6 : decode cX8_odds 6 = .ok (.ifCond .eq 31, 3) := by decide +kernel
theorem dX8_odds_9 : decode cX8_odds 9 = .ok (.iload_n 3, 1) := by decide +kernel
theorem dX8_odds_10 : decode cX8_odds 10 = .ok (.invokestatic 113, 3) := by decide +kernel
theorem dX8_odds_13 : decode cX8_odds 13 = .ok (.ifCond .eq 24, 3) := by decide +kernel
theorem dX8_odds_16 : decode cX8_odds 16 = .ok (.iload 4, 2) := by decide +kernel
theorem dX8_odds_18 : decode cX8_odds 18 = .ok (.iconst 0, 1) := by decide +kernel
theorem dX8_odds_19 : decode cX8_odds 19 = .ok (.bipush 10, 2) := by decide +kernel
theorem dX8_odds_21 : decode cX8_odds 21 = .ok (.invokestatic 82, 3) := by decide +kernel
theorem dX8_odds_24 : decode cX8_odds 24 = .ok (.ifCond .eq 13, 3) := by decide +kernel
theorem dX8_odds_27 : decode cX8_odds 27 = .ok (.iload 5, 2) := by decide +kernel
theorem dX8_odds_29 : decode cX8_odds 29 = .ok (.iconst 0, 1) := by decide +kernel
theorem dX8_odds_30 : decode cX8_odds 30 = .ok (.iconst 1, 1) := by decide +kernel
theorem dX8_odds_31 : decode cX8_odds 31 = .ok (.invokestatic 82, 3) := by decide +kernel
theorem dX8_odds_34 : decode cX8_odds 34 = .ok (.ifCond .ne 7, 3) := by decide +kernel
theorem dX8_odds_37 : decode cX8_odds 37 = .ok (.ldc2_w 208, 3) := by decide +kernel
theorem dX8_odds_40 : decode cX8_odds 40 = .ok (.lreturn, 1) := by decide +kernel
theorem dX8_odds_41 : decode cX8_odds 41 = .ok (.aload_n 0, 1) := by decide +kernel
theorem dX8_odds_42 : decode cX8_odds 42 = .ok (.iload_n 1, 1) := by decide +kernel
theorem dX8_odds_43 : decode cX8_odds 43 = .ok (.iload_n 2, 1) := by decide +kernel
theorem dX8_odds_44 : decode cX8_odds 44 = .ok (.iload_n 3, 1) := by decide +kernel
theorem dX8_odds_45 : decode cX8_odds 45 = .ok (.iload 4, 2) := by decide +kernel
theorem dX8_odds_47 : decode cX8_odds 47 = .ok (.invokevirtual 210, 3) := by decide +kernel
theorem dX8_odds_50 : decode cX8_odds 50 = .ok (.lstore 6, 2) := by decide +kernel
theorem dX8_odds_52 : decode cX8_odds 52 = .ok (.bipush 10, 2) := by decide +kernel
theorem dX8_odds_54 : decode cX8_odds 54 = .ok (.aload_n 0, 1) := by decide +kernel
theorem dX8_odds_55 : decode cX8_odds 55 = .ok (.getfield 29, 3) := by decide +kernel
theorem dX8_odds_58 : decode cX8_odds 58 = .ok (.getfield 116, 3) := by decide +kernel
theorem dX8_odds_61 : decode cX8_odds 61 = .ok (.iload_n 1, 1) := by decide +kernel
theorem dX8_odds_62 : decode cX8_odds 62 = .ok (.iconst 4, 1) := by decide +kernel
theorem dX8_odds_63 : decode cX8_odds 63 = .ok (.imul, 1) := by decide +kernel
theorem dX8_odds_64 : decode cX8_odds 64 = .ok (.iload_n 3, 1) := by decide +kernel
theorem dX8_odds_65 : decode cX8_odds 65 = .ok (.iadd, 1) := by decide +kernel
theorem dX8_odds_66 : decode cX8_odds 66 = .ok (.iaload, 1) := by decide +kernel
theorem dX8_odds_67 : decode cX8_odds 67 = .ok (.invokestatic 214, 3) := by decide +kernel
theorem dX8_odds_70 : decode cX8_odds 70 = .ok (.lstore 8, 2) := by decide +kernel
theorem dX8_odds_72 : decode cX8_odds 72 = .ok (.lload 6, 2) := by decide +kernel
theorem dX8_odds_74 : decode cX8_odds 74 = .ok (.lload 8, 2) := by decide +kernel
theorem dX8_odds_76 : decode cX8_odds 76 = .ok (.invokestatic 218, 3) := by decide +kernel
theorem dX8_odds_79 : decode cX8_odds 79 = .ok (.lstore 10, 2) := by decide +kernel
theorem dX8_odds_81 : decode cX8_odds 81 = .ok (.lload 10, 2) := by decide +kernel
theorem dX8_odds_83 : decode cX8_odds 83 = .ok (.lconst 0, 1) := by decide +kernel
theorem dX8_odds_84 : decode cX8_odds 84 = .ok (.lcmp, 1) := by decide +kernel
theorem dX8_odds_85 : decode cX8_odds 85 = .ok (.ifCond .ne 7, 3) := by decide +kernel
theorem dX8_odds_88 : decode cX8_odds 88 = .ok (.ldc2_w 208, 3) := by decide +kernel
theorem dX8_odds_91 : decode cX8_odds 91 = .ok (.lreturn, 1) := by decide +kernel
theorem dX8_odds_92 : decode cX8_odds 92 = .ok (.iload 5, 2) := by decide +kernel
theorem dX8_odds_94 : decode cX8_odds 94 = .ok (.ifCond .ne 11, 3) := by decide +kernel
theorem dX8_odds_97 : decode cX8_odds 97 = .ok (.lload 6, 2) := by decide +kernel
theorem dX8_odds_99 : decode cX8_odds 99 = .ok (.lload 10, 2) := by decide +kernel
theorem dX8_odds_101 : decode cX8_odds 101 = .ok (.ldiv, 1) := by decide +kernel
theorem dX8_odds_102 : decode cX8_odds 102 = .ok (.goto 8, 3) := by decide +kernel
theorem dX8_odds_105 : decode cX8_odds 105 = .ok (.lload 8, 2) := by decide +kernel
theorem dX8_odds_107 : decode cX8_odds 107 = .ok (.lload 10, 2) := by decide +kernel
theorem dX8_odds_109 : decode cX8_odds 109 = .ok (.ldiv, 1) := by decide +kernel
theorem dX8_odds_110 : decode cX8_odds 110 = .ok (.lreturn, 1) := by decide +kernel
theorem dX8_brass_0 : decode cX8_brass 0 = .ok (.iload_n 1, 1) := by decide +kernel
theorem dX8_brass_1 : decode cX8_brass 1 = .ok (.iconst 0, 1) := by decide +kernel
theorem dX8_brass_2 : decode cX8_brass 2 = .ok (.sipush 300, 3) := by decide +kernel
theorem dX8_brass_5 : decode cX8_brass 5 = .ok (.invokestatic 82, 3) := by decide +kernel
theorem dX8_brass_8 : decode cX8_brass 8 = .ok (.ifCond .eq 12, 3) := by decide +kernel
theorem dX8_brass_11 : decode cX8_brass 11 = .ok (.iload_n 2, 1) := by decide +kernel
theorem dX8_brass_12 : decode cX8_brass 12 = .ok (.iconst 0, 1) := by decide +kernel
theorem dX8_brass_13 : decode cX8_brass 13 = .ok (.iconst 2, 1) := by decide +kernel
theorem dX8_brass_14 : decode cX8_brass 14 = .ok (.invokestatic 82, 3) := by decide +kernel
theorem dX8_brass_17 : decode cX8_brass 17 = .ok (.ifCond .ne 5, 3) := by decide +kernel
theorem dX8_brass_20 : decode cX8_brass 20 = .ok (.iconst (-1), 1) := by decide +kernel
theorem dX8_brass_21 : decode cX8_brass 21 = .ok (.ireturn, 1) := by decide +kernel
theorem dX8_brass_22 : decode cX8_brass 22 = .ok (.aload_n 0, 1) := by decide +kernel
theorem dX8_brass_23 : decode cX8_brass 23 = .ok (.getfield 58, 3) := by decide +kernel
theorem dX8_brass_26 : decode cX8_brass 26 = .ok (.iload_n 1, 1) := by decide +kernel
theorem dX8_brass_27 : decode cX8_brass 27 = .ok (.invokevirtual 222, 3) := by decide +kernel
theorem dX8_brass_30 : decode cX8_brass 30 = .ok (.ifCond .ne 6, 3) := by decide +kernel
theorem dX8_brass_33 : decode cX8_brass 33 = .ok (.bipush (-9), 2) := by decide +kernel
theorem dX8_brass_35 : decode cX8_brass 35 = .ok (.ireturn, 1) := by decide +kernel
theorem dX8_brass_36 : decode cX8_brass 36 = .ok (.iload_n 2, 1) := by decide +kernel
theorem dX8_brass_37 : decode cX8_brass 37 = .ok (.ifCond .ne 12, 3) := by decide +kernel
theorem dX8_brass_40 : decode cX8_brass 40 = .ok (.aload_n 0, 1) := by decide +kernel
theorem dX8_brass_41 : decode cX8_brass 41 = .ok (.getfield 58, 3) := by decide +kernel
theorem dX8_brass_44 : decode cX8_brass 44 = .ok (.iload_n 1, 1) := by decide +kernel
theorem dX8_brass_45 : decode cX8_brass 45 = .ok (.invokevirtual 225, 3) := by decide +kernel
theorem dX8_brass_48 : decode cX8_brass 48 = .ok (.ireturn, 1) := by decide +kernel
theorem dX8_brass_49 : decode cX8_brass 49 = .ok (.iload_n 2, 1) := by decide +kernel
theorem dX8_brass_50 : decode cX8_brass 50 = .ok (.iconst 1, 1) := by decide +kernel
theorem dX8_brass_51 : decode cX8_brass 51 = .ok (.if_icmp .ne 14, 3) := by decide +kernel
theorem dX8_brass_54 : decode cX8_brass 54 = .ok (.aload_n 0, 1) := by decide +kernel
theorem dX8_brass_55 : decode cX8_brass 55 = .ok (.getfield 58, 3) := by decide +kernel
theorem dX8_brass_58 : decode cX8_brass 58 = .ok (.iload_n 1, 1) := by decide +kernel
theorem dX8_brass_59 : decode cX8_brass 59 = .ok (.invokevirtual 228, 3) := by decide +kernel
theorem dX8_brass_62 : decode cX8_brass 62 = .ok (.goto 11, 3) := by decide +kernel
theorem dX8_brass_65 : decode cX8_brass 65 = .ok (.aload_n 0, 1) := by decide +kernel
theorem dX8_brass_66 : decode cX8_brass 66 = .ok (.getfield 58, 3) := by decide +kernel
theorem dX8_brass_69 : decode cX8_brass 69 = .ok (.iload_n 1, 1) := by decide +kernel
theorem dX8_brass_70 : decode cX8_brass 70 = .ok (.invokevirtual 231, 3) := by decide +kernel
theorem dX8_brass_73 : decode cX8_brass 73 = .ok (.ireturn, 1) := by decide +kernel
theorem dX8_shows_0 : decode cX8_shows 0 = .ok (.aload_n 0, 1) := by decide +kernel
theorem dX8_shows_1 : decode cX8_shows 1 = .ok (.iload_n 1, 1) := by decide +kernel
theorem dX8_shows_2 : decode cX8_shows 2 = .ok (.invokevirtual 109, 3) := by decide +kernel
theorem dX8_shows_5 : decode cX8_shows 5 = .ok (.ifCond .eq 23, 3) := by decide +kernel
theorem dX8_shows_8 : decode cX8_shows 8 = .ok (.iload_n 2, 1) := by decide +kernel
theorem dX8_shows_9 : decode cX8_shows 9 = .ok (.iconst 0, 1) := by decide +kernel
theorem dX8_shows_10 : decode cX8_shows 10 = .ok (.sipush 720, 3) := by decide +kernel
theorem dX8_shows_13 : decode cX8_shows 13 = .ok (.invokestatic 82, 3) := by decide +kernel
theorem dX8_shows_16 : decode cX8_shows 16 = .ok (.ifCond .eq 12, 3) := by decide +kernel
theorem dX8_shows_19 : decode cX8_shows 19 = .ok (.iload_n 3, 1) := by decide +kernel
theorem dX8_shows_20 : decode cX8_shows 20 = .ok (.iconst 0, 1) := by decide +kernel
theorem dX8_shows_21 : decode cX8_shows 21 = .ok (.iconst 2, 1) := by decide +kernel
theorem dX8_shows_22 : decode cX8_shows 22 = .ok (.invokestatic 82, 3) := by decide +kernel
theorem dX8_shows_25 : decode cX8_shows 25 = .ok (.ifCond .ne 5, 3) := by decide +kernel
theorem dX8_shows_28 : decode cX8_shows 28 = .ok (.iconst (-1), 1) := by decide +kernel
theorem dX8_shows_29 : decode cX8_shows 29 = .ok (.ireturn, 1) := by decide +kernel
theorem dX8_shows_30 : decode cX8_shows 30 = .ok (.aload_n 0, 1) := by decide +kernel
theorem dX8_shows_31 : decode cX8_shows 31 = .ok (.getfield 72, 3) := by decide +kernel
theorem dX8_shows_34 : decode cX8_shows 34 = .ok (.iload_n 1, 1) := by decide +kernel
theorem dX8_shows_35 : decode cX8_shows 35 = .ok (.iload_n 2, 1) := by decide +kernel
theorem dX8_shows_36 : decode cX8_shows 36 = .ok (.iload_n 3, 1) := by decide +kernel
theorem dX8_shows_37 : decode cX8_shows 37 = .ok (.invokevirtual 234, 3) := by decide +kernel
theorem dX8_shows_40 : decode cX8_shows 40 = .ok (.ifCond .eq 13, 3) := by decide +kernel
theorem dX8_shows_43 : decode cX8_shows 43 = .ok (.aload_n 0, 1) := by decide +kernel
theorem dX8_shows_44 : decode cX8_shows 44 = .ok (.getfield 72, 3) := by decide +kernel
theorem dX8_shows_47 : decode cX8_shows 47 = .ok (.getfield 237, 3) := by decide +kernel
theorem dX8_shows_50 : decode cX8_shows 50 = .ok (.goto 5, 3) := by decide +kernel
theorem dX8_shows_53 : decode cX8_shows 53 = .ok (.bipush (-3), 2) := by decide +kernel
theorem dX8_shows_55 : decode cX8_shows 55 = .ok (.ireturn, 1) := by decide +kernel
theorem dX8_can_0 : decode cX8_can 0 = .ok (.aload_n 0, 1) := by decide +kernel
theorem dX8_can_1 : decode cX8_can 1 = .ok (.iload_n 1, 1) := by decide +kernel
theorem dX8_can_2 : decode cX8_can 2 = .ok (.invokevirtual 109, 3) := by decide +kernel
theorem dX8_can_5 : decode cX8_can 5 = .ok (.ifCond .eq 12, 3) := by decide +kernel
theorem dX8_can_8 : decode cX8_can 8 = .ok (.iload_n 2, 1) := by decide +kernel
theorem dX8_can_9 : decode cX8_can 9 = .ok (.iconst 0, 1) := by decide +kernel
theorem dX8_can_10 : decode cX8_can 10 = .ok (.iconst 2, 1) := by decide +kernel
theorem dX8_can_11 : decode cX8_can 11 = .ok (.invokestatic 82, 3) := by decide +kernel
theorem dX8_can_14 : decode cX8_can 14 = .ok (.ifCond .ne 5, 3) := by decide +kernel
theorem dX8_can_17 : decode cX8_can 17 = .ok (.iconst (-1), 1) := by decide +kernel
theorem dX8_can_18 : decode cX8_can 18 = .ok (.ireturn, 1) := by decide +kernel
theorem dX8_can_19 : decode cX8_can 19 = .ok (.aload_n 0, 1) := by decide +kernel
theorem dX8_can_20 : decode cX8_can 20 = .ok (.getfield 72, 3) := by decide +kernel
theorem dX8_can_23 : decode cX8_can 23 = .ok (.aload_n 0, 1) := by decide +kernel
theorem dX8_can_24 : decode cX8_can 24 = .ok (.getfield 19, 3) := by decide +kernel
theorem dX8_can_27 : decode cX8_can 27 = .ok (.getfield 123, 3) := by decide +kernel
theorem dX8_can_30 : decode cX8_can 30 = .ok (.invokevirtual 240, 3) := by decide +kernel
theorem dX8_can_33 : decode cX8_can 33 = .ok (.aload_n 0, 1) := by decide +kernel
theorem dX8_can_34 : decode cX8_can 34 = .ok (.getfield 72, 3) := by decide +kernel
theorem dX8_can_37 : decode cX8_can 37 = .ok (.iload_n 1, 1) := by decide +kernel
theorem dX8_can_38 : decode cX8_can 38 = .ok (.invokevirtual 244, 3) := by decide +kernel
theorem dX8_can_41 : decode cX8_can 41 = .ok (.istore_n 3, 1) := by decide +kernel
theorem dX8_can_42 : decode cX8_can 42 = .ok (.aload_n 0, 1) := by decide +kernel
theorem dX8_can_43 : decode cX8_can 43 = .ok (.getfield 72, 3) := by decide +kernel
theorem dX8_can_46 : decode cX8_can 46 = .ok (.iload_n 1, 1) := by decide +kernel
theorem dX8_can_47 : decode cX8_can 47 = .ok (.invokevirtual 247, 3) := by decide +kernel
theorem dX8_can_50 : decode cX8_can 50 = .ok (.istore 4, 2) := by decide +kernel
theorem dX8_can_52 : decode cX8_can 52 = .ok (.iload_n 2, 1) := by decide +kernel
theorem dX8_can_53 : decode cX8_can 53 = .ok (.ifCond .ne 14, 3) := by decide +kernel
theorem dX8_can_56 : decode cX8_can 56 = .ok (.aload_n 0, 1) := by decide +kernel
theorem dX8_can_57 : decode cX8_can 57 = .ok (.getfield 72, 3) := by decide +kernel
theorem dX8_can_60 : decode cX8_can 60 = .ok (.iload_n 3, 1) := by decide +kernel
theorem dX8_can_61 : decode cX8_can 61 = .ok (.iload 4, 2) := by decide +kernel
theorem dX8_can_63 : decode cX8_can 63 = .ok (.invokevirtual 250, 3) := by decide +kernel
theorem dX8_can_66 : decode cX8_can 66 = .ok (.ireturn, 1) := by decide +kernel
theorem dX8_can_67 : decode cX8_can 67 = .ok (.iload_n 2, 1) := by decide +kernel
theorem dX8_can_68 : decode cX8_can 68 = .ok (.iconst 1, 1) := by decide +kernel
theorem dX8_can_69 : decode cX8_can 69 = .ok (.if_icmp .ne 16, 3) := by decide +kernel
theorem dX8_can_72 : decode cX8_can 72 = .ok (.aload_n 0, 1) := by decide +kernel
theorem dX8_can_73 : decode cX8_can 73 = .ok (.getfield 72, 3) := by decide +kernel
theorem dX8_can_76 : decode cX8_can 76 = .ok (.iload_n 3, 1) := by decide +kernel
theorem dX8_can_77 : decode cX8_can 77 = .ok (.iload 4, 2) := by decide +kernel
theorem dX8_can_79 : decode cX8_can 79 = .ok (.invokevirtual 253, 3) := by decide +kernel
theorem dX8_can_82 : decode cX8_can 82 = .ok (.goto 13, 3) := by decide +kernel
theorem dX8_can_85 : decode cX8_can 85 = .ok (.aload_n 0, 1) := by decide +kernel
theorem dX8_can_86 : decode cX8_can 86 = .ok (.getfield 72, 3) := by decide +kernel
theorem dX8_can_89 : decode cX8_can 89 = .ok (.iload_n 3, 1) := by decide +kernel
theorem dX8_can_90 : decode cX8_can 90 = .ok (.iload 4, 2) := by decide +kernel
theorem dX8_can_92 : decode cX8_can 92 = .ok (.invokevirtual 256, 3) := by decide +kernel
theorem dX8_can_95 : decode cX8_can 95 = .ok (.ireturn, 1) := by decide +kernel
theorem dX8_saw_0 : decode cX8_saw 0 = .ok (.aload_n 0, 1) := by decide +kernel
theorem dX8_saw_1 : decode cX8_saw 1 = .ok (.iload_n 1, 1) := by decide +kernel
theorem dX8_saw_2 : decode cX8_saw 2 = .ok (.invokevirtual 109, 3) := by decide +kernel
theorem dX8_saw_5 : decode cX8_saw 5 = .ok (.ifCond .eq 14, 3) := by decide +kernel
theorem dX8_saw_8 : decode cX8_saw 8 = .ok (.iload_n 2, 1) := by decide +kernel
theorem dX8_saw_9 : decode cX8_saw 9 = .ok (.iconst 0, 1) := by decide +kernel
theorem dX8_saw_10 : decode cX8_saw 10 = .ok (.sipush 240, 3) := by decide +kernel
theorem dX8_saw_13 : decode cX8_saw 13 = .ok (.invokestatic 82, 3) := by decide +kernel
theorem dX8_saw_16 : decode cX8_saw 16 = .ok (.ifCond .ne 5, 3) := by decide +kernel
theorem dX8_saw_19 : decode cX8_saw 19 = .ok (.iconst (-1), 1) := by decide +kernel
theorem dX8_saw_20 : decode cX8_saw 20 = .ok (.ireturn, 1) := by decide +kernel
theorem dX8_saw_21 : decode cX8_saw 21 = .ok (.aload_n 0, 1) := by decide +kernel
theorem dX8_saw_22 : decode cX8_saw 22 = .ok (.getfield 72, 3) := by decide +kernel
theorem dX8_saw_25 : decode cX8_saw 25 = .ok (.iload_n 1, 1) := by decide +kernel
theorem dX8_saw_26 : decode cX8_saw 26 = .ok (.iload_n 2, 1) := by decide +kernel
theorem dX8_saw_27 : decode cX8_saw 27 = .ok (.invokevirtual 259, 3) := by decide +kernel
theorem dX8_saw_30 : decode cX8_saw 30 = .ok (.ifCond .eq 13, 3) := by decide +kernel
theorem dX8_saw_33 : decode cX8_saw 33 = .ok (.aload_n 0, 1) := by decide +kernel
theorem dX8_saw_34 : decode cX8_saw 34 = .ok (.getfield 72, 3) := by decide +kernel
theorem dX8_saw_37 : decode cX8_saw 37 = .ok (.getfield 262, 3) := by decide +kernel
theorem dX8_saw_40 : decode cX8_saw 40 = .ok (.goto 5, 3) := by decide +kernel
theorem dX8_saw_43 : decode cX8_saw 43 = .ok (.bipush (-3), 2) := by decide +kernel
theorem dX8_saw_45 : decode cX8_saw 45 = .ok (.ireturn, 1) := by decide +kernel
theorem dX8_laws_0 : decode cX8_laws 0 = .ok (.aload_n 0, 1) := by decide +kernel
theorem dX8_laws_1 : decode cX8_laws 1 = .ok (.iload_n 1, 1) := by decide +kernel
theorem dX8_laws_2 : decode cX8_laws 2 = .ok (.invokevirtual 109, 3) := by decide +kernel
theorem dX8_laws_5 : decode cX8_laws 5 = .ok (.ifCond .eq 12, 3) := by decide +kernel
theorem dX8_laws_8 : decode cX8_laws 8 = .ok (.iload_n 2, 1) := by decide +kernel
theorem dX8_laws_9 : decode cX8_laws 9 = .ok (.iconst 0, 1) := by decide +kernel
theorem dX8_laws_10 : decode cX8_laws 10 = .ok (.iconst 1, 1) := by decide +kernel
theorem dX8_laws_11 : decode cX8_laws 11 = .ok (.invokestatic 82, 3) := by decide +kernel
theorem dX8_laws_14 : decode cX8_laws 14 = .ok (.ifCond .ne 5, 3) := by decide +kernel
theorem dX8_laws_17 : decode cX8_laws 17 = .ok (.iconst (-1), 1) := by decide +kernel
theorem dX8_laws_18 : decode cX8_laws 18 = .ok (.ireturn, 1) := by decide +kernel
theorem dX8_laws_19 : decode cX8_laws 19 = .ok (.iload_n 2, 1) := by decide +kernel
theorem dX8_laws_20 : decode cX8_laws 20 = .ok (.ifCond .ne 21, 3) := by decide +kernel
theorem dX8_laws_23 : decode cX8_laws 23 = .ok (.aload_n 0, 1) := by decide +kernel
theorem dX8_laws_24 : decode cX8_laws 24 = .ok (.getfield 72, 3) := by decide +kernel
theorem dX8_laws_27 : decode cX8_laws 27 = .ok (.iload_n 1, 1) := by decide +kernel
theorem dX8_laws_28 : decode cX8_laws 28 = .ok (.aload_n 0, 1) := by decide +kernel
theorem dX8_laws_29 : decode cX8_laws 29 = .ok (.getfield 19, 3) := by decide +kernel
theorem dX8_laws_32 : decode cX8_laws 32 = .ok (.getfield 123, 3) := by decide +kernel
theorem dX8_laws_35 : decode cX8_laws 35 = .ok (.invokevirtual 265, 3) := by decide +kernel
theorem dX8_laws_38 : decode cX8_laws 38 = .ok (.goto 18, 3) := by decide +kernel
theorem dX8_laws_41 : decode cX8_laws 41 = .ok (.aload_n 0, 1) := by decide +kernel
theorem dX8_laws_42 : decode cX8_laws 42 = .ok (.getfield 72, 3) := by decide +kernel
theorem dX8_laws_45 : decode cX8_laws 45 = .ok (.iload_n 1, 1) := by decide +kernel
theorem dX8_laws_46 : decode cX8_laws 46 = .ok (.aload_n 0, 1) := by decide +kernel
theorem dX8_laws_47 : decode cX8_laws 47 = .ok (.getfield 19, 3) := by decide +kernel
theorem dX8_laws_50 : decode cX8_laws 50 = .ok (.getfield 123, 3) := by decide +kernel
theorem dX8_laws_53 : decode cX8_laws 53 = .ok (.invokevirtual 269, 3) := by decide +kernel
theorem dX8_laws_56 : decode cX8_laws 56 = .ok (.ireturn, 1) := by decide +kernel
theorem dX8_clean_0 : decode cX8_clean 0 = .ok (.aload_n 0, 1) := by decide +kernel
theorem dX8_clean_1 : decode cX8_clean 1 = .ok (.getfield 72, 3) := by decide +kernel
theorem dX8_clean_4 : decode cX8_clean 4 = .ok (.getfield 237, 3) := by decide +kernel
theorem dX8_clean_7 : decode cX8_clean 7 = .ok (.aload_n 0, 1) := by decide +kernel
theorem dX8_clean_8 : decode cX8_clean 8 = .ok (.getfield 72, 3) := by decide +kernel
theorem dX8_clean_11 : decode cX8_clean 11 = .ok (.getfield 262, 3) := by decide +kernel
theorem dX8_clean_14 : decode cX8_clean 14 = .ok (.iadd, 1) := by decide +kernel
theorem dX8_clean_15 : decode cX8_clean 15 = .ok (.istore_n 1, 1) := by decide +kernel
theorem dX8_clean_16 : decode cX8_clean 16 = .ok (.aload_n 0, 1) := by decide +kernel
theorem dX8_clean_17 : decode cX8_clean 17 = .ok (.getfield 72, 3) := by decide +kernel
theorem dX8_clean_20 : decode cX8_clean 20 = .ok (.invokevirtual 272, 3) := by decide +kernel
theorem dX8_clean_23 : decode cX8_clean 23 = .ok (.iload_n 1, 1) := by decide +kernel
theorem dX8_clean_24 : decode cX8_clean 24 = .ok (.ireturn, 1) := by decide +kernel
theorem dX8_rate_0 : decode cX8_rate 0 = .ok (.aload_n 0, 1) := by decide +kernel
theorem dX8_rate_1 : decode cX8_rate 1 = .ok (.iload_n 2, 1) := by decide +kernel
theorem dX8_rate_2 : decode cX8_rate 2 = .ok (.invokevirtual 109, 3) := by decide +kernel
theorem dX8_rate_5 : decode cX8_rate 5 = .ok (.ifCond .ne 6, 3) := by decide +kernel
theorem dX8_rate_8 : decode cX8_rate 8 = .ok (.ldc 187, 2) := by decide +kernel
theorem dX8_rate_10 : decode cX8_rate 10 = .ok (.ireturn, 1) := by decide +kernel
theorem dX8_rate_11 : decode cX8_rate 11 = .ok (.iload_n 1, 1) := by decide +kernel
theorem dX8_rate_12 : decode cX8_rate 12 = .ok (.tableswitch 76 0 5 #[40, 46, 52, 58, 64, 70], 40) := by decide +kernel
theorem dX8_rate_52 : decode cX8_rate 52 = .ok (.aload_n 0, 1) := by decide +kernel
theorem dX8_rate_53 : decode cX8_rate 53 = .ok (.iload_n 2, 1) := by decide +kernel
theorem dX8_rate_54 : decode cX8_rate 54 = .ok (.invokevirtual 275, 3) := by decide +kernel
theorem dX8_rate_57 : decode cX8_rate 57 = .ok (.ireturn, 1) := by decide +kernel
theorem dX8_rate_58 : decode cX8_rate 58 = .ok (.aload_n 0, 1) := by decide +kernel
theorem dX8_rate_59 : decode cX8_rate 59 = .ok (.iload_n 2, 1) := by decide +kernel
theorem dX8_rate_60 : decode cX8_rate 60 = .ok (.invokevirtual 278, 3) := by decide +kernel
theorem dX8_rate_63 : decode cX8_rate 63 = .ok (.ireturn, 1) := by decide +kernel
theorem dX8_rate_64 : decode cX8_rate 64 = .ok (.aload_n 0, 1) := by decide +kernel
theorem dX8_rate_65 : decode cX8_rate 65 = .ok (.iload_n 2, 1) := by decide +kernel
theorem dX8_rate_66 : decode cX8_rate 66 = .ok (.invokevirtual 281, 3) := by decide +kernel
theorem dX8_rate_69 : decode cX8_rate 69 = .ok (.ireturn, 1) := by decide +kernel
theorem dX8_rate_70 : decode cX8_rate 70 = .ok (.aload_n 0, 1) := by decide +kernel
theorem dX8_rate_71 : decode cX8_rate 71 = .ok (.iload_n 2, 1) := by decide +kernel
theorem dX8_rate_72 : decode cX8_rate 72 = .ok (.invokevirtual 284, 3) := by decide +kernel
theorem dX8_rate_75 : decode cX8_rate 75 = .ok (.ireturn, 1) := by decide +kernel
theorem dX8_rate_76 : decode cX8_rate 76 = .ok (.aload_n 0, 1) := by decide +kernel
theorem dX8_rate_77 : decode cX8_rate 77 = .ok (.iload_n 2, 1) := by decide +kernel
theorem dX8_rate_78 : decode cX8_rate 78 = .ok (.invokevirtual 287, 3) := by decide +kernel
theorem dX8_rate_81 : decode cX8_rate 81 = .ok (.ireturn, 1) := by decide +kernel
theorem dX8_rate_82 : decode cX8_rate 82 = .ok (.aload_n 0, 1) := by decide +kernel
theorem dX8_rate_83 : decode cX8_rate 83 = .ok (.iload_n 2, 1) := by decide +kernel
theorem dX8_rate_84 : decode cX8_rate 84 = .ok (.invokevirtual 290, 3) := by decide +kernel
theorem dX8_rate_87 : decode cX8_rate 87 = .ok (.ireturn, 1) := by decide +kernel
theorem dX8_rate_88 : decode cX8_rate 88 = .ok (.ldc 187, 2) := by decide +kernel
theorem dX8_rate_90 : decode cX8_rate 90 = .ok (.ireturn, 1) := by decide +kernel
theorem dX8_keep_0 : decode cX8_keep 0 = .ok (.iload_n 1, 1) := by decide +kernel
theorem dX8_keep_1 : decode cX8_keep 1 = .ok (.iconst 0, 1) := by decide +kernel
theorem dX8_keep_2 : decode cX8_keep 2 = .ok (.iconst 1, 1) := by decide +kernel
theorem dX8_keep_3 : decode cX8_keep 3 = .ok (.invokestatic 82, 3) := by decide +kernel
theorem dX8_keep_6 : decode cX8_keep 6 = .ok (.ifCond .ne 5, 3) := by decide +kernel
theorem dX8_keep_9 : decode cX8_keep 9 = .ok (.iconst (-1), 1) := by decide +kernel
theorem dX8_keep_10 : decode cX8_keep 10 = .ok (.ireturn, 1) := by decide +kernel
theorem dX8_keep_11 : decode cX8_keep 11 = .ok (.aload_n 0, 1) := by decide +kernel
theorem dX8_keep_12 : decode cX8_keep 12 = .ok (.getfield 40, 3) := by decide +kernel
theorem dX8_keep_15 : decode cX8_keep 15 = .ok (.iload_n 1, 1) := by decide +kernel
theorem dX8_keep_16 : decode cX8_keep 16 = .ok (.aaload, 1) := by decide +kernel
theorem dX8_keep_17 : decode cX8_keep 17 = .ok (.aload_n 0, 1) := by decide +kernel
theorem dX8_keep_18 : decode cX8_keep 18 = .ok (.getfield 29, 3) := by decide +kernel
theorem dX8_keep_21 : decode cX8_keep 21 = .ok (.invokevirtual 293, 3) := by decide +kernel
theorem dX8_keep_24 : decode cX8_keep 24 = .ok (.aload_n 0, 1) := by decide +kernel
theorem dX8_keep_25 : decode cX8_keep 25 = .ok (.getfield 44, 3) := by decide +kernel
theorem dX8_keep_28 : decode cX8_keep 28 = .ok (.iload_n 1, 1) := by decide +kernel
theorem dX8_keep_29 : decode cX8_keep 29 = .ok (.iconst 1, 1) := by decide +kernel
theorem dX8_keep_30 : decode cX8_keep 30 = .ok (.bastore, 1) := by decide +kernel
theorem dX8_keep_31 : decode cX8_keep 31 = .ok (.aload_n 0, 1) := by decide +kernel
theorem dX8_keep_32 : decode cX8_keep 32 = .ok (.getfield 29, 3) := by decide +kernel
theorem dX8_keep_35 : decode cX8_keep 35 = .ok (.getfield 144, 3) := by decide +kernel
theorem dX8_keep_38 : decode cX8_keep 38 = .ok (.ireturn, 1) := by decide +kernel
theorem dX8_back_0 : decode cX8_back 0 = .ok (.iload_n 1, 1) := by decide +kernel
theorem dX8_back_1 : decode cX8_back 1 = .ok (.iconst 0, 1) := by decide +kernel
theorem dX8_back_2 : decode cX8_back 2 = .ok (.iconst 1, 1) := by decide +kernel
theorem dX8_back_3 : decode cX8_back 3 = .ok (.invokestatic 82, 3) := by decide +kernel
theorem dX8_back_6 : decode cX8_back 6 = .ok (.ifCond .ne 5, 3) := by decide +kernel
theorem dX8_back_9 : decode cX8_back 9 = .ok (.iconst (-1), 1) := by decide +kernel
theorem dX8_back_10 : decode cX8_back 10 = .ok (.ireturn, 1) := by decide +kernel
theorem dX8_back_11 : decode cX8_back 11 = .ok (.aload_n 0, 1) := by decide +kernel
theorem dX8_back_12 : decode cX8_back 12 = .ok (.getfield 44, 3) := by decide +kernel
theorem dX8_back_15 : decode cX8_back 15 = .ok (.iload_n 1, 1) := by decide +kernel
theorem dX8_back_16 : decode cX8_back 16 = .ok (.baload, 1) := by decide +kernel
theorem dX8_back_17 : decode cX8_back 17 = .ok (.ifCond .ne 6, 3) := by decide +kernel
theorem dX8_back_20 : decode cX8_back 20 = .ok (.bipush (-2), 2) := by decide +kernel
theorem dX8_back_22 : decode cX8_back 22 = .ok (.ireturn, 1) := by decide +kernel
theorem dX8_back_23 : decode cX8_back 23 = .ok (.aload_n 0, 1) := by decide +kernel
theorem dX8_back_24 : decode cX8_back 24 = .ok (.getfield 29, 3) := by decide +kernel
theorem dX8_back_27 : decode cX8_back 27 = .ok (.aload_n 0, 1) := by decide +kernel
theorem dX8_back_28 : decode cX8_back 28 = .ok (.getfield 40, 3) := by decide +kernel
theorem dX8_back_31 : decode cX8_back 31 = .ok (.iload_n 1, 1) := by decide +kernel
theorem dX8_back_32 : decode cX8_back 32 = .ok (.aaload, 1) := by decide +kernel
theorem dX8_back_33 : decode cX8_back 33 = .ok (.invokevirtual 293, 3) := by decide +kernel
theorem dX8_back_36 : decode cX8_back 36 = .ok (.aload_n 0, 1) := by decide +kernel
theorem dX8_back_37 : decode cX8_back 37 = .ok (.getfield 36, 3) := by decide +kernel
theorem dX8_back_40 : decode cX8_back 40 = .ok (.iconst 0, 1) := by decide +kernel
theorem dX8_back_41 : decode cX8_back 41 = .ok (.putfield 157, 3) := by decide +kernel
theorem dX8_back_44 : decode cX8_back 44 = .ok (.aload_n 0, 1) := by decide +kernel
theorem dX8_back_45 : decode cX8_back 45 = .ok (.getfield 29, 3) := by decide +kernel
theorem dX8_back_48 : decode cX8_back 48 = .ok (.getfield 144, 3) := by decide +kernel
theorem dX8_back_51 : decode cX8_back 51 = .ok (.ireturn, 1) := by decide +kernel
theorem dX8_count_0 : decode cX8_count 0 = .ok (.iload_n 1, 1) := by decide +kernel
theorem dX8_count_1 : decode cX8_count 1 = .ok (.tableswitch 75 0 4 #[35, 43, 51, 59, 67], 35) := by decide +kernel
theorem dX8_count_36 : decode cX8_count 36 = .ok (.aload_n 0, 1) := by decide +kernel
theorem dX8_count_37 : decode cX8_count 37 = .ok (.getfield 19, 3) := by decide +kernel
theorem dX8_count_40 : decode cX8_count 40 = .ok (.getfield 168, 3) := by decide +kernel
theorem dX8_count_43 : decode cX8_count 43 = .ok (.ireturn, 1) := by decide +kernel
theorem dX8_count_44 : decode cX8_count 44 = .ok (.aload_n 0, 1) := by decide +kernel
theorem dX8_count_45 : decode cX8_count 45 = .ok (.getfield 19, 3) := by decide +kernel
theorem dX8_count_48 : decode cX8_count 48 = .ok (.getfield 126, 3) := by decide +kernel
theorem dX8_count_51 : decode cX8_count 51 = .ok (.ireturn, 1) := by decide +kernel
theorem dX8_count_52 : decode cX8_count 52 = .ok (.aload_n 0, 1) := by decide +kernel
theorem dX8_count_53 : decode cX8_count 53 = .ok (.getfield 72, 3) := by decide +kernel
theorem dX8_count_56 : decode cX8_count 56 = .ok (.getfield 237, 3) := by decide +kernel
theorem dX8_count_59 : decode cX8_count 59 = .ok (.ireturn, 1) := by decide +kernel
theorem dX8_count_60 : decode cX8_count 60 = .ok (.aload_n 0, 1) := by decide +kernel
theorem dX8_count_61 : decode cX8_count 61 = .ok (.getfield 72, 3) := by decide +kernel
theorem dX8_count_64 : decode cX8_count 64 = .ok (.getfield 262, 3) := by decide +kernel
theorem dX8_count_67 : decode cX8_count 67 = .ok (.ireturn, 1) := by decide +kernel
theorem dX8_count_68 : decode cX8_count 68 = .ok (.aload_n 0, 1) := by decide +kernel
theorem dX8_count_69 : decode cX8_count 69 = .ok (.getfield 12, 3) := by decide +kernel
theorem dX8_count_72 : decode cX8_count 72 = .ok (.getfield 90, 3) := by decide +kernel
theorem dX8_count_75 : decode cX8_count 75 = .ok (.ireturn, 1) := by decide +kernel
theorem dX8_count_76 : decode cX8_count 76 = .ok (.iconst (-1), 1) := by decide +kernel
theorem dX8_count_77 : decode cX8_count 77 = .ok (.ireturn, 1) := by decide +kernel
theorem dX8_trace_0 : decode cX8_trace 0 = .ok (.aload_n 0, 1) := by decide +kernel
theorem dX8_trace_1 : decode cX8_trace 1 = .ok (.getfield 295, 3) := by decide +kernel
theorem dX8_trace_4 : decode cX8_trace 4 = .ok (.lreturn, 1) := by decide +kernel
theorem dX8_beginAnew_0 : decode cX8_beginAnew 0 = .ok (.aload_n 0, 1) := by decide +kernel
theorem dX8_beginAnew_1 : decode cX8_beginAnew 1 = .ok (.getfield 29, 3) := by decide +kernel
theorem dX8_beginAnew_4 : decode cX8_beginAnew 4 = .ok (.aload_n 0, 1) := by decide +kernel
theorem dX8_beginAnew_5 : decode cX8_beginAnew 5 = .ok (.getfield 19, 3) := by decide +kernel
theorem dX8_beginAnew_8 : decode cX8_beginAnew 8 = .ok (.invokevirtual 299, 3) := by decide +kernel
theorem dX8_beginAnew_11 : decode cX8_beginAnew 11 = .ok (.aload_n 0, 1) := by decide +kernel
theorem dX8_beginAnew_12 : decode cX8_beginAnew 12 = .ok (.getfield 36, 3) := by decide +kernel
theorem dX8_beginAnew_15 : decode cX8_beginAnew 15 = .ok (.iconst 0, 1) := by decide +kernel
theorem dX8_beginAnew_16 : decode cX8_beginAnew 16 = .ok (.putfield 157, 3) := by decide +kernel
theorem dX8_beginAnew_19 : decode cX8_beginAnew 19 = .ok (.iconst 0, 1) := by decide +kernel
theorem dX8_beginAnew_20 : decode cX8_beginAnew 20 = .ok (.istore_n 1, 1) := by decide +kernel
theorem dX8_beginAnew_21 : decode cX8_beginAnew 21 = .ok (.iload_n 1, 1) := by decide +kernel
theorem dX8_beginAnew_22 : decode cX8_beginAnew 22 = .ok (.iconst 2, 1) := by decide +kernel
theorem dX8_beginAnew_23 : decode cX8_beginAnew 23 = .ok (.if_icmp .ge 16, 3) := by decide +kernel
theorem dX8_beginAnew_26 : decode cX8_beginAnew 26 = .ok (.aload_n 0, 1) := by decide +kernel
theorem dX8_beginAnew_27 : decode cX8_beginAnew 27 = .ok (.getfield 44, 3) := by decide +kernel
theorem dX8_beginAnew_30 : decode cX8_beginAnew 30 = .ok (.iload_n 1, 1) := by decide +kernel
theorem dX8_beginAnew_31 : decode cX8_beginAnew 31 = .ok (.iconst 0, 1) := by decide +kernel
theorem dX8_beginAnew_32 : decode cX8_beginAnew 32 = .ok (.bastore, 1) := by decide +kernel
theorem dX8_beginAnew_33 : decode cX8_beginAnew 33 = .ok (.iinc 1 1, 3) := by decide +kernel
theorem dX8_beginAnew_36 : decode cX8_beginAnew 36 = .ok (.goto (-15), 3) := by decide +kernel
theorem dX8_beginAnew_39 : decode cX8_beginAnew 39 = .ok (.aload_n 0, 1) := by decide +kernel
theorem dX8_beginAnew_40 : decode cX8_beginAnew 40 = .ok (.getfield 58, 3) := by decide +kernel
theorem dX8_beginAnew_43 : decode cX8_beginAnew 43 = .ok (.aload_n 0, 1) := by decide +kernel
theorem dX8_beginAnew_44 : decode cX8_beginAnew 44 = .ok (.getfield 19, 3) := by decide +kernel
theorem dX8_beginAnew_47 : decode cX8_beginAnew 47 = .ok (.invokevirtual 302, 3) := by decide +kernel
theorem dX8_beginAnew_50 : decode cX8_beginAnew 50 = .ok (.aload_n 0, 1) := by decide +kernel
theorem dX8_beginAnew_51 : decode cX8_beginAnew 51 = .ok (.getfield 72, 3) := by decide +kernel
theorem dX8_beginAnew_54 : decode cX8_beginAnew 54 = .ok (.invokevirtual 305, 3) := by decide +kernel
theorem dX8_beginAnew_57 : decode cX8_beginAnew 57 = .ok (.return_, 1) := by decide +kernel
theorem dX8_within_0 : decode cX8_within 0 = .ok (.iload_n 0, 1) := by decide +kernel
theorem dX8_within_1 : decode cX8_within 1 = .ok (.iload_n 1, 1) := by decide +kernel
theorem dX8_within_2 : decode cX8_within 2 = .ok (.if_icmp .lt 12, 3) := by decide +kernel
theorem dX8_within_5 : decode cX8_within 5 = .ok (.iload_n 0, 1) := by decide +kernel
theorem dX8_within_6 : decode cX8_within 6 = .ok (.iload_n 2, 1) := by decide +kernel
theorem dX8_within_7 : decode cX8_within 7 = .ok (.if_icmp .gt 7, 3) := by decide +kernel
theorem dX8_within_10 : decode cX8_within 10 = .ok (.iconst 1, 1) := by decide +kernel
theorem dX8_within_11 : decode cX8_within 11 = .ok (.goto 4, 3) := by decide +kernel
theorem dX8_within_14 : decode cX8_within 14 = .ok (.iconst 0, 1) := by decide +kernel
theorem dX8_within_15 : decode cX8_within 15 = .ok (.ireturn, 1) := by decide +kernel
theorem dX8_isSort_0 : decode cX8_isSort 0 = .ok (.iload_n 0, 1) := by decide +kernel
theorem dX8_isSort_1 : decode cX8_isSort 1 = .ok (.iconst 0, 1) := by decide +kernel
theorem dX8_isSort_2 : decode cX8_isSort 2 = .ok (.iconst 3, 1) := by decide +kernel
theorem dX8_isSort_3 : decode cX8_isSort 3 = .ok (.invokestatic 82, 3) := by decide +kernel
theorem dX8_isSort_6 : decode cX8_isSort 6 = .ok (.ireturn, 1) := by decide +kernel
theorem dX8_isPerson_0 : decode cX8_isPerson 0 = .ok (.iload_n 1, 1) := by decide +kernel
theorem dX8_isPerson_1 : decode cX8_isPerson 1 = .ok (.iconst 0, 1) := by decide +kernel
theorem dX8_isPerson_2 : decode cX8_isPerson 2 = .ok (.aload_n 0, 1) := by decide +kernel
theorem dX8_isPerson_3 : decode cX8_isPerson 3 = .ok (.getfield 19, 3) := by decide +kernel
theorem dX8_isPerson_6 : decode cX8_isPerson 6 = .ok (.getfield 168, 3) := by decide +kernel
theorem dX8_isPerson_9 : decode cX8_isPerson 9 = .ok (.iconst 1, 1) := by decide +kernel
theorem dX8_isPerson_10 : decode cX8_isPerson 10 = .ok (.isub, 1) := by decide +kernel
theorem dX8_isPerson_11 : decode cX8_isPerson 11 = .ok (.invokestatic 82, 3) := by decide +kernel
theorem dX8_isPerson_14 : decode cX8_isPerson 14 = .ok (.ireturn, 1) := by decide +kernel
theorem dX8_isPair_0 : decode cX8_isPair 0 = .ok (.aload_n 0, 1) := by decide +kernel
theorem dX8_isPair_1 : decode cX8_isPair 1 = .ok (.iload_n 1, 1) := by decide +kernel
theorem dX8_isPair_2 : decode cX8_isPair 2 = .ok (.invokevirtual 109, 3) := by decide +kernel
theorem dX8_isPair_5 : decode cX8_isPair 5 = .ok (.ifCond .eq 20, 3) := by decide +kernel
theorem dX8_isPair_8 : decode cX8_isPair 8 = .ok (.aload_n 0, 1) := by decide +kernel
theorem dX8_isPair_9 : decode cX8_isPair 9 = .ok (.iload_n 2, 1) := by decide +kernel
theorem dX8_isPair_10 : decode cX8_isPair 10 = .ok (.invokevirtual 109, 3) := by decide +kernel
theorem dX8_isPair_13 : decode cX8_isPair 13 = .ok (.ifCond .eq 12, 3) := by decide +kernel
theorem dX8_isPair_16 : decode cX8_isPair 16 = .ok (.iload_n 1, 1) := by decide +kernel
theorem dX8_isPair_17 : decode cX8_isPair 17 = .ok (.iload_n 2, 1) := by decide +kernel
theorem dX8_isPair_18 : decode cX8_isPair 18 = .ok (.if_icmp .eq 7, 3) := by decide +kernel
theorem dX8_isPair_21 : decode cX8_isPair 21 = .ok (.iconst 1, 1) := by decide +kernel
theorem dX8_isPair_22 : decode cX8_isPair 22 = .ok (.goto 4, 3) := by decide +kernel
theorem dX8_isPair_25 : decode cX8_isPair 25 = .ok (.iconst 0, 1) := by decide +kernel
theorem dX8_isPair_26 : decode cX8_isPair 26 = .ok (.ireturn, 1) := by decide +kernel
theorem dX8_heavinessOf_0 : decode cX8_heavinessOf 0 = .ok (.aload_n 0, 1) := by decide +kernel
theorem dX8_heavinessOf_1 : decode cX8_heavinessOf 1 = .ok (.iload_n 1, 1) := by decide +kernel
theorem dX8_heavinessOf_2 : decode cX8_heavinessOf 2 = .ok (.iconst 0, 1) := by decide +kernel
theorem dX8_heavinessOf_3 : decode cX8_heavinessOf 3 = .ok (.invokevirtual 205, 3) := by decide +kernel
theorem dX8_heavinessOf_6 : decode cX8_heavinessOf 6 = .ok (.ireturn, 1) := by decide +kernel
theorem dX8_heavinessAhead_0 : decode cX8_heavinessAhead 0 = .ok (.iconst 0, 1) := by decide +kernel
theorem dX8_heavinessAhead_1 : decode cX8_heavinessAhead 1 = .ok (.istore_n 3, 1) := by decide +kernel
theorem dX8_heavinessAhead_2 : decode cX8_heavinessAhead 2 = .ok (.iconst 0, 1) := by decide +kernel
theorem dX8_heavinessAhead_3 : decode cX8_heavinessAhead 3 = .ok (.istore 4, 2) := by decide +kernel
theorem dX8_heavinessAhead_5 : decode cX8_heavinessAhead 5 = .ok (.iload 4, 2) := by decide +kernel
theorem dX8_heavinessAhead_7 : decode cX8_heavinessAhead 7 = .ok (.iconst 4, 1) := by decide +kernel
theorem dX8_heavinessAhead_8 : decode cX8_heavinessAhead 8 = .ok (.if_icmp .ge 63, 3) := by decide +kernel
theorem dX8_heavinessAhead_11 : decode cX8_heavinessAhead 11 = .ok (.iload_n 1, 1) := by decide +kernel
theorem dX8_heavinessAhead_12 : decode cX8_heavinessAhead 12 = .ok (.iconst 4, 1) := by decide +kernel
theorem dX8_heavinessAhead_13 : decode cX8_heavinessAhead 13 = .ok (.imul, 1) := by decide +kernel
theorem dX8_heavinessAhead_14 : decode cX8_heavinessAhead 14 = .ok (.iload 4, 2) := by decide +kernel
theorem dX8_heavinessAhead_16 : decode cX8_heavinessAhead 16 = .ok (.iadd, 1) := by decide +kernel
theorem dX8_heavinessAhead_17 : decode cX8_heavinessAhead 17 = .ok (.istore 5, 2) := by decide +kernel
theorem dX8_heavinessAhead_19 : decode cX8_heavinessAhead 19 = .ok (.bipush 9, 2) := by decide +kernel
theorem dX8_heavinessAhead_21 : decode cX8_heavinessAhead 21 = .ok (.aload_n 0, 1) := by decide +kernel
theorem dX8_heavinessAhead_22 : decode cX8_heavinessAhead 22 = .ok (.getfield 29, 3) := by decide +kernel
theorem dX8_heavinessAhead_25 : decode cX8_heavinessAhead 25 = .ok (.getfield 116, 3) := by decide +kernel
theorem dX8_heavinessAhead_28 : decode cX8_heavinessAhead 28 = .ok (.iload 5, 2) := by decide +kernel
theorem dX8_heavinessAhead_30 : decode cX8_heavinessAhead 30 = .ok (.iaload, 1) := by decide +kernel
theorem dX8_heavinessAhead_31 : decode cX8_heavinessAhead 31 = .ok (.aload_n 0, 1) := by decide +kernel
theorem dX8_heavinessAhead_32 : decode cX8_heavinessAhead 32 = .ok (.getfield 19, 3) := by decide +kernel
theorem dX8_heavinessAhead_35 : decode cX8_heavinessAhead 35 = .ok (.getfield 120, 3) := by decide +kernel
theorem dX8_heavinessAhead_38 : decode cX8_heavinessAhead 38 = .ok (.iload 5, 2) := by decide +kernel
theorem dX8_heavinessAhead_40 : decode cX8_heavinessAhead 40 = .ok (.iaload, 1) := by decide +kernel
theorem dX8_heavinessAhead_41 : decode cX8_heavinessAhead 41 = .ok (.iload_n 2, 1) := by decide +kernel
theorem dX8_heavinessAhead_42 : decode cX8_heavinessAhead 42 = .ok (.imul, 1) := by decide +kernel
theorem dX8_heavinessAhead_43 : decode cX8_heavinessAhead 43 = .ok (.iadd, 1) := by decide +kernel
theorem dX8_heavinessAhead_44 : decode cX8_heavinessAhead 44 = .ok (.invokestatic 307, 3) := by decide +kernel
theorem dX8_heavinessAhead_47 : decode cX8_heavinessAhead 47 = .ok (.istore 6, 2) := by decide +kernel
theorem dX8_heavinessAhead_49 : decode cX8_heavinessAhead 49 = .ok (.iload_n 3, 1) := by decide +kernel
theorem dX8_heavinessAhead_50 : decode cX8_heavinessAhead 50 = .ok (.aload_n 0, 1) := by decide +kernel
theorem dX8_heavinessAhead_51 : decode cX8_heavinessAhead 51 = .ok (.getfield 19, 3) := by decide +kernel
theorem dX8_heavinessAhead_54 : decode cX8_heavinessAhead 54 = .ok (.getfield 123, 3) := by decide +kernel
theorem dX8_heavinessAhead_57 : decode cX8_heavinessAhead 57 = .ok (.iload 4, 2) := by decide +kernel
theorem dX8_heavinessAhead_59 : decode cX8_heavinessAhead 59 = .ok (.iaload, 1) := by decide +kernel
theorem dX8_heavinessAhead_60 : decode cX8_heavinessAhead 60 = .ok (.iload 6, 2) := by decide +kernel
theorem dX8_heavinessAhead_62 : decode cX8_heavinessAhead 62 = .ok (.imul, 1) := by decide +kernel
theorem dX8_heavinessAhead_63 : decode cX8_heavinessAhead 63 = .ok (.iadd, 1) := by decide +kernel
theorem dX8_heavinessAhead_64 : decode cX8_heavinessAhead 64 = .ok (.istore_n 3, 1) := by decide +kernel
theorem dX8_heavinessAhead_65 : decode cX8_heavinessAhead 65 = .ok (.iinc 4 1, 3) := by decide +kernel
theorem dX8_heavinessAhead_68 : decode cX8_heavinessAhead 68 = .ok (.goto (-63), 3) := by decide +kernel
theorem dX8_heavinessAhead_71 : decode cX8_heavinessAhead 71 = .ok (.iload_n 3, 1) := by decide +kernel
theorem dX8_heavinessAhead_72 : decode cX8_heavinessAhead 72 = .ok (.ireturn, 1) := by decide +kernel
theorem dX8_pairOf_0 : decode cX8_pairOf 0 = .ok (.iload_n 0, 1) := by decide +kernel
theorem dX8_pairOf_1 : decode cX8_pairOf 1 = .ok (.iload_n 1, 1) := by decide +kernel
theorem dX8_pairOf_2 : decode cX8_pairOf 2 = .ok (.invokestatic 307, 3) := by decide +kernel
theorem dX8_pairOf_5 : decode cX8_pairOf 5 = .ok (.istore_n 2, 1) := by decide +kernel
theorem dX8_pairOf_6 : decode cX8_pairOf 6 = .ok (.iload_n 0, 1) := by decide +kernel
theorem dX8_pairOf_7 : decode cX8_pairOf 7 = .ok (.iload_n 1, 1) := by decide +kernel
theorem dX8_pairOf_8 : decode cX8_pairOf 8 = .ok (.invokestatic 312, 3) := by decide +kernel
theorem dX8_pairOf_11 : decode cX8_pairOf 11 = .ok (.istore_n 3, 1) := by decide +kernel
theorem dX8_pairOf_12 : decode cX8_pairOf 12 = .ok (.iload_n 3, 1) := by decide +kernel
theorem dX8_pairOf_13 : decode cX8_pairOf 13 = .ok (.iload_n 3, 1) := by decide +kernel
theorem dX8_pairOf_14 : decode cX8_pairOf 14 = .ok (.iconst 1, 1) := by decide +kernel
theorem dX8_pairOf_15 : decode cX8_pairOf 15 = .ok (.isub, 1) := by decide +kernel
theorem dX8_pairOf_16 : decode cX8_pairOf 16 = .ok (.imul, 1) := by decide +kernel
theorem dX8_pairOf_17 : decode cX8_pairOf 17 = .ok (.iconst 2, 1) := by decide +kernel
theorem dX8_pairOf_18 : decode cX8_pairOf 18 = .ok (.idiv, 1) := by decide +kernel
theorem dX8_pairOf_19 : decode cX8_pairOf 19 = .ok (.iload_n 2, 1) := by decide +kernel
theorem dX8_pairOf_20 : decode cX8_pairOf 20 = .ok (.iadd, 1) := by decide +kernel
theorem dX8_pairOf_21 : decode cX8_pairOf 21 = .ok (.ireturn, 1) := by decide +kernel
theorem dX8_foundOf_0 : decode cX8_foundOf 0 = .ok (.iload_n 0, 1) := by decide +kernel
theorem dX8_foundOf_1 : decode cX8_foundOf 1 = .ok (.iconst 2, 1) := by decide +kernel
theorem dX8_foundOf_2 : decode cX8_foundOf 2 = .ok (.iload_n 1, 1) := by decide +kernel
theorem dX8_foundOf_3 : decode cX8_foundOf 3 = .ok (.imul, 1) := by decide +kernel
theorem dX8_foundOf_4 : decode cX8_foundOf 4 = .ok (.ishr, 1) := by decide +kernel
theorem dX8_foundOf_5 : decode cX8_foundOf 5 = .ok (.iconst 3, 1) := by decide +kernel
theorem dX8_foundOf_6 : decode cX8_foundOf 6 = .ok (.iand, 1) := by decide +kernel
theorem dX8_foundOf_7 : decode cX8_foundOf 7 = .ok (.ireturn, 1) := by decide +kernel
theorem dX8_withFound_0 : decode cX8_withFound 0 = .ok (.iconst 2, 1) := by decide +kernel
theorem dX8_withFound_1 : decode cX8_withFound 1 = .ok (.iload_n 1, 1) := by decide +kernel
theorem dX8_withFound_2 : decode cX8_withFound 2 = .ok (.imul, 1) := by decide +kernel
theorem dX8_withFound_3 : decode cX8_withFound 3 = .ok (.istore_n 3, 1) := by decide +kernel
theorem dX8_withFound_4 : decode cX8_withFound 4 = .ok (.iload_n 0, 1) := by decide +kernel
theorem dX8_withFound_5 : decode cX8_withFound 5 = .ok (.iconst 3, 1) := by decide +kernel
theorem dX8_withFound_6 : decode cX8_withFound 6 = .ok (.iload_n 3, 1) := by decide +kernel
theorem dX8_withFound_7 : decode cX8_withFound 7 = .ok (.ishl, 1) := by decide +kernel
theorem dX8_withFound_8 : decode cX8_withFound 8 = .ok (.iconst (-1), 1) := by decide +kernel
theorem dX8_withFound_9 : decode cX8_withFound 9 = .ok (.ixor, 1) := by decide +kernel
theorem dX8_withFound_10 : decode cX8_withFound 10 = .ok (.iand, 1) := by decide +kernel
theorem dX8_withFound_11 : decode cX8_withFound 11 = .ok (.iload_n 2, 1) := by decide +kernel
theorem dX8_withFound_12 : decode cX8_withFound 12 = .ok (.iload_n 3, 1) := by decide +kernel
theorem dX8_withFound_13 : decode cX8_withFound 13 = .ok (.ishl, 1) := by decide +kernel
theorem dX8_withFound_14 : decode cX8_withFound 14 = .ok (.ior, 1) := by decide +kernel
theorem dX8_withFound_15 : decode cX8_withFound 15 = .ok (.ireturn, 1) := by decide +kernel
theorem dX8_compareLower_0 : decode cX8_compareLower 0 = .ok (.aload_n 0, 1) := by decide +kernel
theorem dX8_compareLower_1 : decode cX8_compareLower 1 = .ok (.iload_n 1, 1) := by decide +kernel
theorem dX8_compareLower_2 : decode cX8_compareLower 2 = .ok (.iload_n 2, 1) := by decide +kernel
theorem dX8_compareLower_3 : decode cX8_compareLower 3 = .ok (.invokestatic 307, 3) := by decide +kernel
theorem dX8_compareLower_6 : decode cX8_compareLower 6 = .ok (.invokevirtual 132, 3) := by decide +kernel
theorem dX8_compareLower_9 : decode cX8_compareLower 9 = .ok (.aload_n 0, 1) := by decide +kernel
theorem dX8_compareLower_10 : decode cX8_compareLower 10 = .ok (.iload_n 1, 1) := by decide +kernel
theorem dX8_compareLower_11 : decode cX8_compareLower 11 = .ok (.iload_n 2, 1) := by decide +kernel
theorem dX8_compareLower_12 : decode cX8_compareLower 12 = .ok (.invokestatic 312, 3) := by decide +kernel
theorem dX8_compareLower_15 : decode cX8_compareLower 15 = .ok (.invokevirtual 132, 3) := by decide +kernel
theorem dX8_compareLower_18 : decode cX8_compareLower 18 = .ok (.isub, 1) := by decide +kernel
theorem dX8_compareLower_19 : decode cX8_compareLower 19 = .ok (.istore_n 3, 1) := by decide +kernel
theorem dX8_compareLower_20 : decode cX8_compareLower 20 = .ok (.iload_n 3, 1) := by decide +kernel
theorem dX8_compareLower_21 : decode cX8_compareLower 21 = .ok (.ifCond .ne 5, 3) := by decide +kernel
theorem dX8_compareLower_24 : decode cX8_compareLower 24 = .ok (.iconst 3, 1) := by decide +kernel
theorem dX8_compareLower_25 : decode cX8_compareLower 25 = .ok (.ireturn, 1) := by decide +kernel
theorem dX8_compareLower_26 : decode cX8_compareLower 26 = .ok (.iload_n 3, 1) := by decide +kernel
theorem dX8_compareLower_27 : decode cX8_compareLower 27 = .ok (.ifCond .le 7, 3) := by decide +kernel
theorem dX8_compareLower_30 : decode cX8_compareLower 30 = .ok (.iconst 1, 1) := by decide +kernel
theorem dX8_compareLower_31 : decode cX8_compareLower 31 = .ok (.goto 4, 3) := by decide +kernel
theorem dX8_compareLower_34 : decode cX8_compareLower 34 = .ok (.iconst 2, 1) := by decide +kernel
theorem dX8_compareLower_35 : decode cX8_compareLower 35 = .ok (.ireturn, 1) := by decide +kernel
theorem dX8_knownOf_0 : decode cX8_knownOf 0 = .ok (.aload_n 0, 1) := by decide +kernel
theorem dX8_knownOf_1 : decode cX8_knownOf 1 = .ok (.getfield 29, 3) := by decide +kernel
theorem dX8_knownOf_4 : decode cX8_knownOf 4 = .ok (.getfield 171, 3) := by decide +kernel
theorem dX8_knownOf_7 : decode cX8_knownOf 7 = .ok (.iload_n 1, 1) := by decide +kernel
theorem dX8_knownOf_8 : decode cX8_knownOf 8 = .ok (.iload_n 2, 1) := by decide +kernel
theorem dX8_knownOf_9 : decode cX8_knownOf 9 = .ok (.invokestatic 174, 3) := by decide +kernel
theorem dX8_knownOf_12 : decode cX8_knownOf 12 = .ok (.invokestatic 315, 3) := by decide +kernel
theorem dX8_knownOf_15 : decode cX8_knownOf 15 = .ok (.istore_n 3, 1) := by decide +kernel
theorem dX8_knownOf_16 : decode cX8_knownOf 16 = .ok (.iload_n 3, 1) := by decide +kernel
theorem dX8_knownOf_17 : decode cX8_knownOf 17 = .ok (.ifCond .ne 6, 3) := by decide +kernel
theorem dX8_knownOf_20 : decode cX8_knownOf 20 = .ok (.bipush (-9), 2) := by decide +kernel
theorem dX8_knownOf_22 : decode cX8_knownOf 22 = .ok (.ireturn, 1) := by decide +kernel
theorem dX8_knownOf_23 : decode cX8_knownOf 23 = .ok (.iload_n 3, 1) := by decide +kernel
theorem dX8_knownOf_24 : decode cX8_knownOf 24 = .ok (.iconst 3, 1) := by decide +kernel
theorem dX8_knownOf_25 : decode cX8_knownOf 25 = .ok (.if_icmp .ne 5, 3) := by decide +kernel
theorem dX8_knownOf_28 : decode cX8_knownOf 28 = .ok (.iconst 0, 1) := by decide +kernel
theorem dX8_knownOf_29 : decode cX8_knownOf 29 = .ok (.ireturn, 1) := by decide +kernel
theorem dX8_knownOf_30 : decode cX8_knownOf 30 = .ok (.iload_n 3, 1) := by decide +kernel
theorem dX8_knownOf_31 : decode cX8_knownOf 31 = .ok (.iconst 1, 1) := by decide +kernel
theorem dX8_knownOf_32 : decode cX8_knownOf 32 = .ok (.if_icmp .ne 7, 3) := by decide +kernel
theorem dX8_knownOf_35 : decode cX8_knownOf 35 = .ok (.iconst 1, 1) := by decide +kernel
theorem dX8_knownOf_36 : decode cX8_knownOf 36 = .ok (.goto 4, 3) := by decide +kernel
theorem dX8_knownOf_39 : decode cX8_knownOf 39 = .ok (.iconst 0, 1) := by decide +kernel
theorem dX8_knownOf_40 : decode cX8_knownOf 40 = .ok (.iload_n 1, 1) := by decide +kernel
theorem dX8_knownOf_41 : decode cX8_knownOf 41 = .ok (.iload_n 2, 1) := by decide +kernel
theorem dX8_knownOf_42 : decode cX8_knownOf 42 = .ok (.if_icmp .ge 7, 3) := by decide +kernel
theorem dX8_knownOf_45 : decode cX8_knownOf 45 = .ok (.iconst 1, 1) := by decide +kernel
theorem dX8_knownOf_46 : decode cX8_knownOf 46 = .ok (.goto 4, 3) := by decide +kernel
theorem dX8_knownOf_49 : decode cX8_knownOf 49 = .ok (.iconst 0, 1) := by decide +kernel
theorem dX8_knownOf_50 : decode cX8_knownOf 50 = .ok (.if_icmp .ne 7, 3) := by decide +kernel
theorem dX8_knownOf_53 : decode cX8_knownOf 53 = .ok (.iconst 1, 1) := by decide +kernel
theorem dX8_knownOf_54 : decode cX8_knownOf 54 = .ok (.goto 4, 3) := by decide +kernel
theorem dX8_knownOf_57 : decode cX8_knownOf 57 = .ok (.iconst 2, 1) := by decide +kernel
theorem dX8_knownOf_58 : decode cX8_knownOf 58 = .ok (.ireturn, 1) := by decide +kernel
theorem dX8_knownPairs_0 : decode cX8_knownPairs 0 = .ok (.iconst 0, 1) := by decide +kernel
theorem dX8_knownPairs_1 : decode cX8_knownPairs 1 = .ok (.istore_n 1, 1) := by decide +kernel
theorem dX8_knownPairs_2 : decode cX8_knownPairs 2 = .ok (.iconst 0, 1) := by decide +kernel
theorem dX8_knownPairs_3 : decode cX8_knownPairs 3 = .ok (.istore_n 2, 1) := by decide +kernel
theorem dX8_knownPairs_4 : decode cX8_knownPairs 4 = .ok (.iload_n 2, 1) := by decide +kernel
theorem dX8_knownPairs_5 : decode cX8_knownPairs 5 = .ok (.bipush 6, 2) := by decide +kernel
theorem dX8_knownPairs_7 : decode cX8_knownPairs 7 = .ok (.if_icmp .ge 26, 3) := by decide +kernel
theorem dX8_knownPairs_10 : decode cX8_knownPairs 10 = .ok (.aload_n 0, 1) := by decide +kernel
theorem dX8_knownPairs_11 : decode cX8_knownPairs 11 = .ok (.getfield 29, 3) := by decide +kernel
theorem dX8_knownPairs_14 : decode cX8_knownPairs 14 = .ok (.getfield 171, 3) := by decide +kernel
theorem dX8_knownPairs_17 : decode cX8_knownPairs 17 = .ok (.iload_n 2, 1) := by decide +kernel
theorem dX8_knownPairs_18 : decode cX8_knownPairs 18 = .ok (.invokestatic 315, 3) := by decide +kernel
theorem dX8_knownPairs_21 : decode cX8_knownPairs 21 = .ok (.ifCond .eq 6, 3) := by decide +kernel
theorem dX8_knownPairs_24 : decode cX8_knownPairs 24 = .ok (.iinc 1 1, 3) := by decide +kernel
theorem dX8_knownPairs_27 : decode cX8_knownPairs 27 = .ok (.iinc 2 1, 3) := by decide +kernel
theorem dX8_knownPairs_30 : decode cX8_knownPairs 30 = .ok (.goto (-26), 3) := by decide +kernel
theorem dX8_knownPairs_33 : decode cX8_knownPairs 33 = .ok (.iload_n 1, 1) := by decide +kernel
theorem dX8_knownPairs_34 : decode cX8_knownPairs 34 = .ok (.ireturn, 1) := by decide +kernel
theorem dX8_planned_0 : decode cX8_planned 0 = .ok (.aload_n 0, 1) := by decide +kernel
theorem dX8_planned_1 : decode cX8_planned 1 = .ok (.getfield 51, 3) := by decide +kernel
theorem dX8_planned_4 : decode cX8_planned 4 = .ok (.aload_n 0, 1) := by decide +kernel
theorem dX8_planned_5 : decode cX8_planned 5 = .ok (.getfield 19, 3) := by decide +kernel
theorem dX8_planned_8 : decode cX8_planned 8 = .ok (.getfield 168, 3) := by decide +kernel
theorem dX8_planned_11 : decode cX8_planned 11 = .ok (.invokevirtual 318, 3) := by decide +kernel
theorem dX8_planned_14 : decode cX8_planned 14 = .ok (.iload_n 1, 1) := by decide +kernel
theorem dX8_planned_15 : decode cX8_planned 15 = .ok (.iconst 2, 1) := by decide +kernel
theorem dX8_planned_16 : decode cX8_planned 16 = .ok (.if_icmp .ne 18, 3) := by decide +kernel
theorem dX8_planned_19 : decode cX8_planned 19 = .ok (.aload_n 0, 1) := by decide +kernel
theorem dX8_planned_20 : decode cX8_planned 20 = .ok (.getfield 51, 3) := by decide +kernel
theorem dX8_planned_23 : decode cX8_planned 23 = .ok (.aload_n 0, 1) := by decide +kernel
theorem dX8_planned_24 : decode cX8_planned 24 = .ok (.getfield 29, 3) := by decide +kernel
theorem dX8_planned_27 : decode cX8_planned 27 = .ok (.getfield 171, 3) := by decide +kernel
theorem dX8_planned_30 : decode cX8_planned 30 = .ok (.invokevirtual 322, 3) := by decide +kernel
theorem dX8_planned_33 : decode cX8_planned 33 = .ok (.ireturn, 1) := by decide +kernel
theorem dX8_planned_34 : decode cX8_planned 34 = .ok (.iload_n 1, 1) := by decide +kernel
theorem dX8_planned_35 : decode cX8_planned 35 = .ok (.iconst 3, 1) := by decide +kernel
theorem dX8_planned_36 : decode cX8_planned 36 = .ok (.if_icmp .ne 20, 3) := by decide +kernel
theorem dX8_planned_39 : decode cX8_planned 39 = .ok (.aload_n 0, 1) := by decide +kernel
theorem dX8_planned_40 : decode cX8_planned 40 = .ok (.getfield 51, 3) := by decide +kernel
theorem dX8_planned_43 : decode cX8_planned 43 = .ok (.aload_n 0, 1) := by decide +kernel
theorem dX8_planned_44 : decode cX8_planned 44 = .ok (.getfield 29, 3) := by decide +kernel
theorem dX8_planned_47 : decode cX8_planned 47 = .ok (.getfield 171, 3) := by decide +kernel
theorem dX8_planned_50 : decode cX8_planned 50 = .ok (.invokevirtual 325, 3) := by decide +kernel
theorem dX8_planned_53 : decode cX8_planned 53 = .ok (.goto 17, 3) := by decide +kernel
theorem dX8_planned_56 : decode cX8_planned 56 = .ok (.aload_n 0, 1) := by decide +kernel
theorem dX8_planned_57 : decode cX8_planned 57 = .ok (.getfield 51, 3) := by decide +kernel
theorem dX8_planned_60 : decode cX8_planned 60 = .ok (.aload_n 0, 1) := by decide +kernel
theorem dX8_planned_61 : decode cX8_planned 61 = .ok (.getfield 29, 3) := by decide +kernel
theorem dX8_planned_64 : decode cX8_planned 64 = .ok (.getfield 171, 3) := by decide +kernel
theorem dX8_planned_67 : decode cX8_planned 67 = .ok (.invokevirtual 328, 3) := by decide +kernel
theorem dX8_planned_70 : decode cX8_planned 70 = .ok (.ireturn, 1) := by decide +kernel
theorem dX8_lighterWays_0 : decode cX8_lighterWays 0 = .ok (.aload_n 0, 1) := by decide +kernel
theorem dX8_lighterWays_1 : decode cX8_lighterWays 1 = .ok (.getfield 29, 3) := by decide +kernel
theorem dX8_lighterWays_4 : decode cX8_lighterWays 4 = .ok (.getfield 116, 3) := by decide +kernel
theorem dX8_lighterWays_7 : decode cX8_lighterWays 7 = .ok (.iload_n 1, 1) := by decide +kernel
theorem dX8_lighterWays_8 : decode cX8_lighterWays 8 = .ok (.iconst 4, 1) := by decide +kernel
theorem dX8_lighterWays_9 : decode cX8_lighterWays 9 = .ok (.imul, 1) := by decide +kernel
theorem dX8_lighterWays_10 : decode cX8_lighterWays 10 = .ok (.iload_n 3, 1) := by decide +kernel
theorem dX8_lighterWays_11 : decode cX8_lighterWays 11 = .ok (.iadd, 1) := by decide +kernel
theorem dX8_lighterWays_12 : decode cX8_lighterWays 12 = .ok (.iaload, 1) := by decide +kernel
theorem dX8_lighterWays_13 : decode cX8_lighterWays 13 = .ok (.istore 5, 2) := by decide +kernel
theorem dX8_lighterWays_15 : decode cX8_lighterWays 15 = .ok (.aload_n 0, 1) := by decide +kernel
theorem dX8_lighterWays_16 : decode cX8_lighterWays 16 = .ok (.iload_n 1, 1) := by decide +kernel
theorem dX8_lighterWays_17 : decode cX8_lighterWays 17 = .ok (.invokevirtual 132, 3) := by decide +kernel
theorem dX8_lighterWays_20 : decode cX8_lighterWays 20 = .ok (.aload_n 0, 1) := by decide +kernel
theorem dX8_lighterWays_21 : decode cX8_lighterWays 21 = .ok (.iload_n 2, 1) := by decide +kernel
theorem dX8_lighterWays_22 : decode cX8_lighterWays 22 = .ok (.invokevirtual 132, 3) := by decide +kernel
theorem dX8_lighterWays_25 : decode cX8_lighterWays 25 = .ok (.isub, 1) := by decide +kernel
theorem dX8_lighterWays_26 : decode cX8_lighterWays 26 = .ok (.istore 6, 2) := by decide +kernel
theorem dX8_lighterWays_28 : decode cX8_lighterWays 28 = .ok (.lconst 1, 1) := by decide +kernel
theorem dX8_lighterWays_29 : decode cX8_lighterWays 29 = .ok (.lstore 7, 2) := by decide +kernel
theorem dX8_lighterWays_31 : decode cX8_lighterWays 31 = .ok (.lconst 0, 1) := by decide +kernel
theorem dX8_lighterWays_32 : decode cX8_lighterWays 32 = .ok (.lstore 9, 2) := by decide +kernel
theorem dX8_lighterWays_34 : decode cX8_lighterWays 34 = .ok (.iconst 0, 1) := by decide +kernel
theorem dX8_lighterWays_35 : decode cX8_lighterWays 35 = .ok (.istore 11, 2) := by decide +kernel
theorem dX8_lighterWays_37 : decode cX8_lighterWays 37 = .ok (.iload 11, 2) := by decide +kernel
theorem dX8_lighterWays_39 : decode cX8_lighterWays 39 = .ok (.iload 5, 2) := by decide +kernel
theorem dX8_lighterWays_41 : decode cX8_lighterWays 41 = .ok (.if_icmp .gt 73, 3) := by decide +kernel
theorem dX8_lighterWays_44 : decode cX8_lighterWays 44 = .ok (.iload 6, 2) := by decide +kernel
theorem dX8_lighterWays_46 : decode cX8_lighterWays 46 = .ok (.iload 11, 2) := by decide +kernel
theorem dX8_lighterWays_48 : decode cX8_lighterWays 48 = .ok (.aload_n 0, 1) := by decide +kernel
theorem dX8_lighterWays_49 : decode cX8_lighterWays 49 = .ok (.getfield 19, 3) := by decide +kernel
theorem dX8_lighterWays_52 : decode cX8_lighterWays 52 = .ok (.getfield 123, 3) := by decide +kernel
theorem dX8_lighterWays_55 : decode cX8_lighterWays 55 = .ok (.iload_n 3, 1) := by decide +kernel
theorem dX8_lighterWays_56 : decode cX8_lighterWays 56 = .ok (.iaload, 1) := by decide +kernel
theorem dX8_lighterWays_57 : decode cX8_lighterWays 57 = .ok (.imul, 1) := by decide +kernel
theorem dX8_lighterWays_58 : decode cX8_lighterWays 58 = .ok (.isub, 1) := by decide +kernel
theorem dX8_lighterWays_59 : decode cX8_lighterWays 59 = .ok (.ifCond .ge 32, 3) := by decide +kernel
theorem dX8_lighterWays_62 : decode cX8_lighterWays 62 = .ok (.lload 9, 2) := by decide +kernel
theorem dX8_lighterWays_64 : decode cX8_lighterWays 64 = .ok (.lload 7, 2) := by decide +kernel
theorem dX8_lighterWays_66 : decode cX8_lighterWays 66 = .ok (.iload 4, 2) := by decide +kernel
theorem dX8_lighterWays_68 : decode cX8_lighterWays 68 = .ok (.iload 11, 2) := by decide +kernel
theorem dX8_lighterWays_70 : decode cX8_lighterWays 70 = .ok (.invokestatic 214, 3) := by decide +kernel
theorem dX8_lighterWays_73 : decode cX8_lighterWays 73 = .ok (.lmul, 1) := by decide +kernel
theorem dX8_lighterWays_74 : decode cX8_lighterWays 74 = .ok (.bipush 10, 2) := by decide +kernel
theorem dX8_lighterWays_76 : decode cX8_lighterWays 76 = .ok (.iload 4, 2) := by decide +kernel
theorem dX8_lighterWays_78 : decode cX8_lighterWays 78 = .ok (.isub, 1) := by decide +kernel
theorem dX8_lighterWays_79 : decode cX8_lighterWays 79 = .ok (.iload 5, 2) := by decide +kernel
theorem dX8_lighterWays_81 : decode cX8_lighterWays 81 = .ok (.iload 11, 2) := by decide +kernel
theorem dX8_lighterWays_83 : decode cX8_lighterWays 83 = .ok (.isub, 1) := by decide +kernel
theorem dX8_lighterWays_84 : decode cX8_lighterWays 84 = .ok (.invokestatic 214, 3) := by decide +kernel
theorem dX8_lighterWays_87 : decode cX8_lighterWays 87 = .ok (.lmul, 1) := by decide +kernel
theorem dX8_lighterWays_88 : decode cX8_lighterWays 88 = .ok (.ladd, 1) := by decide +kernel
theorem dX8_lighterWays_89 : decode cX8_lighterWays 89 = .ok (.lstore 9, 2) := by decide +kernel
theorem dX8_lighterWays_91 : decode cX8_lighterWays 91 = .ok (.lload 7, 2) := by decide +kernel
theorem dX8_lighterWays_93 : decode cX8_lighterWays 93 = .ok (.iload 5, 2) := by decide +kernel
theorem dX8_lighterWays_95 : decode cX8_lighterWays 95 = .ok (.iload 11, 2) := by decide +kernel
theorem dX8_lighterWays_97 : decode cX8_lighterWays 97 = .ok (.isub, 1) := by decide +kernel
theorem dX8_lighterWays_98 : decode cX8_lighterWays 98 = .ok (.i2l, 1) := by decide +kernel
theorem dX8_lighterWays_99 : decode cX8_lighterWays 99 = .ok (.lmul, 1) := by decide +kernel
theorem dX8_lighterWays_100 : decode cX8_lighterWays 100 = .ok (.iload 11, 2) := by decide +kernel
theorem dX8_lighterWays_102 : decode cX8_lighterWays 102 = .ok (.iconst 1, 1) := by decide +kernel
theorem dX8_lighterWays_103 : decode cX8_lighterWays 103 = .ok (.iadd, 1) := by decide +kernel
theorem dX8_lighterWays_104 : decode cX8_lighterWays 104 = .ok (.i2l, 1) := by decide +kernel
theorem dX8_lighterWays_105 : decode cX8_lighterWays 105 = .ok (.ldiv, 1) := by decide +kernel
theorem dX8_lighterWays_106 : decode cX8_lighterWays 106 = .ok (.lstore 7, 2) := by decide +kernel
theorem dX8_lighterWays_108 : decode cX8_lighterWays 108 = .ok (.iinc 11 1, 3) := by decide +kernel
theorem dX8_lighterWays_111 : decode cX8_lighterWays 111 = .ok (.goto (-74), 3) := by decide +kernel
theorem dX8_lighterWays_114 : decode cX8_lighterWays 114 = .ok (.lload 9, 2) := by decide +kernel
theorem dX8_lighterWays_116 : decode cX8_lighterWays 116 = .ok (.lreturn, 1) := by decide +kernel
theorem dX8_power_0 : decode cX8_power 0 = .ok (.lconst 1, 1) := by decide +kernel
theorem dX8_power_1 : decode cX8_power 1 = .ok (.lstore_n 2, 1) := by decide +kernel
theorem dX8_power_2 : decode cX8_power 2 = .ok (.iconst 0, 1) := by decide +kernel
theorem dX8_power_3 : decode cX8_power 3 = .ok (.istore 4, 2) := by decide +kernel
theorem dX8_power_5 : decode cX8_power 5 = .ok (.iload 4, 2) := by decide +kernel
theorem dX8_power_7 : decode cX8_power 7 = .ok (.iload_n 1, 1) := by decide +kernel
theorem dX8_power_8 : decode cX8_power 8 = .ok (.if_icmp .ge 14, 3) := by decide +kernel
theorem dX8_power_11 : decode cX8_power 11 = .ok (.lload_n 2, 1) := by decide +kernel
theorem dX8_power_12 : decode cX8_power 12 = .ok (.iload_n 0, 1) := by decide +kernel
theorem dX8_power_13 : decode cX8_power 13 = .ok (.i2l, 1) := by decide +kernel
theorem dX8_power_14 : decode cX8_power 14 = .ok (.lmul, 1) := by decide +kernel
theorem dX8_power_15 : decode cX8_power 15 = .ok (.lstore_n 2, 1) := by decide +kernel
theorem dX8_power_16 : decode cX8_power 16 = .ok (.iinc 4 1, 3) := by decide +kernel
theorem dX8_power_19 : decode cX8_power 19 = .ok (.goto (-14), 3) := by decide +kernel
theorem dX8_power_22 : decode cX8_power 22 = .ok (.lload_n 2, 1) := by decide +kernel
theorem dX8_power_23 : decode cX8_power 23 = .ok (.lreturn, 1) := by decide +kernel
theorem dX8_commonDivisor_0 : decode cX8_commonDivisor 0 = .ok (.lload_n 0, 1) := by decide +kernel
theorem dX8_commonDivisor_1 : decode cX8_commonDivisor 1 = .ok (.lstore 4, 2) := by decide +kernel
theorem dX8_commonDivisor_3 : decode cX8_commonDivisor 3 = .ok (.lload_n 2, 1) := by decide +kernel
theorem dX8_commonDivisor_4 : decode cX8_commonDivisor 4 = .ok (.lstore 6, 2) := by decide +kernel
theorem dX8_commonDivisor_6 : decode cX8_commonDivisor 6 = .ok (.iconst 0, 1) := by decide +kernel
theorem dX8_commonDivisor_7 : decode cX8_commonDivisor 7 = .ok (.istore 8, 2) := by decide +kernel
theorem dX8_commonDivisor_9 : decode cX8_commonDivisor 9 = .ok (.iload 8, 2) := by decide +kernel
theorem dX8_commonDivisor_11 : decode cX8_commonDivisor 11 = .ok (.sipush 200, 3) := by decide +kernel
theorem dX8_commonDivisor_14 : decode cX8_commonDivisor 14 = .ok (.if_icmp .ge 31, 3) := by decide +kernel
theorem dX8_commonDivisor_17 : decode cX8_commonDivisor 17 = .ok (.lload 6, 2) := by decide +kernel
theorem dX8_commonDivisor_19 : decode cX8_commonDivisor 19 = .ok (.lconst 0, 1) := by decide +kernel
theorem dX8_commonDivisor_20 : decode cX8_commonDivisor 20 = .ok (.lcmp, 1) := by decide +kernel
theorem dX8_commonDivisor_21 : decode cX8_commonDivisor 21 = .ok (.ifCond .eq 24, 3) := by decide +kernel
theorem dX8_commonDivisor_24 : decode cX8_commonDivisor 24 = .ok (.lload 4, 2) := by decide +kernel
theorem dX8_commonDivisor_26 : decode cX8_commonDivisor 26 = .ok (.lload 6, 2) := by decide +kernel
theorem dX8_commonDivisor_28 : decode cX8_commonDivisor 28 = .ok (.lrem, 1) := by decide +kernel
theorem dX8_commonDivisor_29 : decode cX8_commonDivisor 29 = .ok (.lstore 9, 2) := by decide +kernel
theorem dX8_commonDivisor_31 : decode cX8_commonDivisor 31 = .ok (.lload 6, 2) := by decide +kernel
theorem dX8_commonDivisor_33 : decode cX8_commonDivisor 33 = .ok (.lstore 4, 2) := by decide +kernel
theorem dX8_commonDivisor_35 : decode cX8_commonDivisor 35 = .ok (.lload 9, 2) := by decide +kernel
theorem dX8_commonDivisor_37 : decode cX8_commonDivisor 37 = .ok (.lstore 6, 2) := by decide +kernel
theorem dX8_commonDivisor_39 : decode cX8_commonDivisor 39 = .ok (.iinc 8 1, 3) := by decide +kernel
theorem dX8_commonDivisor_42 : decode cX8_commonDivisor 42 = .ok (.goto (-33), 3) := by decide +kernel
theorem dX8_commonDivisor_45 : decode cX8_commonDivisor 45 = .ok (.lload 4, 2) := by decide +kernel
theorem dX8_commonDivisor_47 : decode cX8_commonDivisor 47 = .ok (.lreturn, 1) := by decide +kernel
theorem dX8_asPerson_0 : decode cX8_asPerson 0 = .ok (.aload_n 0, 1) := by decide +kernel
theorem dX8_asPerson_1 : decode cX8_asPerson 1 = .ok (.dup, 1) := by decide +kernel
theorem dX8_asPerson_2 : decode cX8_asPerson 2 = .ok (.getfield 295, 3) := by decide +kernel
theorem dX8_asPerson_5 : decode cX8_asPerson 5 = .ok (.lconst 1, 1) := by decide +kernel
theorem dX8_asPerson_6 : decode cX8_asPerson 6 = .ok (.ladd, 1) := by decide +kernel
theorem dX8_asPerson_7 : decode cX8_asPerson 7 = .ok (.putfield 295, 3) := by decide +kernel
theorem dX8_asPerson_10 : decode cX8_asPerson 10 = .ok (.aload_n 0, 1) := by decide +kernel
theorem dX8_asPerson_11 : decode cX8_asPerson 11 = .ok (.iload_n 1, 1) := by decide +kernel
theorem dX8_asPerson_12 : decode cX8_asPerson 12 = .ok (.invokevirtual 132, 3) := by decide +kernel
theorem dX8_asPerson_15 : decode cX8_asPerson 15 = .ok (.ireturn, 1) := by decide +kernel
theorem dX8_asBride_0 : decode cX8_asBride 0 = .ok (.aload_n 0, 1) := by decide +kernel
theorem dX8_asBride_1 : decode cX8_asBride 1 = .ok (.dup, 1) := by decide +kernel
theorem dX8_asBride_2 : decode cX8_asBride 2 = .ok (.getfield 295, 3) := by decide +kernel
theorem dX8_asBride_5 : decode cX8_asBride 5 = .ok (.ldc2_w 331, 3) := by decide +kernel
theorem dX8_asBride_8 : decode cX8_asBride 8 = .ok (.ladd, 1) := by decide +kernel
theorem dX8_asBride_9 : decode cX8_asBride 9 = .ok (.putfield 295, 3) := by decide +kernel
theorem dX8_asBride_12 : decode cX8_asBride 12 = .ok (.aload_n 0, 1) := by decide +kernel
theorem dX8_asBride_13 : decode cX8_asBride 13 = .ok (.iload_n 1, 1) := by decide +kernel
theorem dX8_asBride_14 : decode cX8_asBride 14 = .ok (.invokevirtual 275, 3) := by decide +kernel
theorem dX8_asBride_17 : decode cX8_asBride 17 = .ok (.aload_n 0, 1) := by decide +kernel
theorem dX8_asBride_18 : decode cX8_asBride 18 = .ok (.getfield 29, 3) := by decide +kernel
theorem dX8_asBride_21 : decode cX8_asBride 21 = .ok (.getfield 116, 3) := by decide +kernel
theorem dX8_asBride_24 : decode cX8_asBride 24 = .ok (.iload_n 1, 1) := by decide +kernel
theorem dX8_asBride_25 : decode cX8_asBride 25 = .ok (.invokestatic 333, 3) := by decide +kernel
theorem dX8_asBride_28 : decode cX8_asBride 28 = .ok (.iadd, 1) := by decide +kernel
theorem dX8_asBride_29 : decode cX8_asBride 29 = .ok (.ireturn, 1) := by decide +kernel
theorem dX8_asPartner_0 : decode cX8_asPartner 0 = .ok (.aload_n 0, 1) := by decide +kernel
theorem dX8_asPartner_1 : decode cX8_asPartner 1 = .ok (.dup, 1) := by decide +kernel
theorem dX8_asPartner_2 : decode cX8_asPartner 2 = .ok (.getfield 295, 3) := by decide +kernel
theorem dX8_asPartner_5 : decode cX8_asPartner 5 = .ok (.ldc2_w 337, 3) := by decide +kernel
theorem dX8_asPartner_8 : decode cX8_asPartner 8 = .ok (.ladd, 1) := by decide +kernel
theorem dX8_asPartner_9 : decode cX8_asPartner 9 = .ok (.putfield 295, 3) := by decide +kernel
theorem dX8_asPartner_12 : decode cX8_asPartner 12 = .ok (.aload_n 0, 1) := by decide +kernel
theorem dX8_asPartner_13 : decode cX8_asPartner 13 = .ok (.iload_n 1, 1) := by decide +kernel
theorem dX8_asPartner_14 : decode cX8_asPartner 14 = .ok (.invokevirtual 275, 3) := by decide +kernel
theorem dX8_asPartner_17 : decode cX8_asPartner 17 = .ok (.aload_n 0, 1) := by decide +kernel
theorem dX8_asPartner_18 : decode cX8_asPartner 18 = .ok (.getfield 19, 3) := by decide +kernel
theorem dX8_asPartner_21 : decode cX8_asPartner 21 = .ok (.getfield 120, 3) := by decide +kernel
theorem dX8_asPartner_24 : decode cX8_asPartner 24 = .ok (.iload_n 1, 1) := by decide +kernel
theorem dX8_asPartner_25 : decode cX8_asPartner 25 = .ok (.invokestatic 333, 3) := by decide +kernel
theorem dX8_asPartner_28 : decode cX8_asPartner 28 = .ok (.isub, 1) := by decide +kernel
theorem dX8_asPartner_29 : decode cX8_asPartner 29 = .ok (.ireturn, 1) := by decide +kernel
theorem dX8_asBrother_0 : decode cX8_asBrother 0 = .ok (.aload_n 0, 1) := by decide +kernel
theorem dX8_asBrother_1 : decode cX8_asBrother 1 = .ok (.dup, 1) := by decide +kernel
theorem dX8_asBrother_2 : decode cX8_asBrother 2 = .ok (.getfield 295, 3) := by decide +kernel
theorem dX8_asBrother_5 : decode cX8_asBrother 5 = .ok (.ldc2_w 339, 3) := by decide +kernel
theorem dX8_asBrother_8 : decode cX8_asBrother 8 = .ok (.ladd, 1) := by decide +kernel
theorem dX8_asBrother_9 : decode cX8_asBrother 9 = .ok (.putfield 295, 3) := by decide +kernel
theorem dX8_asBrother_12 : decode cX8_asBrother 12 = .ok (.iconst 2, 1) := by decide +kernel
theorem dX8_asBrother_13 : decode cX8_asBrother 13 = .ok (.aload_n 0, 1) := by decide +kernel
theorem dX8_asBrother_14 : decode cX8_asBrother 14 = .ok (.iload_n 1, 1) := by decide +kernel
theorem dX8_asBrother_15 : decode cX8_asBrother 15 = .ok (.invokevirtual 278, 3) := by decide +kernel
theorem dX8_asBrother_18 : decode cX8_asBrother 18 = .ok (.imul, 1) := by decide +kernel
theorem dX8_asBrother_19 : decode cX8_asBrother 19 = .ok (.ireturn, 1) := by decide +kernel
theorem dX8_asBankrupt_0 : decode cX8_asBankrupt 0 = .ok (.aload_n 0, 1) := by decide +kernel
theorem dX8_asBankrupt_1 : decode cX8_asBankrupt 1 = .ok (.dup, 1) := by decide +kernel
theorem dX8_asBankrupt_2 : decode cX8_asBankrupt 2 = .ok (.getfield 295, 3) := by decide +kernel
theorem dX8_asBankrupt_5 : decode cX8_asBankrupt 5 = .ok (.ldc2_w 341, 3) := by decide +kernel
theorem dX8_asBankrupt_8 : decode cX8_asBankrupt 8 = .ok (.ladd, 1) := by decide +kernel
theorem dX8_asBankrupt_9 : decode cX8_asBankrupt 9 = .ok (.putfield 295, 3) := by decide +kernel
theorem dX8_asBankrupt_12 : decode cX8_asBankrupt 12 = .ok (.aload_n 0, 1) := by decide +kernel
theorem dX8_asBankrupt_13 : decode cX8_asBankrupt 13 = .ok (.iload_n 1, 1) := by decide +kernel
theorem dX8_asBankrupt_14 : decode cX8_asBankrupt 14 = .ok (.invokevirtual 281, 3) := by decide +kernel
theorem dX8_asBankrupt_17 : decode cX8_asBankrupt 17 = .ok (.iload_n 1, 1) := by decide +kernel
theorem dX8_asBankrupt_18 : decode cX8_asBankrupt 18 = .ok (.iadd, 1) := by decide +kernel
theorem dX8_asBankrupt_19 : decode cX8_asBankrupt 19 = .ok (.ireturn, 1) := by decide +kernel
theorem dX8_asStranger_0 : decode cX8_asStranger 0 = .ok (.aload_n 0, 1) := by decide +kernel
theorem dX8_asStranger_1 : decode cX8_asStranger 1 = .ok (.dup, 1) := by decide +kernel
theorem dX8_asStranger_2 : decode cX8_asStranger 2 = .ok (.getfield 295, 3) := by decide +kernel
theorem dX8_asStranger_5 : decode cX8_asStranger 5 = .ok (.ldc2_w 343, 3) := by decide +kernel
theorem dX8_asStranger_8 : decode cX8_asStranger 8 = .ok (.ladd, 1) := by decide +kernel
theorem dX8_asStranger_9 : decode cX8_asStranger 9 = .ok (.putfield 295, 3) := by decide +kernel
theorem dX8_asStranger_12 : decode cX8_asStranger 12 = .ok (.aload_n 0, 1) := by decide +kernel
theorem dX8_asStranger_13 : decode cX8_asStranger 13 = .ok (.iload_n 1, 1) := by decide +kernel
theorem dX8_asStranger_14 : decode cX8_asStranger 14 = .ok (.invokevirtual 275, 3) := by decide +kernel
theorem dX8_asStranger_17 : decode cX8_asStranger 17 = .ok (.aload_n 0, 1) := by decide +kernel
theorem dX8_asStranger_18 : decode cX8_asStranger 18 = .ok (.getfield 29, 3) := by decide +kernel
theorem dX8_asStranger_21 : decode cX8_asStranger 21 = .ok (.getfield 144, 3) := by decide +kernel
theorem dX8_asStranger_24 : decode cX8_asStranger 24 = .ok (.iadd, 1) := by decide +kernel
theorem dX8_asStranger_25 : decode cX8_asStranger 25 = .ok (.ireturn, 1) := by decide +kernel
theorem dX8_sumOfSorts_0 : decode cX8_sumOfSorts 0 = .ok (.iconst 0, 1) := by decide +kernel
theorem dX8_sumOfSorts_1 : decode cX8_sumOfSorts 1 = .ok (.istore_n 2, 1) := by decide +kernel
theorem dX8_sumOfSorts_2 : decode cX8_sumOfSorts 2 = .ok (.iconst 0, 1) := by decide +kernel
theorem dX8_sumOfSorts_3 : decode cX8_sumOfSorts 3 = .ok (.istore_n 3, 1) := by decide +kernel
theorem dX8_sumOfSorts_4 : decode cX8_sumOfSorts 4 = .ok (.iload_n 3, 1) := by decide +kernel
theorem dX8_sumOfSorts_5 : decode cX8_sumOfSorts 5 = .ok (.iconst 4, 1) := by decide +kernel
theorem dX8_sumOfSorts_6 : decode cX8_sumOfSorts 6 = .ok (.if_icmp .ge 19, 3) := by decide +kernel
theorem dX8_sumOfSorts_9 : decode cX8_sumOfSorts 9 = .ok (.iload_n 2, 1) := by decide +kernel
theorem dX8_sumOfSorts_10 : decode cX8_sumOfSorts 10 = .ok (.aload_n 0, 1) := by decide +kernel
theorem dX8_sumOfSorts_11 : decode cX8_sumOfSorts 11 = .ok (.iload_n 1, 1) := by decide +kernel
theorem dX8_sumOfSorts_12 : decode cX8_sumOfSorts 12 = .ok (.iconst 4, 1) := by decide +kernel
theorem dX8_sumOfSorts_13 : decode cX8_sumOfSorts 13 = .ok (.imul, 1) := by decide +kernel
theorem dX8_sumOfSorts_14 : decode cX8_sumOfSorts 14 = .ok (.iload_n 3, 1) := by decide +kernel
theorem dX8_sumOfSorts_15 : decode cX8_sumOfSorts 15 = .ok (.iadd, 1) := by decide +kernel
theorem dX8_sumOfSorts_16 : decode cX8_sumOfSorts 16 = .ok (.iaload, 1) := by decide +kernel
theorem dX8_sumOfSorts_17 : decode cX8_sumOfSorts 17 = .ok (.iadd, 1) := by decide +kernel
theorem dX8_sumOfSorts_18 : decode cX8_sumOfSorts 18 = .ok (.istore_n 2, 1) := by decide +kernel
theorem dX8_sumOfSorts_19 : decode cX8_sumOfSorts 19 = .ok (.iinc 3 1, 3) := by decide +kernel
theorem dX8_sumOfSorts_22 : decode cX8_sumOfSorts 22 = .ok (.goto (-18), 3) := by decide +kernel
theorem dX8_sumOfSorts_25 : decode cX8_sumOfSorts 25 = .ok (.iload_n 2, 1) := by decide +kernel
theorem dX8_sumOfSorts_26 : decode cX8_sumOfSorts 26 = .ok (.ireturn, 1) := by decide +kernel
theorem dX9_init_0 : decode cX9_init 0 = .ok (.aload_n 0, 1) := by decide +kernel
theorem dX9_init_1 : decode cX9_init 1 = .ok (.invokespecial 1, 3) := by decide +kernel
theorem dX9_init_4 : decode cX9_init 4 = .ok (.aload_n 0, 1) := by decide +kernel
theorem dX9_init_5 : decode cX9_init 5 = .ok (.sipush 150, 3) := by decide +kernel
theorem dX9_init_8 : decode cX9_init 8 = .ok (.newarray .int, 2) := by decide +kernel
theorem dX9_init_10 : decode cX9_init 10 = .ok (.putfield 7, 3) := by decide +kernel
theorem dX9_init_13 : decode cX9_init 13 = .ok (.aload_n 0, 1) := by decide +kernel
theorem dX9_init_14 : decode cX9_init 14 = .ok (.iconst 4, 1) := by decide +kernel
theorem dX9_init_15 : decode cX9_init 15 = .ok (.newarray .int, 2) := by decide +kernel
theorem dX9_init_17 : decode cX9_init 17 = .ok (.putfield 13, 3) := by decide +kernel
theorem dX9_init_20 : decode cX9_init 20 = .ok (.aload_n 0, 1) := by decide +kernel
theorem dX9_init_21 : decode cX9_init 21 = .ok (.bipush 8, 2) := by decide +kernel
theorem dX9_init_23 : decode cX9_init 23 = .ok (.newarray .int, 2) := by decide +kernel
theorem dX9_init_25 : decode cX9_init 25 = .ok (.putfield 16, 3) := by decide +kernel
theorem dX9_init_28 : decode cX9_init 28 = .ok (.aload_n 0, 1) := by decide +kernel
theorem dX9_init_29 : decode cX9_init 29 = .ok (.bipush 16, 2) := by decide +kernel
theorem dX9_init_31 : decode cX9_init 31 = .ok (.newarray .int, 2) := by decide +kernel
theorem dX9_init_33 : decode cX9_init 33 = .ok (.putfield 19, 3) := by decide +kernel
theorem dX9_init_36 : decode cX9_init 36 = .ok (.aload_n 0, 1) := by decide +kernel
theorem dX9_init_37 : decode cX9_init 37 = .ok (.bipush 32, 2) := by decide +kernel
theorem dX9_init_39 : decode cX9_init 39 = .ok (.newarray .int, 2) := by decide +kernel
theorem dX9_init_41 : decode cX9_init 41 = .ok (.putfield 22, 3) := by decide +kernel
theorem dX9_init_44 : decode cX9_init 44 = .ok (.aload_n 0, 1) := by decide +kernel
theorem dX9_init_45 : decode cX9_init 45 = .ok (.bipush 10, 2) := by decide +kernel
theorem dX9_init_47 : decode cX9_init 47 = .ok (.newarray .int, 2) := by decide +kernel
theorem dX9_init_49 : decode cX9_init 49 = .ok (.putfield 25, 3) := by decide +kernel
theorem dX9_init_52 : decode cX9_init 52 = .ok (.aload_n 0, 1) := by decide +kernel
theorem dX9_init_53 : decode cX9_init 53 = .ok (.bipush 23, 2) := by decide +kernel
theorem dX9_init_55 : decode cX9_init 55 = .ok (.newarray .int, 2) := by decide +kernel
theorem dX9_init_57 : decode cX9_init 57 = .ok (.putfield 28, 3) := by decide +kernel
theorem dX9_init_60 : decode cX9_init 60 = .ok (.aload_n 0, 1) := by decide +kernel
theorem dX9_init_61 : decode cX9_init 61 = .ok (.bipush 46, 2) := by decide +kernel
theorem dX9_init_63 : decode cX9_init 63 = .ok (.newarray .int, 2) := by decide +kernel
theorem dX9_init_65 : decode cX9_init 65 = .ok (.putfield 31, 3) := by decide +kernel
theorem dX9_init_68 : decode cX9_init 68 = .ok (.aload_n 0, 1) := by decide +kernel
theorem dX9_init_69 : decode cX9_init 69 = .ok (.iconst 2, 1) := by decide +kernel
theorem dX9_init_70 : decode cX9_init 70 = .ok (.newarray .boolean, 2) := by decide +kernel
theorem dX9_init_72 : decode cX9_init 72 = .ok (.putfield 34, 3) := by decide +kernel
theorem dX9_init_75 : decode cX9_init 75 = .ok (.aload_n 0, 1) := by decide +kernel
theorem dX9_init_76 : decode cX9_init 76 = .ok (.sipush 230, 3) := by decide +kernel
theorem dX9_init_79 : decode cX9_init 79 = .ok (.newarray .int, 2) := by decide +kernel
theorem dX9_init_81 : decode cX9_init 81 = .ok (.putfield 38, 3) := by decide +kernel
theorem dX9_init_84 : decode cX9_init 84 = .ok (.aload_n 0, 1) := by decide +kernel
theorem dX9_init_85 : decode cX9_init 85 = .ok (.bipush 6, 2) := by decide +kernel
theorem dX9_init_87 : decode cX9_init 87 = .ok (.newarray .int, 2) := by decide +kernel
theorem dX9_init_89 : decode cX9_init 89 = .ok (.putfield 41, 3) := by decide +kernel
theorem dX9_init_92 : decode cX9_init 92 = .ok (.aload_n 0, 1) := by decide +kernel
theorem dX9_init_93 : decode cX9_init 93 = .ok (.bipush 6, 2) := by decide +kernel
theorem dX9_init_95 : decode cX9_init 95 = .ok (.newarray .int, 2) := by decide +kernel
theorem dX9_init_97 : decode cX9_init 97 = .ok (.putfield 44, 3) := by decide +kernel
theorem dX9_init_100 : decode cX9_init 100 = .ok (.aload_n 0, 1) := by decide +kernel
theorem dX9_init_101 : decode cX9_init 101 = .ok (.bipush 6, 2) := by decide +kernel
theorem dX9_init_103 : decode cX9_init 103 = .ok (.newarray .int, 2) := by decide +kernel
theorem dX9_init_105 : decode cX9_init 105 = .ok (.putfield 47, 3) := by decide +kernel
theorem dX9_init_108 : decode cX9_init 108 = .ok (.aload_n 0, 1) := by decide +kernel
theorem dX9_init_109 : decode cX9_init 109 = .ok (.bipush 6, 2) := by decide +kernel
theorem dX9_init_111 : decode cX9_init 111 = .ok (.newarray .int, 2) := by decide +kernel
theorem dX9_init_113 : decode cX9_init 113 = .ok (.putfield 50, 3) := by decide +kernel
theorem dX9_init_116 : decode cX9_init 116 = .ok (.aload_n 0, 1) := by decide +kernel
theorem dX9_init_117 : decode cX9_init 117 = .ok (.bipush 6, 2) := by decide +kernel
theorem dX9_init_119 : decode cX9_init 119 = .ok (.newarray .int, 2) := by decide +kernel
theorem dX9_init_121 : decode cX9_init 121 = .ok (.putfield 53, 3) := by decide +kernel
theorem dX9_init_124 : decode cX9_init 124 = .ok (.aload_n 0, 1) := by decide +kernel
theorem dX9_init_125 : decode cX9_init 125 = .ok (.bipush 75, 2) := by decide +kernel
theorem dX9_init_127 : decode cX9_init 127 = .ok (.newarray .int, 2) := by decide +kernel
theorem dX9_init_129 : decode cX9_init 129 = .ok (.putfield 56, 3) := by decide +kernel
theorem dX9_init_132 : decode cX9_init 132 = .ok (.aload_n 0, 1) := by decide +kernel
theorem dX9_init_133 : decode cX9_init 133 = .ok (.sipush 4096, 3) := by decide +kernel
theorem dX9_init_136 : decode cX9_init 136 = .ok (.newarray .int, 2) := by decide +kernel
theorem dX9_init_138 : decode cX9_init 138 = .ok (.putfield 59, 3) := by decide +kernel
theorem dX9_init_141 : decode cX9_init 141 = .ok (.aload_n 0, 1) := by decide +kernel
theorem dX9_init_142 : decode cX9_init 142 = .ok (.sipush 4096, 3) := by decide +kernel
theorem dX9_init_145 : decode cX9_init 145 = .ok (.newarray .int, 2) := by decide +kernel
theorem dX9_init_147 : decode cX9_init 147 = .ok (.putfield 62, 3) := by decide +kernel
theorem dX9_init_150 : decode cX9_init 150 = .ok (.aload_n 0, 1) := by decide +kernel
theorem dX9_init_151 : decode cX9_init 151 = .ok (.sipush 1442, 3) := by decide +kernel
theorem dX9_init_154 : decode cX9_init 154 = .ok (.newarray .int, 2) := by decide +kernel
theorem dX9_init_156 : decode cX9_init 156 = .ok (.putfield 65, 3) := by decide +kernel
theorem dX9_init_159 : decode cX9_init 159 = .ok (.aload_n 0, 1) := by decide +kernel
theorem dX9_init_160 : decode cX9_init 160 = .ok (.sipush 301, 3) := by decide +kernel
theorem dX9_init_163 : decode cX9_init 163 = .ok (.newarray .boolean, 2) := by decide +kernel
theorem dX9_init_165 : decode cX9_init 165 = .ok (.putfield 68, 3) := by decide +kernel
theorem dX9_init_168 : decode cX9_init 168 = .ok (.aload_n 0, 1) := by decide +kernel
theorem dX9_init_169 : decode cX9_init 169 = .ok (.invokevirtual 71, 3) := by decide +kernel
theorem dX9_init_172 : decode cX9_init 172 = .ok (.aload_n 0, 1) := by decide +kernel
theorem dX9_init_173 : decode cX9_init 173 = .ok (.invokevirtual 74, 3) := by decide +kernel
theorem dX9_init_176 : decode cX9_init 176 = .ok (.return_, 1) := by decide +kernel
theorem dX9_in_0 : decode cX9_in 0 = .ok (.iload_n 0, 1) := by decide +kernel
theorem dX9_in_1 : decode cX9_in 1 = .ok (.iload_n 1, 1) := by decide +kernel
theorem dX9_in_2 : decode cX9_in 2 = .ok (.if_icmp .lt 12, 3) := by decide +kernel
theorem dX9_in_5 : decode cX9_in 5 = .ok (.iload_n 0, 1) := by decide +kernel
theorem dX9_in_6 : decode cX9_in 6 = .ok (.iload_n 2, 1) := by decide +kernel
theorem dX9_in_7 : decode cX9_in 7 = .ok (.if_icmp .gt 7, 3) := by decide +kernel
theorem dX9_in_10 : decode cX9_in 10 = .ok (.iconst 1, 1) := by decide +kernel
theorem dX9_in_11 : decode cX9_in 11 = .ok (.goto 4, 3) := by decide +kernel
theorem dX9_in_14 : decode cX9_in 14 = .ok (.iconst 0, 1) := by decide +kernel
theorem dX9_in_15 : decode cX9_in 15 = .ok (.ireturn, 1) := by decide +kernel
theorem dX9_type_0 : decode cX9_type 0 = .ok (.aload_n 0, 1) := by decide +kernel
theorem dX9_type_1 : decode cX9_type 1 = .ok (.iconst 0, 1) := by decide +kernel
theorem dX9_type_2 : decode cX9_type 2 = .ok (.putfield 77, 3) := by decide +kernel
theorem dX9_type_5 : decode cX9_type 5 = .ok (.iload_n 1, 1) := by decide +kernel
theorem dX9_type_6 : decode cX9_type 6 = .ok (.iconst 0, 1) := by decide +kernel
theorem dX9_type_7 : decode cX9_type 7 = .ok (.sipush 255, 3) := by decide +kernel
theorem dX9_type_10 : decode cX9_type 10 = .ok (.invokestatic 81, 3) := by decide +kernel
theorem dX9_type_13 : decode cX9_type 13 = .ok (.ifCond .ne 5, 3) := by decide +kernel
theorem dX9_type_16 : decode cX9_type 16 = .ok (.iconst (-1), 1) := by decide +kernel
theorem dX9_type_17 : decode cX9_type 17 = .ok (.ireturn, 1) := by decide +kernel
theorem dX9_type_18 : decode cX9_type 18 = .ok (.aload_n 0, 1) := by decide +kernel
theorem dX9_type_19 : decode cX9_type 19 = .ok (.getfield 85, 3) := by decide +kernel
theorem dX9_type_22 : decode cX9_type 22 = .ok (.sipush 150, 3) := by decide +kernel
theorem dX9_type_25 : decode cX9_type 25 = .ok (.if_icmp .ne 6, 3) := by decide +kernel
theorem dX9_type_28 : decode cX9_type 28 = .ok (.bipush (-3), 2) := by decide +kernel
theorem dX9_type_30 : decode cX9_type 30 = .ok (.ireturn, 1) := by decide +kernel
theorem dX9_type_31 : decode cX9_type 31 = .ok (.aload_n 0, 1) := by decide +kernel
theorem dX9_type_32 : decode cX9_type 32 = .ok (.getfield 7, 3) := by decide +kernel
theorem dX9_type_35 : decode cX9_type 35 = .ok (.aload_n 0, 1) := by decide +kernel
theorem dX9_type_36 : decode cX9_type 36 = .ok (.getfield 85, 3) := by decide +kernel
theorem dX9_type_39 : decode cX9_type 39 = .ok (.iload_n 1, 1) := by decide +kernel
theorem dX9_type_40 : decode cX9_type 40 = .ok (.iastore, 1) := by decide +kernel
theorem dX9_type_41 : decode cX9_type 41 = .ok (.aload_n 0, 1) := by decide +kernel
theorem dX9_type_42 : decode cX9_type 42 = .ok (.dup, 1) := by decide +kernel
theorem dX9_type_43 : decode cX9_type 43 = .ok (.getfield 85, 3) := by decide +kernel
theorem dX9_type_46 : decode cX9_type 46 = .ok (.iconst 1, 1) := by decide +kernel
theorem dX9_type_47 : decode cX9_type 47 = .ok (.iadd, 1) := by decide +kernel
theorem dX9_type_48 : decode cX9_type 48 = .ok (.putfield 85, 3) := by decide +kernel
theorem dX9_type_51 : decode cX9_type 51 = .ok (.aload_n 0, 1) := by decide +kernel
theorem dX9_type_52 : decode cX9_type 52 = .ok (.getfield 85, 3) := by decide +kernel
theorem dX9_type_55 : decode cX9_type 55 = .ok (.ireturn, 1) := by decide +kernel
theorem dX9_clear_0 : decode cX9_clear 0 = .ok (.aload_n 0, 1) := by decide +kernel
theorem dX9_clear_1 : decode cX9_clear 1 = .ok (.iconst 0, 1) := by decide +kernel
theorem dX9_clear_2 : decode cX9_clear 2 = .ok (.putfield 77, 3) := by decide +kernel
theorem dX9_clear_5 : decode cX9_clear 5 = .ok (.aload_n 0, 1) := by decide +kernel
theorem dX9_clear_6 : decode cX9_clear 6 = .ok (.getfield 85, 3) := by decide +kernel
theorem dX9_clear_9 : decode cX9_clear 9 = .ok (.istore_n 1, 1) := by decide +kernel
theorem dX9_clear_10 : decode cX9_clear 10 = .ok (.aload_n 0, 1) := by decide +kernel
theorem dX9_clear_11 : decode cX9_clear 11 = .ok (.iconst 0, 1) := by decide +kernel
theorem dX9_clear_12 : decode cX9_clear 12 = .ok (.putfield 85, 3) := by decide +kernel
theorem dX9_clear_15 : decode cX9_clear 15 = .ok (.iload_n 1, 1) := by decide +kernel
theorem dX9_clear_16 : decode cX9_clear 16 = .ok (.ireturn, 1) := by decide +kernel
theorem dX9_letterAt_0 : decode cX9_letterAt 0 = .ok (.iload_n 1, 1) := by decide +kernel
theorem dX9_letterAt_1 : decode cX9_letterAt 1 = .ok (.aload_n 0, 1) := by decide +kernel
theorem dX9_letterAt_2 : decode cX9_letterAt 2 = .ok (.getfield 85, 3) := by decide +kernel
theorem dX9_letterAt_5 : decode cX9_letterAt 5 = .ok (.if_icmp .ge 12, 3) := by decide +kernel
theorem dX9_letterAt_8 : decode cX9_letterAt 8 = .ok (.aload_n 0, 1) := by decide +kernel
theorem dX9_letterAt_9 : decode cX9_letterAt 9 = .ok (.getfield 7, 3) := by decide +kernel
theorem dX9_letterAt_12 : decode cX9_letterAt 12 = .ok (.iload_n 1, 1) := by decide +kernel
theorem dX9_letterAt_13 : decode cX9_letterAt 13 = .ok (.iaload, 1) := by decide +kernel
theorem dX9_letterAt_14 : decode cX9_letterAt 14 = .ok (.goto 4, 3) := by decide +kernel
theorem dX9_letterAt_17 : decode cX9_letterAt 17 = .ok (.iconst (-1), 1) := by decide +kernel
theorem dX9_letterAt_18 : decode cX9_letterAt 18 = .ok (.ireturn, 1) := by decide +kernel
theorem dX9_advances_0 : decode cX9_advances 0 = .ok (.aload_n 0, 1) := by decide +kernel
theorem dX9_advances_1 : decode cX9_advances 1 = .ok (.aload_n 0, 1) := by decide +kernel
theorem dX9_advances_2 : decode cX9_advances 2 = .ok (.getfield 88, 3) := by decide +kernel
theorem dX9_advances_5 : decode cX9_advances 5 = .ok (.invokevirtual 91, 3) := by decide +kernel
theorem dX9_advances_8 : decode cX9_advances 8 = .ok (.bipush 32, 2) := by decide +kernel
theorem dX9_advances_10 : decode cX9_advances 10 = .ok (.if_icmp .ne 16, 3) := by decide +kernel
theorem dX9_advances_13 : decode cX9_advances 13 = .ok (.aload_n 0, 1) := by decide +kernel
theorem dX9_advances_14 : decode cX9_advances 14 = .ok (.dup, 1) := by decide +kernel
theorem dX9_advances_15 : decode cX9_advances 15 = .ok (.getfield 88, 3) := by decide +kernel
theorem dX9_advances_18 : decode cX9_advances 18 = .ok (.iconst 1, 1) := by decide +kernel
theorem dX9_advances_19 : decode cX9_advances 19 = .ok (.iadd, 1) := by decide +kernel
theorem dX9_advances_20 : decode cX9_advances 20 = .ok (.putfield 88, 3) := by decide +kernel
theorem dX9_advances_23 : decode cX9_advances 23 = .ok (.goto (-23), 3) := by decide +kernel
theorem dX9_advances_26 : decode cX9_advances 26 = .ok (.aload_n 0, 1) := by decide +kernel
theorem dX9_advances_27 : decode cX9_advances 27 = .ok (.aload_n 0, 1) := by decide +kernel
theorem dX9_advances_28 : decode cX9_advances 28 = .ok (.getfield 88, 3) := by decide +kernel
theorem dX9_advances_31 : decode cX9_advances 31 = .ok (.putfield 95, 3) := by decide +kernel
theorem dX9_advances_34 : decode cX9_advances 34 = .ok (.aload_n 0, 1) := by decide +kernel
theorem dX9_advances_35 : decode cX9_advances 35 = .ok (.aload_n 0, 1) := by decide +kernel
theorem dX9_advances_36 : decode cX9_advances 36 = .ok (.getfield 88, 3) := by decide +kernel
theorem dX9_advances_39 : decode cX9_advances 39 = .ok (.invokevirtual 91, 3) := by decide +kernel
theorem dX9_advances_42 : decode cX9_advances 42 = .ok (.istore_n 1, 1) := by decide +kernel
theorem dX9_advances_43 : decode cX9_advances 43 = .ok (.iload_n 1, 1) := by decide +kernel
theorem dX9_advances_44 : decode cX9_advances 44 = .ok (.ifCond .ge 11, 3) := by decide +kernel
theorem dX9_advances_47 : decode cX9_advances 47 = .ok (.aload_n 0, 1) := by decide +kernel
theorem dX9_advances_48 : decode cX9_advances 48 = .ok (.iconst 0, 1) := by decide +kernel
theorem dX9_advances_49 : decode cX9_advances 49 = .ok (.putfield 98, 3) := by decide +kernel
theorem dX9_advances_52 : decode cX9_advances 52 = .ok (.goto 187, 3) := by decide +kernel
theorem dX9_advances_55 : decode cX9_advances 55 = .ok (.iload_n 1, 1) := by decide +kernel
theorem dX9_advances_56 : decode cX9_advances 56 = .ok (.bipush 48, 2) := by decide +kernel
theorem dX9_advances_58 : decode cX9_advances 58 = .ok (.bipush 57, 2) := by decide +kernel
theorem dX9_advances_60 : decode cX9_advances 60 = .ok (.invokestatic 81, 3) := by decide +kernel
theorem dX9_advances_63 : decode cX9_advances 63 = .ok (.ifCond .eq 118, 3) := by decide +kernel
theorem dX9_advances_66 : decode cX9_advances 66 = .ok (.aload_n 0, 1) := by decide +kernel
theorem dX9_advances_67 : decode cX9_advances 67 = .ok (.iconst 0, 1) := by decide +kernel
theorem dX9_advances_68 : decode cX9_advances 68 = .ok (.putfield 101, 3) := by decide +kernel
theorem dX9_advances_71 : decode cX9_advances 71 = .ok (.aload_n 0, 1) := by decide +kernel
theorem dX9_advances_72 : decode cX9_advances 72 = .ok (.aload_n 0, 1) := by decide +kernel
theorem dX9_advances_73 : decode cX9_advances 73 = .ok (.getfield 88, 3) := by decide +kernel
theorem dX9_advances_76 : decode cX9_advances 76 = .ok (.invokevirtual 91, 3) := by decide +kernel
theorem dX9_advances_79 : decode cX9_advances 79 = .ok (.bipush 48, 2) := by decide +kernel
theorem dX9_advances_81 : decode cX9_advances 81 = .ok (.bipush 57, 2) := by decide +kernel
theorem dX9_advances_83 : decode cX9_advances 83 = .ok (.invokestatic 81, 3) := by decide +kernel
theorem dX9_advances_86 : decode cX9_advances 86 = .ok (.ifCond .eq 55, 3) := by decide +kernel
theorem dX9_advances_89 : decode cX9_advances 89 = .ok (.aload_n 0, 1) := by decide +kernel
theorem dX9_advances_90 : decode cX9_advances 90 = .ok (.aload_n 0, 1) := by decide +kernel
theorem dX9_advances_91 : decode cX9_advances 91 = .ok (.getfield 101, 3) := by decide +kernel
theorem dX9_advances_94 : decode cX9_advances 94 = .ok (.bipush 99, 2) := by decide +kernel
theorem dX9_advances_96 : decode cX9_advances 96 = .ok (.if_icmp .le 10, 3) := by decide +kernel
theorem dX9_advances_99 : decode cX9_advances 99 = .ok (.aload_n 0, 1) := by decide +kernel
theorem dX9_advances_100 : decode cX9_advances 100 = .ok (.getfield 101, 3) := by decide +kernel
theorem dX9_advances_103 : decode cX9_advances 103 = .ok (.goto 22, 3) := by decide +kernel
theorem dX9_advances_106 : decode cX9_advances 106 = .ok (.bipush 10, 2) := by decide +kernel
theorem dX9_advances_108 : decode cX9_advances 108 = .ok (.aload_n 0, 1) := by decide +kernel
theorem dX9_advances_109 : decode cX9_advances 109 = .ok (.getfield 101, 3) := by decide +kernel
theorem dX9_advances_112 : decode cX9_advances 112 = .ok (.imul, 1) := by decide +kernel
theorem dX9_advances_113 : decode cX9_advances 113 = .ok (.aload_n 0, 1) := by decide +kernel
theorem dX9_advances_114 : decode cX9_advances 114 = .ok (.aload_n 0, 1) := by decide +kernel
theorem dX9_advances_115 : decode cX9_advances 115 = .ok (.getfield 88, 3) := by decide +kernel
theorem dX9_advances_118 : decode cX9_advances 118 = .ok (.invokevirtual 91, 3) := by decide +kernel
theorem dX9_advances_121 : decode cX9_advances 121 = .ok (.iadd, 1) := by decide +kernel
theorem dX9_advances_122 : decode cX9_advances 122 = .ok (.bipush 48, 2) := by decide +kernel
theorem dX9_advances_124 : decode cX9_advances 124 = .ok (.isub, 1) := by decide +kernel
theorem dX9_advances_125 : decode cX9_advances 125 = .ok (.putfield 101, 3) := by decide +kernel
theorem dX9_advances_128 : decode cX9_advances 128 = .ok (.aload_n 0, 1) := by decide +kernel
theorem dX9_advances_129 : decode cX9_advances 129 = .ok (.dup, 1) := by decide +kernel
theorem dX9_advances_130 : decode cX9_advances 130 = .ok (.getfield 88, 3) := by decide +kernel
theorem dX9_advances_133 : decode cX9_advances 133 = .ok (.iconst 1, 1) := by decide +kernel
theorem dX9_advances_134 : decode cX9_advances 134 = .ok (.iadd, 1) := by decide +kernel
theorem dX9_advances_135 : decode cX9_advances 135 = .ok (.putfield 88, 3) := by decide +kernel
theorem dX9_advances_138 : decode cX9_advances 138 = .ok (.goto (-67), 3) := by decide +kernel
theorem dX9_advances_141 : decode cX9_advances 141 = .ok (.aload_n 0, 1) := by decide +kernel
theorem dX9_advances_142 : decode cX9_advances 142 = .ok (.aload_n 0, 1) := by decide +kernel
theorem dX9_advances_143 : decode cX9_advances 143 = .ok (.getfield 101, 3) := by decide +kernel
theorem dX9_advances_146 : decode cX9_advances 146 = .ok (.bipush 99, 2) := by decide +kernel
theorem dX9_advances_148 : decode cX9_advances 148 = .ok (.if_icmp .gt 22, 3) := by decide +kernel
theorem dX9_advances_151 : decode cX9_advances 151 = .ok (.iload_n 1, 1) := by decide +kernel
theorem dX9_advances_152 : decode cX9_advances 152 = .ok (.bipush 48, 2) := by decide +kernel
theorem dX9_advances_154 : decode cX9_advances 154 = .ok (.if_icmp .ne 20, 3) := by decide +kernel
theorem dX9_advances_157 : decode cX9_advances 157 = .ok (.aload_n 0, 1) := by decide +kernel
theorem dX9_advances_158 : decode cX9_advances 158 = .ok (.getfield 88, 3) := by decide +kernel
theorem dX9_advances_161 : decode cX9_advances 161 = .ok (.aload_n 0, 1) := by decide +kernel
theorem dX9_advances_162 : decode cX9_advances 162 = .ok (.getfield 95, 3) := by decide +kernel
theorem dX9_advances_165 : decode cX9_advances 165 = .ok (.isub, 1) := by decide +kernel
theorem dX9_advances_166 : decode cX9_advances 166 = .ok (.iconst 1, 1) := by decide +kernel
theorem dX9_advances_167 : decode cX9_advances 167 = .ok (.if_icmp .le 7, 3) := by decide +kernel
theorem dX9_advances_170 : decode cX9_advances 170 = .ok (.iconst 4, 1) := by decide +kernel
theorem dX9_advances_171 : decode cX9_advances 171 = .ok (.goto 4, 3) := by decide +kernel
theorem dX9_advances_174 : decode cX9_advances 174 = .ok (.iconst 2, 1) := by decide +kernel
theorem dX9_advances_175 : decode cX9_advances 175 = .ok (.putfield 98, 3) := by decide +kernel
theorem dX9_advances_178 : decode cX9_advances 178 = .ok (.goto 61, 3) := by decide +kernel
theorem dX9_advances_181 : decode cX9_advances 181 = .ok (.aload_n 0, 1) := by decide +kernel
theorem dX9_advances_182 : decode cX9_advances 182 = .ok (.dup, 1) := by decide +kernel
theorem dX9_advances_183 : decode cX9_advances 183 = .ok (.getfield 88, 3) := by decide +kernel
theorem dX9_advances_186 : decode cX9_advances 186 = .ok (.iconst 1, 1) := by decide +kernel
theorem dX9_advances_187 : decode cX9_advances 187 = .ok (.iadd, 1) := by decide +kernel
theorem dX9_advances_188 : decode cX9_advances 188 = .ok (.putfield 88, 3) := by decide +kernel
theorem dX9_advances_191 : decode cX9_advances 191 = .ok (.aload_n 0, 1) := by decide +kernel
theorem dX9_advances_192 : decode cX9_advances 192 = .ok (.iload_n 1, 1) := by decide +kernel
theorem dX9_advances_193 : decode cX9_advances 193 = .ok (.putfield 101, 3) := by decide +kernel
theorem dX9_advances_196 : decode cX9_advances 196 = .ok (.aload_n 0, 1) := by decide +kernel
theorem dX9_advances_197 : decode cX9_advances 197 = .ok (.iload_n 1, 1) := by decide +kernel
theorem dX9_advances_198 : decode cX9_advances 198 = .ok (.bipush 59, 2) := by decide +kernel
theorem dX9_advances_200 : decode cX9_advances 200 = .ok (.if_icmp .ne 7, 3) := by decide +kernel
theorem dX9_advances_203 : decode cX9_advances 203 = .ok (.iconst 3, 1) := by decide +kernel
theorem dX9_advances_204 : decode cX9_advances 204 = .ok (.goto 32, 3) := by decide +kernel
theorem dX9_advances_207 : decode cX9_advances 207 = .ok (.iload_n 1, 1) := by decide +kernel
theorem dX9_advances_208 : decode cX9_advances 208 = .ok (.bipush 115, 2) := by decide +kernel
theorem dX9_advances_210 : decode cX9_advances 210 = .ok (.if_icmp .eq 21, 3) := by decide +kernel
theorem dX9_advances_213 : decode cX9_advances 213 = .ok (.iload_n 1, 1) := by decide +kernel
theorem dX9_advances_214 : decode cX9_advances 214 = .ok (.bipush 112, 2) := by decide +kernel
theorem dX9_advances_216 : decode cX9_advances 216 = .ok (.if_icmp .eq 15, 3) := by decide +kernel
theorem dX9_advances_219 : decode cX9_advances 219 = .ok (.iload_n 1, 1) := by decide +kernel
theorem dX9_advances_220 : decode cX9_advances 220 = .ok (.bipush 103, 2) := by decide +kernel
theorem dX9_advances_222 : decode cX9_advances 222 = .ok (.if_icmp .eq 9, 3) := by decide +kernel
theorem dX9_advances_225 : decode cX9_advances 225 = .ok (.iload_n 1, 1) := by decide +kernel
theorem dX9_advances_226 : decode cX9_advances 226 = .ok (.bipush 98, 2) := by decide +kernel
theorem dX9_advances_228 : decode cX9_advances 228 = .ok (.if_icmp .ne 7, 3) := by decide +kernel
theorem dX9_advances_231 : decode cX9_advances 231 = .ok (.iconst 1, 1) := by decide +kernel
theorem dX9_advances_232 : decode cX9_advances 232 = .ok (.goto 4, 3) := by decide +kernel
theorem dX9_advances_235 : decode cX9_advances 235 = .ok (.iconst 4, 1) := by decide +kernel
theorem dX9_advances_236 : decode cX9_advances 236 = .ok (.putfield 98, 3) := by decide +kernel
theorem dX9_advances_239 : decode cX9_advances 239 = .ok (.return_, 1) := by decide +kernel
theorem dX9_isWell_0 : decode cX9_isWell 0 = .ok (.aload_n 0, 1) := by decide +kernel
theorem dX9_isWell_1 : decode cX9_isWell 1 = .ok (.getfield 104, 3) := by decide +kernel
theorem dX9_isWell_4 : decode cX9_isWell 4 = .ok (.ifCond .ge 7, 3) := by decide +kernel
theorem dX9_isWell_7 : decode cX9_isWell 7 = .ok (.iconst 1, 1) := by decide +kernel
theorem dX9_isWell_8 : decode cX9_isWell 8 = .ok (.goto 4, 3) := by decide +kernel
theorem dX9_isWell_11 : decode cX9_isWell 11 = .ok (.iconst 0, 1) := by decide +kernel
theorem dX9_isWell_12 : decode cX9_isWell 12 = .ok (.ireturn, 1) := by decide +kernel
theorem dX9_takes_0 : decode cX9_takes 0 = .ok (.aload_n 0, 1) := by decide +kernel
theorem dX9_takes_1 : decode cX9_takes 1 = .ok (.invokevirtual 107, 3) := by decide +kernel
theorem dX9_takes_4 : decode cX9_takes 4 = .ok (.ifCond .ne 5, 3) := by decide +kernel
theorem dX9_takes_7 : decode cX9_takes 7 = .ok (.iconst 0, 1) := by decide +kernel
theorem dX9_takes_8 : decode cX9_takes 8 = .ok (.ireturn, 1) := by decide +kernel
theorem dX9_takes_9 : decode cX9_takes 9 = .ok (.iload_n 1, 1) := by decide +kernel
theorem dX9_takes_10 : decode cX9_takes 10 = .ok (.ifCond .ne 13, 3) := by decide +kernel
theorem dX9_takes_13 : decode cX9_takes 13 = .ok (.aload_n 0, 1) := by decide +kernel
theorem dX9_takes_14 : decode cX9_takes 14 = .ok (.aload_n 0, 1) := by decide +kernel
theorem dX9_takes_15 : decode cX9_takes 15 = .ok (.getfield 95, 3) := by decide +kernel
theorem dX9_takes_18 : decode cX9_takes 18 = .ok (.putfield 104, 3) := by decide +kernel
theorem dX9_takes_21 : decode cX9_takes 21 = .ok (.iconst 0, 1) := by decide +kernel
theorem dX9_takes_22 : decode cX9_takes 22 = .ok (.ireturn, 1) := by decide +kernel
theorem dX9_takes_23 : decode cX9_takes 23 = .ok (.aload_n 0, 1) := by decide +kernel
theorem dX9_takes_24 : decode cX9_takes 24 = .ok (.getfield 101, 3) := by decide +kernel
theorem dX9_takes_27 : decode cX9_takes 27 = .ok (.istore_n 2, 1) := by decide +kernel
theorem dX9_takes_28 : decode cX9_takes 28 = .ok (.aload_n 0, 1) := by decide +kernel
theorem dX9_takes_29 : decode cX9_takes 29 = .ok (.invokevirtual 111, 3) := by decide +kernel
theorem dX9_takes_32 : decode cX9_takes 32 = .ok (.iload_n 2, 1) := by decide +kernel
theorem dX9_takes_33 : decode cX9_takes 33 = .ok (.ireturn, 1) := by decide +kernel
theorem dX9_number_0 : decode cX9_number 0 = .ok (.aload_n 0, 1) := by decide +kernel
theorem dX9_number_1 : decode cX9_number 1 = .ok (.aload_n 0, 1) := by decide +kernel
theorem dX9_number_2 : decode cX9_number 2 = .ok (.getfield 98, 3) := by decide +kernel
theorem dX9_number_5 : decode cX9_number 5 = .ok (.iconst 2, 1) := by decide +kernel
theorem dX9_number_6 : decode cX9_number 6 = .ok (.if_icmp .ne 19, 3) := by decide +kernel
theorem dX9_number_9 : decode cX9_number 9 = .ok (.aload_n 0, 1) := by decide +kernel
theorem dX9_number_10 : decode cX9_number 10 = .ok (.getfield 101, 3) := by decide +kernel
theorem dX9_number_13 : decode cX9_number 13 = .ok (.iload_n 1, 1) := by decide +kernel
theorem dX9_number_14 : decode cX9_number 14 = .ok (.iload_n 2, 1) := by decide +kernel
theorem dX9_number_15 : decode cX9_number 15 = .ok (.invokestatic 81, 3) := by decide +kernel
theorem dX9_number_18 : decode cX9_number 18 = .ok (.ifCond .eq 7, 3) := by decide +kernel
theorem dX9_number_21 : decode cX9_number 21 = .ok (.iconst 1, 1) := by decide +kernel
theorem dX9_number_22 : decode cX9_number 22 = .ok (.goto 4, 3) := by decide +kernel
theorem dX9_number_25 : decode cX9_number 25 = .ok (.iconst 0, 1) := by decide +kernel
theorem dX9_number_26 : decode cX9_number 26 = .ok (.invokevirtual 114, 3) := by decide +kernel
theorem dX9_number_29 : decode cX9_number 29 = .ok (.ireturn, 1) := by decide +kernel
theorem dX9_begins_0 : decode cX9_begins 0 = .ok (.aload_n 0, 1) := by decide +kernel
theorem dX9_begins_1 : decode cX9_begins 1 = .ok (.getfield 13, 3) := by decide +kernel
theorem dX9_begins_4 : decode cX9_begins 4 = .ok (.iconst 2, 1) := by decide +kernel
theorem dX9_begins_5 : decode cX9_begins 5 = .ok (.iconst 0, 1) := by decide +kernel
theorem dX9_begins_6 : decode cX9_begins 6 = .ok (.iastore, 1) := by decide +kernel
theorem dX9_begins_7 : decode cX9_begins 7 = .ok (.aload_n 0, 1) := by decide +kernel
theorem dX9_begins_8 : decode cX9_begins 8 = .ok (.getfield 13, 3) := by decide +kernel
theorem dX9_begins_11 : decode cX9_begins 11 = .ok (.iconst 3, 1) := by decide +kernel
theorem dX9_begins_12 : decode cX9_begins 12 = .ok (.iconst 0, 1) := by decide +kernel
theorem dX9_begins_13 : decode cX9_begins 13 = .ok (.iastore, 1) := by decide +kernel
theorem dX9_begins_14 : decode cX9_begins 14 = .ok (.iconst 0, 1) := by decide +kernel
theorem dX9_begins_15 : decode cX9_begins 15 = .ok (.istore_n 1, 1) := by decide +kernel
theorem dX9_begins_16 : decode cX9_begins 16 = .ok (.iload_n 1, 1) := by decide +kernel
theorem dX9_begins_17 : decode cX9_begins 17 = .ok (.iconst 4, 1) := by decide +kernel
theorem dX9_begins_18 : decode cX9_begins 18 = .ok (.if_icmp .ge 24, 3) := by decide +kernel
theorem dX9_begins_21 : decode cX9_begins 21 = .ok (.aload_n 0, 1) := by decide +kernel
theorem dX9_begins_22 : decode cX9_begins 22 = .ok (.getfield 16, 3) := by decide +kernel
theorem dX9_begins_25 : decode cX9_begins 25 = .ok (.iconst 4, 1) := by decide +kernel
theorem dX9_begins_26 : decode cX9_begins 26 = .ok (.iload_n 1, 1) := by decide +kernel
theorem dX9_begins_27 : decode cX9_begins 27 = .ok (.iadd, 1) := by decide +kernel
theorem dX9_begins_28 : decode cX9_begins 28 = .ok (.iload_n 1, 1) := by decide +kernel
theorem dX9_begins_29 : decode cX9_begins 29 = .ok (.iconst 1, 1) := by decide +kernel
theorem dX9_begins_30 : decode cX9_begins 30 = .ok (.iadd, 1) := by decide +kernel
theorem dX9_begins_31 : decode cX9_begins 31 = .ok (.iload_n 1, 1) := by decide +kernel
theorem dX9_begins_32 : decode cX9_begins 32 = .ok (.iconst 1, 1) := by decide +kernel
theorem dX9_begins_33 : decode cX9_begins 33 = .ok (.iadd, 1) := by decide +kernel
theorem dX9_begins_34 : decode cX9_begins 34 = .ok (.imul, 1) := by decide +kernel
theorem dX9_begins_35 : decode cX9_begins 35 = .ok (.iastore, 1) := by decide +kernel
theorem dX9_begins_36 : decode cX9_begins 36 = .ok (.iinc 1 1, 3) := by decide +kernel
theorem dX9_begins_39 : decode cX9_begins 39 = .ok (.goto (-23), 3) := by decide +kernel
theorem dX9_begins_42 : decode cX9_begins 42 = .ok (.bipush 16, 2) := by decide +kernel
theorem dX9_begins_44 : decode cX9_begins 44 = .ok (.istore_n 1, 1) := by decide +kernel
theorem dX9_begins_45 : decode cX9_begins 45 = .ok (.iload_n 1, 1) := by decide +kernel
theorem dX9_begins_46 : decode cX9_begins 46 = .ok (.bipush 32, 2) := by decide +kernel
theorem dX9_begins_48 : decode cX9_begins 48 = .ok (.if_icmp .ge 16, 3) := by decide +kernel
theorem dX9_begins_51 : decode cX9_begins 51 = .ok (.aload_n 0, 1) := by decide +kernel
theorem dX9_begins_52 : decode cX9_begins 52 = .ok (.getfield 22, 3) := by decide +kernel
theorem dX9_begins_55 : decode cX9_begins 55 = .ok (.iload_n 1, 1) := by decide +kernel
theorem dX9_begins_56 : decode cX9_begins 56 = .ok (.iconst 0, 1) := by decide +kernel
theorem dX9_begins_57 : decode cX9_begins 57 = .ok (.iastore, 1) := by decide +kernel
theorem dX9_begins_58 : decode cX9_begins 58 = .ok (.iinc 1 1, 3) := by decide +kernel
theorem dX9_begins_61 : decode cX9_begins 61 = .ok (.goto (-16), 3) := by decide +kernel
theorem dX9_begins_64 : decode cX9_begins 64 = .ok (.return_, 1) := by decide +kernel
theorem dX9_readsItem_0 : decode cX9_readsItem 0 = .ok (.iload_n 1, 1) := by decide +kernel
theorem dX9_readsItem_1 : decode cX9_readsItem 1 = .ok (.bipush 115, 2) := by decide +kernel
theorem dX9_readsItem_3 : decode cX9_readsItem 3 = .ok (.if_icmp .ne 30, 3) := by decide +kernel
theorem dX9_readsItem_6 : decode cX9_readsItem 6 = .ok (.aload_n 0, 1) := by decide +kernel
theorem dX9_readsItem_7 : decode cX9_readsItem 7 = .ok (.iconst 0, 1) := by decide +kernel
theorem dX9_readsItem_8 : decode cX9_readsItem 8 = .ok (.iconst 3, 1) := by decide +kernel
theorem dX9_readsItem_9 : decode cX9_readsItem 9 = .ok (.invokevirtual 118, 3) := by decide +kernel
theorem dX9_readsItem_12 : decode cX9_readsItem 12 = .ok (.istore_n 2, 1) := by decide +kernel
theorem dX9_readsItem_13 : decode cX9_readsItem 13 = .ok (.aload_n 0, 1) := by decide +kernel
theorem dX9_readsItem_14 : decode cX9_readsItem 14 = .ok (.iconst 1, 1) := by decide +kernel
theorem dX9_readsItem_15 : decode cX9_readsItem 15 = .ok (.bipush 20, 2) := by decide +kernel
theorem dX9_readsItem_17 : decode cX9_readsItem 17 = .ok (.invokevirtual 118, 3) := by decide +kernel
theorem dX9_readsItem_20 : decode cX9_readsItem 20 = .ok (.istore_n 3, 1) := by decide +kernel
theorem dX9_readsItem_21 : decode cX9_readsItem 21 = .ok (.aload_n 0, 1) := by decide +kernel
theorem dX9_readsItem_22 : decode cX9_readsItem 22 = .ok (.getfield 16, 3) := by decide +kernel
theorem dX9_readsItem_25 : decode cX9_readsItem 25 = .ok (.iconst 4, 1) := by decide +kernel
theorem dX9_readsItem_26 : decode cX9_readsItem 26 = .ok (.iload_n 2, 1) := by decide +kernel
theorem dX9_readsItem_27 : decode cX9_readsItem 27 = .ok (.iadd, 1) := by decide +kernel
theorem dX9_readsItem_28 : decode cX9_readsItem 28 = .ok (.iload_n 3, 1) := by decide +kernel
theorem dX9_readsItem_29 : decode cX9_readsItem 29 = .ok (.iastore, 1) := by decide +kernel
theorem dX9_readsItem_30 : decode cX9_readsItem 30 = .ok (.goto 142, 3) := by decide +kernel
theorem dX9_readsItem_33 : decode cX9_readsItem 33 = .ok (.iload_n 1, 1) := by decide +kernel
theorem dX9_readsItem_34 : decode cX9_readsItem 34 = .ok (.bipush 112, 2) := by decide +kernel
theorem dX9_readsItem_36 : decode cX9_readsItem 36 = .ok (.if_icmp .ne 53, 3) := by decide +kernel
theorem dX9_readsItem_39 : decode cX9_readsItem 39 = .ok (.aload_n 0, 1) := by decide +kernel
theorem dX9_readsItem_40 : decode cX9_readsItem 40 = .ok (.getfield 13, 3) := by decide +kernel
theorem dX9_readsItem_43 : decode cX9_readsItem 43 = .ok (.iconst 2, 1) := by decide +kernel
theorem dX9_readsItem_44 : decode cX9_readsItem 44 = .ok (.iaload, 1) := by decide +kernel
theorem dX9_readsItem_45 : decode cX9_readsItem 45 = .ok (.istore_n 2, 1) := by decide +kernel
theorem dX9_readsItem_46 : decode cX9_readsItem 46 = .ok (.iconst 0, 1) := by decide +kernel
theorem dX9_readsItem_47 : decode cX9_readsItem 47 = .ok (.istore_n 3, 1) := by decide +kernel
theorem dX9_readsItem_48 : decode cX9_readsItem 48 = .ok (.iload_n 3, 1) := by decide +kernel
theorem dX9_readsItem_49 : decode cX9_readsItem 49 = .ok (.iconst 4, 1) := by decide +kernel
theorem dX9_readsItem_50 : decode cX9_readsItem 50 = .ok (.if_icmp .ge 26, 3) := by decide +kernel
theorem dX9_readsItem_53 : decode cX9_readsItem 53 = .ok (.aload_n 0, 1) := by decide +kernel
theorem dX9_readsItem_54 : decode cX9_readsItem 54 = .ok (.getfield 19, 3) := by decide +kernel
theorem dX9_readsItem_57 : decode cX9_readsItem 57 = .ok (.iconst 4, 1) := by decide +kernel
theorem dX9_readsItem_58 : decode cX9_readsItem 58 = .ok (.iload_n 2, 1) := by decide +kernel
theorem dX9_readsItem_59 : decode cX9_readsItem 59 = .ok (.imul, 1) := by decide +kernel
theorem dX9_readsItem_60 : decode cX9_readsItem 60 = .ok (.iload_n 3, 1) := by decide +kernel
theorem dX9_readsItem_61 : decode cX9_readsItem 61 = .ok (.iadd, 1) := by decide +kernel
theorem dX9_readsItem_62 : decode cX9_readsItem 62 = .ok (.aload_n 0, 1) := by decide +kernel
theorem dX9_readsItem_63 : decode cX9_readsItem 63 = .ok (.iconst 0, 1) := by decide +kernel
theorem dX9_readsItem_64 : decode cX9_readsItem 64 = .ok (.bipush 9, 2) := by decide +kernel
theorem dX9_readsItem_66 : decode cX9_readsItem 66 = .ok (.invokevirtual 118, 3) := by decide +kernel
theorem dX9_readsItem_69 : decode cX9_readsItem 69 = .ok (.iastore, 1) := by decide +kernel
theorem dX9_readsItem_70 : decode cX9_readsItem 70 = .ok (.iinc 3 1, 3) := by decide +kernel
theorem dX9_readsItem_73 : decode cX9_readsItem 73 = .ok (.goto (-25), 3) := by decide +kernel
theorem dX9_readsItem_76 : decode cX9_readsItem 76 = .ok (.aload_n 0, 1) := by decide +kernel
theorem dX9_readsItem_77 : decode cX9_readsItem 77 = .ok (.getfield 13, 3) := by decide +kernel
theorem dX9_readsItem_80 : decode cX9_readsItem 80 = .ok (.iconst 2, 1) := by decide +kernel
theorem dX9_readsItem_81 : decode cX9_readsItem 81 = .ok (.dup2, 1) := by decide +kernel
theorem dX9_readsItem_82 : decode cX9_readsItem 82 = .ok (.iaload, 1) := by decide +kernel
theorem dX9_readsItem_83 : decode cX9_readsItem 83 = .ok (.iconst 1, 1) := by decide +kernel
theorem dX9_readsItem_84 : decode cX9_readsItem 84 = .ok (.iadd, 1) := by decide +kernel
theorem dX9_readsItem_85 : decode cX9_readsItem 85 = .ok (.iastore, 1) := by decide +kernel
theorem dX9_readsItem_86 : decode cX9_readsItem 86 = .ok (.goto 86, 3) := by decide +kernel
theorem dX9_readsItem_89 : decode cX9_readsItem 89 = .ok (.iload_n 1, 1) := by decide +kernel
theorem dX9_readsItem_90 : decode cX9_readsItem 90 = .ok (.bipush 103, 2) := by decide +kernel
theorem dX9_readsItem_92 : decode cX9_readsItem 92 = .ok (.if_icmp .ne 50, 3) := by decide +kernel
theorem dX9_readsItem_95 : decode cX9_readsItem 95 = .ok (.aload_n 0, 1) := by decide +kernel
theorem dX9_readsItem_96 : decode cX9_readsItem 96 = .ok (.iconst 0, 1) := by decide +kernel
theorem dX9_readsItem_97 : decode cX9_readsItem 97 = .ok (.aload_n 0, 1) := by decide +kernel
theorem dX9_readsItem_98 : decode cX9_readsItem 98 = .ok (.getfield 13, 3) := by decide +kernel
theorem dX9_readsItem_101 : decode cX9_readsItem 101 = .ok (.iconst 2, 1) := by decide +kernel
theorem dX9_readsItem_102 : decode cX9_readsItem 102 = .ok (.iaload, 1) := by decide +kernel
theorem dX9_readsItem_103 : decode cX9_readsItem 103 = .ok (.iconst 1, 1) := by decide +kernel
theorem dX9_readsItem_104 : decode cX9_readsItem 104 = .ok (.isub, 1) := by decide +kernel
theorem dX9_readsItem_105 : decode cX9_readsItem 105 = .ok (.invokevirtual 118, 3) := by decide +kernel
theorem dX9_readsItem_108 : decode cX9_readsItem 108 = .ok (.istore_n 2, 1) := by decide +kernel
theorem dX9_readsItem_109 : decode cX9_readsItem 109 = .ok (.aload_n 0, 1) := by decide +kernel
theorem dX9_readsItem_110 : decode cX9_readsItem 110 = .ok (.iconst 0, 1) := by decide +kernel
theorem dX9_readsItem_111 : decode cX9_readsItem 111 = .ok (.iconst 3, 1) := by decide +kernel
theorem dX9_readsItem_112 : decode cX9_readsItem 112 = .ok (.invokevirtual 118, 3) := by decide +kernel
theorem dX9_readsItem_115 : decode cX9_readsItem 115 = .ok (.istore_n 3, 1) := by decide +kernel
theorem dX9_readsItem_116 : decode cX9_readsItem 116 = .ok (.aload_n 0, 1) := by decide +kernel
theorem dX9_readsItem_117 : decode cX9_readsItem 117 = .ok (.iconst 0, 1) := by decide +kernel
theorem dX9_readsItem_118 : decode cX9_readsItem 118 = .ok (.iconst 3, 1) := by decide +kernel
theorem dX9_readsItem_119 : decode cX9_readsItem 119 = .ok (.invokevirtual 118, 3) := by decide +kernel
theorem dX9_readsItem_122 : decode cX9_readsItem 122 = .ok (.istore 4, 2) := by decide +kernel
theorem dX9_readsItem_124 : decode cX9_readsItem 124 = .ok (.aload_n 0, 1) := by decide +kernel
theorem dX9_readsItem_125 : decode cX9_readsItem 125 = .ok (.getfield 22, 3) := by decide +kernel
theorem dX9_readsItem_128 : decode cX9_readsItem 128 = .ok (.bipush 16, 2) := by decide +kernel
theorem dX9_readsItem_130 : decode cX9_readsItem 130 = .ok (.iconst 4, 1) := by decide +kernel
theorem dX9_readsItem_131 : decode cX9_readsItem 131 = .ok (.iload_n 2, 1) := by decide +kernel
theorem dX9_readsItem_132 : decode cX9_readsItem 132 = .ok (.imul, 1) := by decide +kernel
theorem dX9_readsItem_133 : decode cX9_readsItem 133 = .ok (.iadd, 1) := by decide +kernel
theorem dX9_readsItem_134 : decode cX9_readsItem 134 = .ok (.iload_n 3, 1) := by decide +kernel
theorem dX9_readsItem_135 : decode cX9_readsItem 135 = .ok (.iadd, 1) := by decide +kernel
theorem dX9_readsItem_136 : decode cX9_readsItem 136 = .ok (.iload 4, 2) := by decide +kernel
theorem dX9_readsItem_138 : decode cX9_readsItem 138 = .ok (.iastore, 1) := by decide +kernel
theorem dX9_readsItem_139 : decode cX9_readsItem 139 = .ok (.goto 33, 3) := by decide +kernel
theorem dX9_readsItem_142 : decode cX9_readsItem 142 = .ok (.aload_n 0, 1) := by decide +kernel
theorem dX9_readsItem_143 : decode cX9_readsItem 143 = .ok (.getfield 25, 3) := by decide +kernel
theorem dX9_readsItem_146 : decode cX9_readsItem 146 = .ok (.iconst 5, 1) := by decide +kernel
theorem dX9_readsItem_147 : decode cX9_readsItem 147 = .ok (.aload_n 0, 1) := by decide +kernel
theorem dX9_readsItem_148 : decode cX9_readsItem 148 = .ok (.getfield 13, 3) := by decide +kernel
theorem dX9_readsItem_151 : decode cX9_readsItem 151 = .ok (.iconst 3, 1) := by decide +kernel
theorem dX9_readsItem_152 : decode cX9_readsItem 152 = .ok (.iaload, 1) := by decide +kernel
theorem dX9_readsItem_153 : decode cX9_readsItem 153 = .ok (.iadd, 1) := by decide +kernel
theorem dX9_readsItem_154 : decode cX9_readsItem 154 = .ok (.aload_n 0, 1) := by decide +kernel
theorem dX9_readsItem_155 : decode cX9_readsItem 155 = .ok (.iconst 1, 1) := by decide +kernel
theorem dX9_readsItem_156 : decode cX9_readsItem 156 = .ok (.bipush 60, 2) := by decide +kernel
theorem dX9_readsItem_158 : decode cX9_readsItem 158 = .ok (.invokevirtual 118, 3) := by decide +kernel
theorem dX9_readsItem_161 : decode cX9_readsItem 161 = .ok (.iastore, 1) := by decide +kernel
theorem dX9_readsItem_162 : decode cX9_readsItem 162 = .ok (.aload_n 0, 1) := by decide +kernel
theorem dX9_readsItem_163 : decode cX9_readsItem 163 = .ok (.getfield 13, 3) := by decide +kernel
theorem dX9_readsItem_166 : decode cX9_readsItem 166 = .ok (.iconst 3, 1) := by decide +kernel
theorem dX9_readsItem_167 : decode cX9_readsItem 167 = .ok (.dup2, 1) := by decide +kernel
theorem dX9_readsItem_168 : decode cX9_readsItem 168 = .ok (.iaload, 1) := by decide +kernel
theorem dX9_readsItem_169 : decode cX9_readsItem 169 = .ok (.iconst 1, 1) := by decide +kernel
theorem dX9_readsItem_170 : decode cX9_readsItem 170 = .ok (.iadd, 1) := by decide +kernel
theorem dX9_readsItem_171 : decode cX9_readsItem 171 = .ok (.iastore, 1) := by decide +kernel
theorem dX9_readsItem_172 : decode cX9_readsItem 172 = .ok (.return_, 1) := by decide +kernel
theorem dX9_mayBegin_0 : decode cX9_mayBegin 0 = .ok (.aload_n 0, 1) := by decide +kernel
theorem dX9_mayBegin_1 : decode cX9_mayBegin 1 = .ok (.getfield 101, 3) := by decide +kernel
theorem dX9_mayBegin_4 : decode cX9_mayBegin 4 = .ok (.bipush 112, 2) := by decide +kernel
theorem dX9_mayBegin_6 : decode cX9_mayBegin 6 = .ok (.if_icmp .ne 21, 3) := by decide +kernel
theorem dX9_mayBegin_9 : decode cX9_mayBegin 9 = .ok (.aload_n 0, 1) := by decide +kernel
theorem dX9_mayBegin_10 : decode cX9_mayBegin 10 = .ok (.getfield 13, 3) := by decide +kernel
theorem dX9_mayBegin_13 : decode cX9_mayBegin 13 = .ok (.iconst 2, 1) := by decide +kernel
theorem dX9_mayBegin_14 : decode cX9_mayBegin 14 = .ok (.iaload, 1) := by decide +kernel
theorem dX9_mayBegin_15 : decode cX9_mayBegin 15 = .ok (.iconst 4, 1) := by decide +kernel
theorem dX9_mayBegin_16 : decode cX9_mayBegin 16 = .ok (.if_icmp .ge 7, 3) := by decide +kernel
theorem dX9_mayBegin_19 : decode cX9_mayBegin 19 = .ok (.iconst 1, 1) := by decide +kernel
theorem dX9_mayBegin_20 : decode cX9_mayBegin 20 = .ok (.goto 31, 3) := by decide +kernel
theorem dX9_mayBegin_23 : decode cX9_mayBegin 23 = .ok (.iconst 0, 1) := by decide +kernel
theorem dX9_mayBegin_24 : decode cX9_mayBegin 24 = .ok (.goto 27, 3) := by decide +kernel
theorem dX9_mayBegin_27 : decode cX9_mayBegin 27 = .ok (.aload_n 0, 1) := by decide +kernel
theorem dX9_mayBegin_28 : decode cX9_mayBegin 28 = .ok (.getfield 101, 3) := by decide +kernel
theorem dX9_mayBegin_31 : decode cX9_mayBegin 31 = .ok (.bipush 98, 2) := by decide +kernel
theorem dX9_mayBegin_33 : decode cX9_mayBegin 33 = .ok (.if_icmp .ne 13, 3) := by decide +kernel
theorem dX9_mayBegin_36 : decode cX9_mayBegin 36 = .ok (.aload_n 0, 1) := by decide +kernel
theorem dX9_mayBegin_37 : decode cX9_mayBegin 37 = .ok (.getfield 13, 3) := by decide +kernel
theorem dX9_mayBegin_40 : decode cX9_mayBegin 40 = .ok (.iconst 3, 1) := by decide +kernel
theorem dX9_mayBegin_41 : decode cX9_mayBegin 41 = .ok (.iaload, 1) := by decide +kernel
theorem dX9_mayBegin_42 : decode cX9_mayBegin 42 = .ok (.iconst 5, 1) := by decide +kernel
theorem dX9_mayBegin_43 : decode cX9_mayBegin 43 = .ok (.if_icmp .ge 7, 3) := by decide +kernel
theorem dX9_mayBegin_46 : decode cX9_mayBegin 46 = .ok (.iconst 1, 1) := by decide +kernel
theorem dX9_mayBegin_47 : decode cX9_mayBegin 47 = .ok (.goto 4, 3) := by decide +kernel
theorem dX9_mayBegin_50 : decode cX9_mayBegin 50 = .ok (.iconst 0, 1) := by decide +kernel
theorem dX9_mayBegin_51 : decode cX9_mayBegin 51 = .ok (.ireturn, 1) := by decide +kernel
theorem dX9_shop_0 : decode cX9_shop 0 = .ok (.aload_n 0, 1) := by decide +kernel
theorem dX9_shop_1 : decode cX9_shop 1 = .ok (.iconst 0, 1) := by decide +kernel
theorem dX9_shop_2 : decode cX9_shop 2 = .ok (.putfield 77, 3) := by decide +kernel
theorem dX9_shop_5 : decode cX9_shop 5 = .ok (.aload_n 0, 1) := by decide +kernel
theorem dX9_shop_6 : decode cX9_shop 6 = .ok (.iconst (-1), 1) := by decide +kernel
theorem dX9_shop_7 : decode cX9_shop 7 = .ok (.putfield 104, 3) := by decide +kernel
theorem dX9_shop_10 : decode cX9_shop 10 = .ok (.aload_n 0, 1) := by decide +kernel
theorem dX9_shop_11 : decode cX9_shop 11 = .ok (.iconst 0, 1) := by decide +kernel
theorem dX9_shop_12 : decode cX9_shop 12 = .ok (.putfield 88, 3) := by decide +kernel
theorem dX9_shop_15 : decode cX9_shop 15 = .ok (.aload_n 0, 1) := by decide +kernel
theorem dX9_shop_16 : decode cX9_shop 16 = .ok (.invokevirtual 71, 3) := by decide +kernel
theorem dX9_shop_19 : decode cX9_shop 19 = .ok (.iconst 0, 1) := by decide +kernel
theorem dX9_shop_20 : decode cX9_shop 20 = .ok (.istore_n 1, 1) := by decide +kernel
theorem dX9_shop_21 : decode cX9_shop 21 = .ok (.aload_n 0, 1) := by decide +kernel
theorem dX9_shop_22 : decode cX9_shop 22 = .ok (.invokevirtual 111, 3) := by decide +kernel
theorem dX9_shop_25 : decode cX9_shop 25 = .ok (.aload_n 0, 1) := by decide +kernel
theorem dX9_shop_26 : decode cX9_shop 26 = .ok (.invokevirtual 107, 3) := by decide +kernel
theorem dX9_shop_29 : decode cX9_shop 29 = .ok (.ifCond .eq 71, 3) := by decide +kernel
theorem dX9_shop_32 : decode cX9_shop 32 = .ok (.aload_n 0, 1) := by decide +kernel
theorem dX9_shop_33 : decode cX9_shop 33 = .ok (.getfield 98, 3) := by decide +kernel
theorem dX9_shop_36 : decode cX9_shop 36 = .ok (.ifCond .eq 64, 3) := by decide +kernel
theorem dX9_shop_39 : decode cX9_shop 39 = .ok (.aload_n 0, 1) := by decide +kernel
theorem dX9_shop_40 : decode cX9_shop 40 = .ok (.aload_n 0, 1) := by decide +kernel
theorem dX9_shop_41 : decode cX9_shop 41 = .ok (.getfield 98, 3) := by decide +kernel
theorem dX9_shop_44 : decode cX9_shop 44 = .ok (.iconst 1, 1) := by decide +kernel
theorem dX9_shop_45 : decode cX9_shop 45 = .ok (.if_icmp .ne 14, 3) := by decide +kernel
theorem dX9_shop_48 : decode cX9_shop 48 = .ok (.aload_n 0, 1) := by decide +kernel
theorem dX9_shop_49 : decode cX9_shop 49 = .ok (.invokevirtual 122, 3) := by decide +kernel
theorem dX9_shop_52 : decode cX9_shop 52 = .ok (.ifCond .eq 7, 3) := by decide +kernel
theorem dX9_shop_55 : decode cX9_shop 55 = .ok (.iconst 1, 1) := by decide +kernel
theorem dX9_shop_56 : decode cX9_shop 56 = .ok (.goto 4, 3) := by decide +kernel
theorem dX9_shop_59 : decode cX9_shop 59 = .ok (.iconst 0, 1) := by decide +kernel
theorem dX9_shop_60 : decode cX9_shop 60 = .ok (.invokevirtual 114, 3) := by decide +kernel
theorem dX9_shop_63 : decode cX9_shop 63 = .ok (.istore_n 2, 1) := by decide +kernel
theorem dX9_shop_64 : decode cX9_shop 64 = .ok (.aload_n 0, 1) := by decide +kernel
theorem dX9_shop_65 : decode cX9_shop 65 = .ok (.invokevirtual 107, 3) := by decide +kernel
theorem dX9_shop_68 : decode cX9_shop 68 = .ok (.ifCond .eq 8, 3) := by decide +kernel
theorem dX9_shop_71 : decode cX9_shop 71 = .ok (.aload_n 0, 1) := by decide +kernel
theorem dX9_shop_72 : decode cX9_shop 72 = .ok (.iload_n 2, 1) := by decide +kernel
theorem dX9_shop_73 : decode cX9_shop 73 = .ok (.invokevirtual 125, 3) := by decide +kernel
theorem dX9_shop_76 : decode cX9_shop 76 = .ok (.aload_n 0, 1) := by decide +kernel
theorem dX9_shop_77 : decode cX9_shop 77 = .ok (.aload_n 0, 1) := by decide +kernel
theorem dX9_shop_78 : decode cX9_shop 78 = .ok (.getfield 98, 3) := by decide +kernel
theorem dX9_shop_81 : decode cX9_shop 81 = .ok (.iconst 3, 1) := by decide +kernel
theorem dX9_shop_82 : decode cX9_shop 82 = .ok (.if_icmp .ne 7, 3) := by decide +kernel
theorem dX9_shop_85 : decode cX9_shop 85 = .ok (.iconst 1, 1) := by decide +kernel
theorem dX9_shop_86 : decode cX9_shop 86 = .ok (.goto 4, 3) := by decide +kernel
theorem dX9_shop_89 : decode cX9_shop 89 = .ok (.iconst 0, 1) := by decide +kernel
theorem dX9_shop_90 : decode cX9_shop 90 = .ok (.invokevirtual 114, 3) := by decide +kernel
theorem dX9_shop_93 : decode cX9_shop 93 = .ok (.pop, 1) := by decide +kernel
theorem dX9_shop_94 : decode cX9_shop 94 = .ok (.iinc 1 1, 3) := by decide +kernel
theorem dX9_shop_97 : decode cX9_shop 97 = .ok (.goto (-72), 3) := by decide +kernel
theorem dX9_shop_100 : decode cX9_shop 100 = .ok (.aload_n 0, 1) := by decide +kernel
theorem dX9_shop_101 : decode cX9_shop 101 = .ok (.invokevirtual 107, 3) := by decide +kernel
theorem dX9_shop_104 : decode cX9_shop 104 = .ok (.ifCond .ne 11, 3) := by decide +kernel
theorem dX9_shop_107 : decode cX9_shop 107 = .ok (.bipush (-10), 2) := by decide +kernel
theorem dX9_shop_109 : decode cX9_shop 109 = .ok (.aload_n 0, 1) := by decide +kernel
theorem dX9_shop_110 : decode cX9_shop 110 = .ok (.getfield 104, 3) := by decide +kernel
theorem dX9_shop_113 : decode cX9_shop 113 = .ok (.isub, 1) := by decide +kernel
theorem dX9_shop_114 : decode cX9_shop 114 = .ok (.ireturn, 1) := by decide +kernel
theorem dX9_shop_115 : decode cX9_shop 115 = .ok (.aload_n 0, 1) := by decide +kernel
theorem dX9_shop_116 : decode cX9_shop 116 = .ok (.invokevirtual 74, 3) := by decide +kernel
theorem dX9_shop_119 : decode cX9_shop 119 = .ok (.iload_n 1, 1) := by decide +kernel
theorem dX9_shop_120 : decode cX9_shop 120 = .ok (.ireturn, 1) := by decide +kernel
theorem dX9_settles_0 : decode cX9_settles 0 = .ok (.aload_n 0, 1) := by decide +kernel
theorem dX9_settles_1 : decode cX9_settles 1 = .ok (.getfield 13, 3) := by decide +kernel
theorem dX9_settles_4 : decode cX9_settles 4 = .ok (.iconst 0, 1) := by decide +kernel
theorem dX9_settles_5 : decode cX9_settles 5 = .ok (.aload_n 0, 1) := by decide +kernel
theorem dX9_settles_6 : decode cX9_settles 6 = .ok (.getfield 13, 3) := by decide +kernel
theorem dX9_settles_9 : decode cX9_settles 9 = .ok (.iconst 2, 1) := by decide +kernel
theorem dX9_settles_10 : decode cX9_settles 10 = .ok (.iaload, 1) := by decide +kernel
theorem dX9_settles_11 : decode cX9_settles 11 = .ok (.iastore, 1) := by decide +kernel
theorem dX9_settles_12 : decode cX9_settles 12 = .ok (.aload_n 0, 1) := by decide +kernel
theorem dX9_settles_13 : decode cX9_settles 13 = .ok (.getfield 13, 3) := by decide +kernel
theorem dX9_settles_16 : decode cX9_settles 16 = .ok (.iconst 1, 1) := by decide +kernel
theorem dX9_settles_17 : decode cX9_settles 17 = .ok (.aload_n 0, 1) := by decide +kernel
theorem dX9_settles_18 : decode cX9_settles 18 = .ok (.getfield 13, 3) := by decide +kernel
theorem dX9_settles_21 : decode cX9_settles 21 = .ok (.iconst 3, 1) := by decide +kernel
theorem dX9_settles_22 : decode cX9_settles 22 = .ok (.iaload, 1) := by decide +kernel
theorem dX9_settles_23 : decode cX9_settles 23 = .ok (.iastore, 1) := by decide +kernel
theorem dX9_settles_24 : decode cX9_settles 24 = .ok (.iconst 0, 1) := by decide +kernel
theorem dX9_settles_25 : decode cX9_settles 25 = .ok (.istore_n 1, 1) := by decide +kernel
theorem dX9_settles_26 : decode cX9_settles 26 = .ok (.iload_n 1, 1) := by decide +kernel
theorem dX9_settles_27 : decode cX9_settles 27 = .ok (.iconst 4, 1) := by decide +kernel
theorem dX9_settles_28 : decode cX9_settles 28 = .ok (.if_icmp .ge 23, 3) := by decide +kernel
theorem dX9_settles_31 : decode cX9_settles 31 = .ok (.aload_n 0, 1) := by decide +kernel
theorem dX9_settles_32 : decode cX9_settles 32 = .ok (.getfield 16, 3) := by decide +kernel
theorem dX9_settles_35 : decode cX9_settles 35 = .ok (.iload_n 1, 1) := by decide +kernel
theorem dX9_settles_36 : decode cX9_settles 36 = .ok (.aload_n 0, 1) := by decide +kernel
theorem dX9_settles_37 : decode cX9_settles 37 = .ok (.getfield 16, 3) := by decide +kernel
theorem dX9_settles_40 : decode cX9_settles 40 = .ok (.iconst 4, 1) := by decide +kernel
theorem dX9_settles_41 : decode cX9_settles 41 = .ok (.iload_n 1, 1) := by decide +kernel
theorem dX9_settles_42 : decode cX9_settles 42 = .ok (.iadd, 1) := by decide +kernel
theorem dX9_settles_43 : decode cX9_settles 43 = .ok (.iaload, 1) := by decide +kernel
theorem dX9_settles_44 : decode cX9_settles 44 = .ok (.iastore, 1) := by decide +kernel
theorem dX9_settles_45 : decode cX9_settles 45 = .ok (.iinc 1 1, 3) := by decide +kernel
theorem dX9_settles_48 : decode cX9_settles 48 = .ok (.goto (-22), 3) := by decide +kernel
theorem dX9_settles_51 : decode cX9_settles 51 = .ok (.iconst 0, 1) := by decide +kernel
theorem dX9_settles_52 : decode cX9_settles 52 = .ok (.istore_n 1, 1) := by decide +kernel
theorem dX9_settles_53 : decode cX9_settles 53 = .ok (.iload_n 1, 1) := by decide +kernel
theorem dX9_settles_54 : decode cX9_settles 54 = .ok (.iconst 5, 1) := by decide +kernel
theorem dX9_settles_55 : decode cX9_settles 55 = .ok (.if_icmp .ge 23, 3) := by decide +kernel
theorem dX9_settles_58 : decode cX9_settles 58 = .ok (.aload_n 0, 1) := by decide +kernel
theorem dX9_settles_59 : decode cX9_settles 59 = .ok (.getfield 25, 3) := by decide +kernel
theorem dX9_settles_62 : decode cX9_settles 62 = .ok (.iload_n 1, 1) := by decide +kernel
theorem dX9_settles_63 : decode cX9_settles 63 = .ok (.aload_n 0, 1) := by decide +kernel
theorem dX9_settles_64 : decode cX9_settles 64 = .ok (.getfield 25, 3) := by decide +kernel
theorem dX9_settles_67 : decode cX9_settles 67 = .ok (.iconst 5, 1) := by decide +kernel
theorem dX9_settles_68 : decode cX9_settles 68 = .ok (.iload_n 1, 1) := by decide +kernel
theorem dX9_settles_69 : decode cX9_settles 69 = .ok (.iadd, 1) := by decide +kernel
theorem dX9_settles_70 : decode cX9_settles 70 = .ok (.iaload, 1) := by decide +kernel
theorem dX9_settles_71 : decode cX9_settles 71 = .ok (.iastore, 1) := by decide +kernel
theorem dX9_settles_72 : decode cX9_settles 72 = .ok (.iinc 1 1, 3) := by decide +kernel
theorem dX9_settles_75 : decode cX9_settles 75 = .ok (.goto (-22), 3) := by decide +kernel
theorem dX9_settles_78 : decode cX9_settles 78 = .ok (.iconst 0, 1) := by decide +kernel
theorem dX9_settles_79 : decode cX9_settles 79 = .ok (.istore_n 1, 1) := by decide +kernel
theorem dX9_settles_80 : decode cX9_settles 80 = .ok (.iload_n 1, 1) := by decide +kernel
theorem dX9_settles_81 : decode cX9_settles 81 = .ok (.bipush 23, 2) := by decide +kernel
theorem dX9_settles_83 : decode cX9_settles 83 = .ok (.if_icmp .ge 16, 3) := by decide +kernel
theorem dX9_settles_86 : decode cX9_settles 86 = .ok (.aload_n 0, 1) := by decide +kernel
theorem dX9_settles_87 : decode cX9_settles 87 = .ok (.getfield 28, 3) := by decide +kernel
theorem dX9_settles_90 : decode cX9_settles 90 = .ok (.iload_n 1, 1) := by decide +kernel
theorem dX9_settles_91 : decode cX9_settles 91 = .ok (.iconst 0, 1) := by decide +kernel
theorem dX9_settles_92 : decode cX9_settles 92 = .ok (.iastore, 1) := by decide +kernel
theorem dX9_settles_93 : decode cX9_settles 93 = .ok (.iinc 1 1, 3) := by decide +kernel
theorem dX9_settles_96 : decode cX9_settles 96 = .ok (.goto (-16), 3) := by decide +kernel
theorem dX9_settles_99 : decode cX9_settles 99 = .ok (.iconst 0, 1) := by decide +kernel
theorem dX9_settles_100 : decode cX9_settles 100 = .ok (.istore_n 1, 1) := by decide +kernel
theorem dX9_settles_101 : decode cX9_settles 101 = .ok (.iload_n 1, 1) := by decide +kernel
theorem dX9_settles_102 : decode cX9_settles 102 = .ok (.bipush 16, 2) := by decide +kernel
theorem dX9_settles_104 : decode cX9_settles 104 = .ok (.if_icmp .ge 54, 3) := by decide +kernel
theorem dX9_settles_107 : decode cX9_settles 107 = .ok (.aload_n 0, 1) := by decide +kernel
theorem dX9_settles_108 : decode cX9_settles 108 = .ok (.getfield 22, 3) := by decide +kernel
theorem dX9_settles_111 : decode cX9_settles 111 = .ok (.iload_n 1, 1) := by decide +kernel
theorem dX9_settles_112 : decode cX9_settles 112 = .ok (.aload_n 0, 1) := by decide +kernel
theorem dX9_settles_113 : decode cX9_settles 113 = .ok (.getfield 22, 3) := by decide +kernel
theorem dX9_settles_116 : decode cX9_settles 116 = .ok (.bipush 16, 2) := by decide +kernel
theorem dX9_settles_118 : decode cX9_settles 118 = .ok (.iload_n 1, 1) := by decide +kernel
theorem dX9_settles_119 : decode cX9_settles 119 = .ok (.iadd, 1) := by decide +kernel
theorem dX9_settles_120 : decode cX9_settles 120 = .ok (.iaload, 1) := by decide +kernel
theorem dX9_settles_121 : decode cX9_settles 121 = .ok (.iastore, 1) := by decide +kernel
theorem dX9_settles_122 : decode cX9_settles 122 = .ok (.aload_n 0, 1) := by decide +kernel
theorem dX9_settles_123 : decode cX9_settles 123 = .ok (.getfield 28, 3) := by decide +kernel
theorem dX9_settles_126 : decode cX9_settles 126 = .ok (.iconst 1, 1) := by decide +kernel
theorem dX9_settles_127 : decode cX9_settles 127 = .ok (.iload_n 1, 1) := by decide +kernel
theorem dX9_settles_128 : decode cX9_settles 128 = .ok (.iadd, 1) := by decide +kernel
theorem dX9_settles_129 : decode cX9_settles 129 = .ok (.iload_n 1, 1) := by decide +kernel
theorem dX9_settles_130 : decode cX9_settles 130 = .ok (.iconst 4, 1) := by decide +kernel
theorem dX9_settles_131 : decode cX9_settles 131 = .ok (.aload_n 0, 1) := by decide +kernel
theorem dX9_settles_132 : decode cX9_settles 132 = .ok (.getfield 13, 3) := by decide +kernel
theorem dX9_settles_135 : decode cX9_settles 135 = .ok (.iconst 0, 1) := by decide +kernel
theorem dX9_settles_136 : decode cX9_settles 136 = .ok (.iaload, 1) := by decide +kernel
theorem dX9_settles_137 : decode cX9_settles 137 = .ok (.imul, 1) := by decide +kernel
theorem dX9_settles_138 : decode cX9_settles 138 = .ok (.if_icmp .ge 12, 3) := by decide +kernel
theorem dX9_settles_141 : decode cX9_settles 141 = .ok (.aload_n 0, 1) := by decide +kernel
theorem dX9_settles_142 : decode cX9_settles 142 = .ok (.getfield 19, 3) := by decide +kernel
theorem dX9_settles_145 : decode cX9_settles 145 = .ok (.iload_n 1, 1) := by decide +kernel
theorem dX9_settles_146 : decode cX9_settles 146 = .ok (.iaload, 1) := by decide +kernel
theorem dX9_settles_147 : decode cX9_settles 147 = .ok (.goto 4, 3) := by decide +kernel
theorem dX9_settles_150 : decode cX9_settles 150 = .ok (.iconst 0, 1) := by decide +kernel
theorem dX9_settles_151 : decode cX9_settles 151 = .ok (.iastore, 1) := by decide +kernel
theorem dX9_settles_152 : decode cX9_settles 152 = .ok (.iinc 1 1, 3) := by decide +kernel
theorem dX9_settles_155 : decode cX9_settles 155 = .ok (.goto (-54), 3) := by decide +kernel
theorem dX9_settles_158 : decode cX9_settles 158 = .ok (.aload_n 0, 1) := by decide +kernel
theorem dX9_settles_159 : decode cX9_settles 159 = .ok (.iconst 0, 1) := by decide +kernel
theorem dX9_settles_160 : decode cX9_settles 160 = .ok (.putfield 85, 3) := by decide +kernel
theorem dX9_settles_163 : decode cX9_settles 163 = .ok (.aload_n 0, 1) := by decide +kernel
theorem dX9_settles_164 : decode cX9_settles 164 = .ok (.iconst 0, 1) := by decide +kernel
theorem dX9_settles_165 : decode cX9_settles 165 = .ok (.putfield 129, 3) := by decide +kernel
theorem dX9_settles_168 : decode cX9_settles 168 = .ok (.aload_n 0, 1) := by decide +kernel
theorem dX9_settles_169 : decode cX9_settles 169 = .ok (.iconst 0, 1) := by decide +kernel
theorem dX9_settles_170 : decode cX9_settles 170 = .ok (.putfield 132, 3) := by decide +kernel
theorem dX9_settles_173 : decode cX9_settles 173 = .ok (.aload_n 0, 1) := by decide +kernel
theorem dX9_settles_174 : decode cX9_settles 174 = .ok (.iconst 0, 1) := by decide +kernel
theorem dX9_settles_175 : decode cX9_settles 175 = .ok (.putfield 135, 3) := by decide +kernel
theorem dX9_settles_178 : decode cX9_settles 178 = .ok (.aload_n 0, 1) := by decide +kernel
theorem dX9_settles_179 : decode cX9_settles 179 = .ok (.getfield 34, 3) := by decide +kernel
theorem dX9_settles_182 : decode cX9_settles 182 = .ok (.iconst 0, 1) := by decide +kernel
theorem dX9_settles_183 : decode cX9_settles 183 = .ok (.iconst 0, 1) := by decide +kernel
theorem dX9_settles_184 : decode cX9_settles 184 = .ok (.bastore, 1) := by decide +kernel
theorem dX9_settles_185 : decode cX9_settles 185 = .ok (.aload_n 0, 1) := by decide +kernel
theorem dX9_settles_186 : decode cX9_settles 186 = .ok (.getfield 34, 3) := by decide +kernel
theorem dX9_settles_189 : decode cX9_settles 189 = .ok (.iconst 1, 1) := by decide +kernel
theorem dX9_settles_190 : decode cX9_settles 190 = .ok (.iconst 0, 1) := by decide +kernel
theorem dX9_settles_191 : decode cX9_settles 191 = .ok (.bastore, 1) := by decide +kernel
theorem dX9_settles_192 : decode cX9_settles 192 = .ok (.aload_n 0, 1) := by decide +kernel
theorem dX9_settles_193 : decode cX9_settles 193 = .ok (.invokevirtual 138, 3) := by decide +kernel
theorem dX9_settles_196 : decode cX9_settles 196 = .ok (.aload_n 0, 1) := by decide +kernel
theorem dX9_settles_197 : decode cX9_settles 197 = .ok (.invokevirtual 140, 3) := by decide +kernel
theorem dX9_settles_200 : decode cX9_settles 200 = .ok (.return_, 1) := by decide +kernel
theorem dX9_isPerson_0 : decode cX9_isPerson 0 = .ok (.iload_n 1, 1) := by decide +kernel
theorem dX9_isPerson_1 : decode cX9_isPerson 1 = .ok (.iconst 0, 1) := by decide +kernel
theorem dX9_isPerson_2 : decode cX9_isPerson 2 = .ok (.aload_n 0, 1) := by decide +kernel
theorem dX9_isPerson_3 : decode cX9_isPerson 3 = .ok (.getfield 13, 3) := by decide +kernel
theorem dX9_isPerson_6 : decode cX9_isPerson 6 = .ok (.iconst 0, 1) := by decide +kernel
theorem dX9_isPerson_7 : decode cX9_isPerson 7 = .ok (.iaload, 1) := by decide +kernel
theorem dX9_isPerson_8 : decode cX9_isPerson 8 = .ok (.iconst 1, 1) := by decide +kernel
theorem dX9_isPerson_9 : decode cX9_isPerson 9 = .ok (.isub, 1) := by decide +kernel
theorem dX9_isPerson_10 : decode cX9_isPerson 10 = .ok (.invokestatic 81, 3) := by decide +kernel
theorem dX9_isPerson_13 : decode cX9_isPerson 13 = .ok (.ireturn, 1) := by decide +kernel
theorem dX9_isSort_0 : decode cX9_isSort 0 = .ok (.iload_n 0, 1) := by decide +kernel
theorem dX9_isSort_1 : decode cX9_isSort 1 = .ok (.iconst 0, 1) := by decide +kernel
theorem dX9_isSort_2 : decode cX9_isSort 2 = .ok (.iconst 3, 1) := by decide +kernel
theorem dX9_isSort_3 : decode cX9_isSort 3 = .ok (.invokestatic 81, 3) := by decide +kernel
theorem dX9_isSort_6 : decode cX9_isSort 6 = .ok (.ireturn, 1) := by decide +kernel
theorem dX9_isPair_0 : decode cX9_isPair 0 = .ok (.aload_n 0, 1) := by decide +kernel
theorem dX9_isPair_1 : decode cX9_isPair 1 = .ok (.iload_n 1, 1) := by decide +kernel
theorem dX9_isPair_2 : decode cX9_isPair 2 = .ok (.invokevirtual 143, 3) := by decide +kernel
theorem dX9_isPair_5 : decode cX9_isPair 5 = .ok (.ifCond .eq 20, 3) := by decide +kernel
theorem dX9_isPair_8 : decode cX9_isPair 8 = .ok (.aload_n 0, 1) := by decide +kernel
theorem dX9_isPair_9 : decode cX9_isPair 9 = .ok (.iload_n 2, 1) := by decide +kernel
theorem dX9_isPair_10 : decode cX9_isPair 10 = .ok (.invokevirtual 143, 3) := by decide +kernel
theorem dX9_isPair_13 : decode cX9_isPair 13 = .ok (.ifCond .eq 12, 3) := by decide +kernel
theorem dX9_isPair_16 : decode cX9_isPair 16 = .ok (.iload_n 1, 1) := by decide +kernel
theorem dX9_isPair_17 : decode cX9_isPair 17 = .ok (.iload_n 2, 1) := by decide +kernel
theorem dX9_isPair_18 : decode cX9_isPair 18 = .ok (.if_icmp .eq 7, 3) := by decide +kernel
theorem dX9_isPair_21 : decode cX9_isPair 21 = .ok (.iconst 1, 1) := by decide +kernel
theorem dX9_isPair_22 : decode cX9_isPair 22 = .ok (.goto 4, 3) := by decide +kernel
theorem dX9_isPair_25 : decode cX9_isPair 25 = .ok (.iconst 0, 1) := by decide +kernel
theorem dX9_isPair_26 : decode cX9_isPair 26 = .ok (.ireturn, 1) := by decide +kernel
theorem dX9_heaviness_0 : decode cX9_heaviness 0 = .ok (.iconst 0, 1) := by decide +kernel
theorem dX9_heaviness_1 : decode cX9_heaviness 1 = .ok (.istore_n 2, 1) := by decide +kernel
theorem dX9_heaviness_2 : decode cX9_heaviness 2 = .ok (.iconst 0, 1) := by decide +kernel
theorem dX9_heaviness_3 : decode cX9_heaviness 3 = .ok (.istore_n 3, 1) := by decide +kernel
theorem dX9_heaviness_4 : decode cX9_heaviness 4 = .ok (.iload_n 3, 1) := by decide +kernel
theorem dX9_heaviness_5 : decode cX9_heaviness 5 = .ok (.iconst 4, 1) := by decide +kernel
theorem dX9_heaviness_6 : decode cX9_heaviness 6 = .ok (.if_icmp .ge 31, 3) := by decide +kernel
theorem dX9_heaviness_9 : decode cX9_heaviness 9 = .ok (.iload_n 2, 1) := by decide +kernel
theorem dX9_heaviness_10 : decode cX9_heaviness 10 = .ok (.aload_n 0, 1) := by decide +kernel
theorem dX9_heaviness_11 : decode cX9_heaviness 11 = .ok (.getfield 16, 3) := by decide +kernel
theorem dX9_heaviness_14 : decode cX9_heaviness 14 = .ok (.iload_n 3, 1) := by decide +kernel
theorem dX9_heaviness_15 : decode cX9_heaviness 15 = .ok (.iaload, 1) := by decide +kernel
theorem dX9_heaviness_16 : decode cX9_heaviness 16 = .ok (.aload_n 0, 1) := by decide +kernel
theorem dX9_heaviness_17 : decode cX9_heaviness 17 = .ok (.getfield 28, 3) := by decide +kernel
theorem dX9_heaviness_20 : decode cX9_heaviness 20 = .ok (.iconst 1, 1) := by decide +kernel
theorem dX9_heaviness_21 : decode cX9_heaviness 21 = .ok (.iconst 4, 1) := by decide +kernel
theorem dX9_heaviness_22 : decode cX9_heaviness 22 = .ok (.iload_n 1, 1) := by decide +kernel
theorem dX9_heaviness_23 : decode cX9_heaviness 23 = .ok (.imul, 1) := by decide +kernel
theorem dX9_heaviness_24 : decode cX9_heaviness 24 = .ok (.iadd, 1) := by decide +kernel
theorem dX9_heaviness_25 : decode cX9_heaviness 25 = .ok (.iload_n 3, 1) := by decide +kernel
theorem dX9_heaviness_26 : decode cX9_heaviness 26 = .ok (.iadd, 1) := by decide +kernel
theorem dX9_heaviness_27 : decode cX9_heaviness 27 = .ok (.iaload, 1) := by decide +kernel
theorem dX9_heaviness_28 : decode cX9_heaviness 28 = .ok (.imul, 1) := by decide +kernel
theorem dX9_heaviness_29 : decode cX9_heaviness 29 = .ok (.iadd, 1) := by decide +kernel
theorem dX9_heaviness_30 : decode cX9_heaviness 30 = .ok (.istore_n 2, 1) := by decide +kernel
theorem dX9_heaviness_31 : decode cX9_heaviness 31 = .ok (.iinc 3 1, 3) := by decide +kernel
theorem dX9_heaviness_34 : decode cX9_heaviness 34 = .ok (.goto (-30), 3) := by decide +kernel
theorem dX9_heaviness_37 : decode cX9_heaviness 37 = .ok (.iload_n 2, 1) := by decide +kernel
theorem dX9_heaviness_38 : decode cX9_heaviness 38 = .ok (.ireturn, 1) := by decide +kernel
theorem dX9_holds_0 : decode cX9_holds 0 = .ok (.aload_n 0, 1) := by decide +kernel
theorem dX9_holds_1 : decode cX9_holds 1 = .ok (.iconst 0, 1) := by decide +kernel
theorem dX9_holds_2 : decode cX9_holds 2 = .ok (.putfield 77, 3) := by decide +kernel
theorem dX9_holds_5 : decode cX9_holds 5 = .ok (.aload_n 0, 1) := by decide +kernel
theorem dX9_holds_6 : decode cX9_holds 6 = .ok (.iload_n 1, 1) := by decide +kernel
theorem dX9_holds_7 : decode cX9_holds 7 = .ok (.invokevirtual 143, 3) := by decide +kernel
theorem dX9_holds_10 : decode cX9_holds 10 = .ok (.ifCond .eq 25, 3) := by decide +kernel
theorem dX9_holds_13 : decode cX9_holds 13 = .ok (.iload_n 2, 1) := by decide +kernel
theorem dX9_holds_14 : decode cX9_holds 14 = .ok (.invokestatic 147, 3) := by decide +kernel
theorem dX9_holds_17 : decode cX9_holds 17 = .ok (.ifCond .eq 18, 3) := by decide +kernel
theorem dX9_holds_20 : decode cX9_holds 20 = .ok (.aload_n 0, 1) := by decide +kernel
theorem dX9_holds_21 : decode cX9_holds 21 = .ok (.getfield 28, 3) := by decide +kernel
theorem dX9_holds_24 : decode cX9_holds 24 = .ok (.iconst 1, 1) := by decide +kernel
theorem dX9_holds_25 : decode cX9_holds 25 = .ok (.iconst 4, 1) := by decide +kernel
theorem dX9_holds_26 : decode cX9_holds 26 = .ok (.iload_n 1, 1) := by decide +kernel
theorem dX9_holds_27 : decode cX9_holds 27 = .ok (.imul, 1) := by decide +kernel
theorem dX9_holds_28 : decode cX9_holds 28 = .ok (.iadd, 1) := by decide +kernel
theorem dX9_holds_29 : decode cX9_holds 29 = .ok (.iload_n 2, 1) := by decide +kernel
theorem dX9_holds_30 : decode cX9_holds 30 = .ok (.iadd, 1) := by decide +kernel
theorem dX9_holds_31 : decode cX9_holds 31 = .ok (.iaload, 1) := by decide +kernel
theorem dX9_holds_32 : decode cX9_holds 32 = .ok (.goto 4, 3) := by decide +kernel
theorem dX9_holds_35 : decode cX9_holds 35 = .ok (.iconst (-1), 1) := by decide +kernel
theorem dX9_holds_36 : decode cX9_holds 36 = .ok (.ireturn, 1) := by decide +kernel
theorem dX9_grows_0 : decode cX9_grows 0 = .ok (.aload_n 0, 1) := by decide +kernel
theorem dX9_grows_1 : decode cX9_grows 1 = .ok (.iconst 0, 1) := by decide +kernel
theorem dX9_grows_2 : decode cX9_grows 2 = .ok (.putfield 77, 3) := by decide +kernel
theorem dX9_grows_5 : decode cX9_grows 5 = .ok (.aload_n 0, 1) := by decide +kernel
theorem dX9_grows_6 : decode cX9_grows 6 = .ok (.iload_n 1, 1) := by decide +kernel
theorem dX9_grows_7 : decode cX9_grows 7 = .ok (.invokevirtual 143, 3) := by decide +kernel
theorem dX9_grows_10 : decode cX9_grows 10 = .ok (.ifCond .eq 23, 3) := by decide +kernel
theorem dX9_grows_13 : decode cX9_grows 13 = .ok (.iload_n 2, 1) := by decide +kernel
theorem dX9_grows_14 : decode cX9_grows 14 = .ok (.invokestatic 147, 3) := by decide +kernel
theorem dX9_grows_17 : decode cX9_grows 17 = .ok (.ifCond .eq 16, 3) := by decide +kernel
theorem dX9_grows_20 : decode cX9_grows 20 = .ok (.aload_n 0, 1) := by decide +kernel
theorem dX9_grows_21 : decode cX9_grows 21 = .ok (.getfield 22, 3) := by decide +kernel
theorem dX9_grows_24 : decode cX9_grows 24 = .ok (.iconst 4, 1) := by decide +kernel
theorem dX9_grows_25 : decode cX9_grows 25 = .ok (.iload_n 1, 1) := by decide +kernel
theorem dX9_grows_26 : decode cX9_grows 26 = .ok (.imul, 1) := by decide +kernel
theorem dX9_grows_27 : decode cX9_grows 27 = .ok (.iload_n 2, 1) := by decide +kernel
theorem dX9_grows_28 : decode cX9_grows 28 = .ok (.iadd, 1) := by decide +kernel
theorem dX9_grows_29 : decode cX9_grows 29 = .ok (.iaload, 1) := by decide +kernel
theorem dX9_grows_30 : decode cX9_grows 30 = .ok (.goto 4, 3) := by decide +kernel
theorem dX9_grows_33 : decode cX9_grows 33 = .ok (.iconst (-1), 1) := by decide +kernel
theorem dX9_grows_34 : decode cX9_grows 34 = .ok (.ireturn, 1) := by decide +kernel
theorem dX9_weight_0 : decode cX9_weight 0 = .ok (.aload_n 0, 1) := by decide +kernel
theorem dX9_weight_1 : decode cX9_weight 1 = .ok (.iconst 0, 1) := by decide +kernel
theorem dX9_weight_2 : decode cX9_weight 2 = .ok (.putfield 77, 3) := by decide +kernel
theorem dX9_weight_5 : decode cX9_weight 5 = .ok (.iload_n 1, 1) := by decide +kernel
theorem dX9_weight_6 : decode cX9_weight 6 = .ok (.iconst 0, 1) := by decide +kernel
theorem dX9_weight_7 : decode cX9_weight 7 = .ok (.bipush 8, 2) := by decide +kernel
theorem dX9_weight_9 : decode cX9_weight 9 = .ok (.invokestatic 81, 3) := by decide +kernel
theorem dX9_weight_12 : decode cX9_weight 12 = .ok (.ifCond .ne 5, 3) := by decide +kernel
theorem dX9_weight_15 : decode cX9_weight 15 = .ok (.iconst (-1), 1) := by decide +kernel
theorem dX9_weight_16 : decode cX9_weight 16 = .ok (.ireturn, 1) := by decide +kernel
theorem dX9_weight_17 : decode cX9_weight 17 = .ok (.iload_n 1, 1) := by decide +kernel
theorem dX9_weight_18 : decode cX9_weight 18 = .ok (.iconst 4, 1) := by decide +kernel
theorem dX9_weight_19 : decode cX9_weight 19 = .ok (.if_icmp .ge 12, 3) := by decide +kernel
theorem dX9_weight_22 : decode cX9_weight 22 = .ok (.aload_n 0, 1) := by decide +kernel
theorem dX9_weight_23 : decode cX9_weight 23 = .ok (.getfield 16, 3) := by decide +kernel
theorem dX9_weight_26 : decode cX9_weight 26 = .ok (.iload_n 1, 1) := by decide +kernel
theorem dX9_weight_27 : decode cX9_weight 27 = .ok (.iaload, 1) := by decide +kernel
theorem dX9_weight_28 : decode cX9_weight 28 = .ok (.goto 28, 3) := by decide +kernel
theorem dX9_weight_31 : decode cX9_weight 31 = .ok (.iload_n 1, 1) := by decide +kernel
theorem dX9_weight_32 : decode cX9_weight 32 = .ok (.iconst 4, 1) := by decide +kernel
theorem dX9_weight_33 : decode cX9_weight 33 = .ok (.isub, 1) := by decide +kernel
theorem dX9_weight_34 : decode cX9_weight 34 = .ok (.aload_n 0, 1) := by decide +kernel
theorem dX9_weight_35 : decode cX9_weight 35 = .ok (.getfield 13, 3) := by decide +kernel
theorem dX9_weight_38 : decode cX9_weight 38 = .ok (.iconst 1, 1) := by decide +kernel
theorem dX9_weight_39 : decode cX9_weight 39 = .ok (.iaload, 1) := by decide +kernel
theorem dX9_weight_40 : decode cX9_weight 40 = .ok (.if_icmp .ge 14, 3) := by decide +kernel
theorem dX9_weight_43 : decode cX9_weight 43 = .ok (.aload_n 0, 1) := by decide +kernel
theorem dX9_weight_44 : decode cX9_weight 44 = .ok (.getfield 25, 3) := by decide +kernel
theorem dX9_weight_47 : decode cX9_weight 47 = .ok (.iload_n 1, 1) := by decide +kernel
theorem dX9_weight_48 : decode cX9_weight 48 = .ok (.iconst 4, 1) := by decide +kernel
theorem dX9_weight_49 : decode cX9_weight 49 = .ok (.isub, 1) := by decide +kernel
theorem dX9_weight_50 : decode cX9_weight 50 = .ok (.iaload, 1) := by decide +kernel
theorem dX9_weight_51 : decode cX9_weight 51 = .ok (.goto 5, 3) := by decide +kernel
theorem dX9_weight_54 : decode cX9_weight 54 = .ok (.bipush (-9), 2) := by decide +kernel
theorem dX9_weight_56 : decode cX9_weight 56 = .ok (.ireturn, 1) := by decide +kernel
theorem dX9_heavy_0 : decode cX9_heavy 0 = .ok (.aload_n 0, 1) := by decide +kernel
theorem dX9_heavy_1 : decode cX9_heavy 1 = .ok (.iconst 0, 1) := by decide +kernel
theorem dX9_heavy_2 : decode cX9_heavy 2 = .ok (.putfield 77, 3) := by decide +kernel
theorem dX9_heavy_5 : decode cX9_heavy 5 = .ok (.aload_n 0, 1) := by decide +kernel
theorem dX9_heavy_6 : decode cX9_heavy 6 = .ok (.iload_n 1, 1) := by decide +kernel
theorem dX9_heavy_7 : decode cX9_heavy 7 = .ok (.invokevirtual 143, 3) := by decide +kernel
theorem dX9_heavy_10 : decode cX9_heavy 10 = .ok (.ifCond .eq 11, 3) := by decide +kernel
theorem dX9_heavy_13 : decode cX9_heavy 13 = .ok (.aload_n 0, 1) := by decide +kernel
theorem dX9_heavy_14 : decode cX9_heavy 14 = .ok (.iload_n 1, 1) := by decide +kernel
theorem dX9_heavy_15 : decode cX9_heavy 15 = .ok (.invokevirtual 150, 3) := by decide +kernel
theorem dX9_heavy_18 : decode cX9_heavy 18 = .ok (.goto 4, 3) := by decide +kernel
theorem dX9_heavy_21 : decode cX9_heavy 21 = .ok (.iconst (-1), 1) := by decide +kernel
theorem dX9_heavy_22 : decode cX9_heavy 22 = .ok (.ireturn, 1) := by decide +kernel
theorem dX9_pairOf_0 : decode cX9_pairOf 0 = .ok (.iload_n 0, 1) := by decide +kernel
theorem dX9_pairOf_1 : decode cX9_pairOf 1 = .ok (.iload_n 1, 1) := by decide +kernel
theorem dX9_pairOf_2 : decode cX9_pairOf 2 = .ok (.if_icmp .ge 7, 3) := by decide +kernel
theorem dX9_pairOf_5 : decode cX9_pairOf 5 = .ok (.iload_n 0, 1) := by decide +kernel
theorem dX9_pairOf_6 : decode cX9_pairOf 6 = .ok (.goto 4, 3) := by decide +kernel
theorem dX9_pairOf_9 : decode cX9_pairOf 9 = .ok (.iload_n 1, 1) := by decide +kernel
theorem dX9_pairOf_10 : decode cX9_pairOf 10 = .ok (.istore_n 2, 1) := by decide +kernel
theorem dX9_pairOf_11 : decode cX9_pairOf 11 = .ok (.iload_n 0, 1) := by decide +kernel
theorem dX9_pairOf_12 : decode cX9_pairOf 12 = .ok (.iload_n 1, 1) := by decide +kernel
theorem dX9_pairOf_13 : decode cX9_pairOf 13 = .ok (.if_icmp .ge 7, 3) := by decide +kernel
theorem dX9_pairOf_16 : decode cX9_pairOf 16 = .ok (.iload_n 1, 1) := by decide +kernel
theorem dX9_pairOf_17 : decode cX9_pairOf 17 = .ok (.goto 4, 3) := by decide +kernel
theorem dX9_pairOf_20 : decode cX9_pairOf 20 = .ok (.iload_n 0, 1) := by decide +kernel
theorem dX9_pairOf_21 : decode cX9_pairOf 21 = .ok (.istore_n 3, 1) := by decide +kernel
theorem dX9_pairOf_22 : decode cX9_pairOf 22 = .ok (.iload_n 2, 1) := by decide +kernel
theorem dX9_pairOf_23 : decode cX9_pairOf 23 = .ok (.ifCond .ne 9, 3) := by decide +kernel
theorem dX9_pairOf_26 : decode cX9_pairOf 26 = .ok (.iload_n 3, 1) := by decide +kernel
theorem dX9_pairOf_27 : decode cX9_pairOf 27 = .ok (.iconst 1, 1) := by decide +kernel
theorem dX9_pairOf_28 : decode cX9_pairOf 28 = .ok (.isub, 1) := by decide +kernel
theorem dX9_pairOf_29 : decode cX9_pairOf 29 = .ok (.goto 6, 3) := by decide +kernel
theorem dX9_pairOf_32 : decode cX9_pairOf 32 = .ok (.iload_n 2, 1) := by decide +kernel
theorem dX9_pairOf_33 : decode cX9_pairOf 33 = .ok (.iload_n 3, 1) := by decide +kernel
theorem dX9_pairOf_34 : decode cX9_pairOf 34 = .ok (.iadd, 1) := by decide +kernel
theorem dX9_pairOf_35 : decode cX9_pairOf 35 = .ok (.ireturn, 1) := by decide +kernel
theorem dX9_lowerOf_0 : decode cX9_lowerOf 0 = .ok (.iload_n 0, 1) := by decide +kernel
theorem dX9_lowerOf_1 : decode cX9_lowerOf 1 = .ok (.iconst 3, 1) := by decide +kernel
theorem dX9_lowerOf_2 : decode cX9_lowerOf 2 = .ok (.if_icmp .ge 7, 3) := by decide +kernel
theorem dX9_lowerOf_5 : decode cX9_lowerOf 5 = .ok (.iconst 0, 1) := by decide +kernel
theorem dX9_lowerOf_6 : decode cX9_lowerOf 6 = .ok (.goto 13, 3) := by decide +kernel
theorem dX9_lowerOf_9 : decode cX9_lowerOf 9 = .ok (.iload_n 0, 1) := by decide +kernel
theorem dX9_lowerOf_10 : decode cX9_lowerOf 10 = .ok (.iconst 5, 1) := by decide +kernel
theorem dX9_lowerOf_11 : decode cX9_lowerOf 11 = .ok (.if_icmp .ge 7, 3) := by decide +kernel
theorem dX9_lowerOf_14 : decode cX9_lowerOf 14 = .ok (.iconst 1, 1) := by decide +kernel
theorem dX9_lowerOf_15 : decode cX9_lowerOf 15 = .ok (.goto 4, 3) := by decide +kernel
theorem dX9_lowerOf_18 : decode cX9_lowerOf 18 = .ok (.iconst 2, 1) := by decide +kernel
theorem dX9_lowerOf_19 : decode cX9_lowerOf 19 = .ok (.ireturn, 1) := by decide +kernel
theorem dX9_upperOf_0 : decode cX9_upperOf 0 = .ok (.iload_n 0, 1) := by decide +kernel
theorem dX9_upperOf_1 : decode cX9_upperOf 1 = .ok (.iconst 3, 1) := by decide +kernel
theorem dX9_upperOf_2 : decode cX9_upperOf 2 = .ok (.if_icmp .ge 9, 3) := by decide +kernel
theorem dX9_upperOf_5 : decode cX9_upperOf 5 = .ok (.iload_n 0, 1) := by decide +kernel
theorem dX9_upperOf_6 : decode cX9_upperOf 6 = .ok (.iconst 1, 1) := by decide +kernel
theorem dX9_upperOf_7 : decode cX9_upperOf 7 = .ok (.iadd, 1) := by decide +kernel
theorem dX9_upperOf_8 : decode cX9_upperOf 8 = .ok (.goto 15, 3) := by decide +kernel
theorem dX9_upperOf_11 : decode cX9_upperOf 11 = .ok (.iload_n 0, 1) := by decide +kernel
theorem dX9_upperOf_12 : decode cX9_upperOf 12 = .ok (.iconst 5, 1) := by decide +kernel
theorem dX9_upperOf_13 : decode cX9_upperOf 13 = .ok (.if_icmp .ge 9, 3) := by decide +kernel
theorem dX9_upperOf_16 : decode cX9_upperOf 16 = .ok (.iload_n 0, 1) := by decide +kernel
theorem dX9_upperOf_17 : decode cX9_upperOf 17 = .ok (.iconst 1, 1) := by decide +kernel
theorem dX9_upperOf_18 : decode cX9_upperOf 18 = .ok (.isub, 1) := by decide +kernel
theorem dX9_upperOf_19 : decode cX9_upperOf 19 = .ok (.goto 4, 3) := by decide +kernel
theorem dX9_upperOf_22 : decode cX9_upperOf 22 = .ok (.iconst 3, 1) := by decide +kernel
theorem dX9_upperOf_23 : decode cX9_upperOf 23 = .ok (.ireturn, 1) := by decide +kernel
theorem dX9_isPairNumber_0 : decode cX9_isPairNumber 0 = .ok (.iload_n 1, 1) := by decide +kernel
theorem dX9_isPairNumber_1 : decode cX9_isPairNumber 1 = .ok (.invokestatic 153, 3) := by decide +kernel
theorem dX9_isPairNumber_4 : decode cX9_isPairNumber 4 = .ok (.aload_n 0, 1) := by decide +kernel
theorem dX9_isPairNumber_5 : decode cX9_isPairNumber 5 = .ok (.getfield 13, 3) := by decide +kernel
theorem dX9_isPairNumber_8 : decode cX9_isPairNumber 8 = .ok (.iconst 0, 1) := by decide +kernel
theorem dX9_isPairNumber_9 : decode cX9_isPairNumber 9 = .ok (.iaload, 1) := by decide +kernel
theorem dX9_isPairNumber_10 : decode cX9_isPairNumber 10 = .ok (.if_icmp .ge 7, 3) := by decide +kernel
theorem dX9_isPairNumber_13 : decode cX9_isPairNumber 13 = .ok (.iconst 1, 1) := by decide +kernel
theorem dX9_isPairNumber_14 : decode cX9_isPairNumber 14 = .ok (.goto 4, 3) := by decide +kernel
theorem dX9_isPairNumber_17 : decode cX9_isPairNumber 17 = .ok (.iconst 0, 1) := by decide +kernel
theorem dX9_isPairNumber_18 : decode cX9_isPairNumber 18 = .ok (.ireturn, 1) := by decide +kernel
theorem dX9_turned_0 : decode cX9_turned 0 = .ok (.iload_n 0, 1) := by decide +kernel
theorem dX9_turned_1 : decode cX9_turned 1 = .ok (.ifCond .ne 7, 3) := by decide +kernel
theorem dX9_turned_4 : decode cX9_turned 4 = .ok (.iconst 0, 1) := by decide +kernel
theorem dX9_turned_5 : decode cX9_turned 5 = .ok (.goto 6, 3) := by decide +kernel
theorem dX9_turned_8 : decode cX9_turned 8 = .ok (.iconst 3, 1) := by decide +kernel
theorem dX9_turned_9 : decode cX9_turned 9 = .ok (.iload_n 0, 1) := by decide +kernel
theorem dX9_turned_10 : decode cX9_turned 10 = .ok (.isub, 1) := by decide +kernel
theorem dX9_turned_11 : decode cX9_turned 11 = .ok (.ireturn, 1) := by decide +kernel
theorem dX9_known_0 : decode cX9_known 0 = .ok (.aload_n 0, 1) := by decide +kernel
theorem dX9_known_1 : decode cX9_known 1 = .ok (.iconst 0, 1) := by decide +kernel
theorem dX9_known_2 : decode cX9_known 2 = .ok (.putfield 77, 3) := by decide +kernel
theorem dX9_known_5 : decode cX9_known 5 = .ok (.aload_n 0, 1) := by decide +kernel
theorem dX9_known_6 : decode cX9_known 6 = .ok (.iload_n 1, 1) := by decide +kernel
theorem dX9_known_7 : decode cX9_known 7 = .ok (.iload_n 2, 1) := by decide +kernel
theorem dX9_known_8 : decode cX9_known 8 = .ok (.invokevirtual 156, 3) := by decide +kernel
theorem dX9_known_11 : decode cX9_known 11 = .ok (.ifCond .ne 5, 3) := by decide +kernel
theorem dX9_known_14 : decode cX9_known 14 = .ok (.iconst (-1), 1) := by decide +kernel
theorem dX9_known_15 : decode cX9_known 15 = .ok (.ireturn, 1) := by decide +kernel
theorem dX9_known_16 : decode cX9_known 16 = .ok (.aload_n 0, 1) := by decide +kernel
theorem dX9_known_17 : decode cX9_known 17 = .ok (.getfield 28, 3) := by decide +kernel
theorem dX9_known_20 : decode cX9_known 20 = .ok (.bipush 17, 2) := by decide +kernel
theorem dX9_known_22 : decode cX9_known 22 = .ok (.iload_n 1, 1) := by decide +kernel
theorem dX9_known_23 : decode cX9_known 23 = .ok (.iload_n 2, 1) := by decide +kernel
theorem dX9_known_24 : decode cX9_known 24 = .ok (.invokestatic 160, 3) := by decide +kernel
theorem dX9_known_27 : decode cX9_known 27 = .ok (.iadd, 1) := by decide +kernel
theorem dX9_known_28 : decode cX9_known 28 = .ok (.iaload, 1) := by decide +kernel
theorem dX9_known_29 : decode cX9_known 29 = .ok (.iconst 1, 1) := by decide +kernel
theorem dX9_known_30 : decode cX9_known 30 = .ok (.isub, 1) := by decide +kernel
theorem dX9_known_31 : decode cX9_known 31 = .ok (.istore_n 3, 1) := by decide +kernel
theorem dX9_known_32 : decode cX9_known 32 = .ok (.iload_n 3, 1) := by decide +kernel
theorem dX9_known_33 : decode cX9_known 33 = .ok (.ifCond .ge 8, 3) := by decide +kernel
theorem dX9_known_36 : decode cX9_known 36 = .ok (.bipush (-9), 2) := by decide +kernel
theorem dX9_known_38 : decode cX9_known 38 = .ok (.goto 16, 3) := by decide +kernel
theorem dX9_known_41 : decode cX9_known 41 = .ok (.iload_n 1, 1) := by decide +kernel
theorem dX9_known_42 : decode cX9_known 42 = .ok (.iload_n 2, 1) := by decide +kernel
theorem dX9_known_43 : decode cX9_known 43 = .ok (.if_icmp .ge 7, 3) := by decide +kernel
theorem dX9_known_46 : decode cX9_known 46 = .ok (.iload_n 3, 1) := by decide +kernel
theorem dX9_known_47 : decode cX9_known 47 = .ok (.goto 7, 3) := by decide +kernel
theorem dX9_known_50 : decode cX9_known 50 = .ok (.iload_n 3, 1) := by decide +kernel
theorem dX9_known_51 : decode cX9_known 51 = .ok (.invokestatic 163, 3) := by decide +kernel
theorem dX9_known_54 : decode cX9_known 54 = .ok (.ireturn, 1) := by decide +kernel
theorem dX9_orders_0 : decode cX9_orders 0 = .ok (.aload_n 0, 1) := by decide +kernel
theorem dX9_orders_1 : decode cX9_orders 1 = .ok (.iconst 0, 1) := by decide +kernel
theorem dX9_orders_2 : decode cX9_orders 2 = .ok (.putfield 166, 3) := by decide +kernel
theorem dX9_orders_5 : decode cX9_orders 5 = .ok (.aload_n 0, 1) := by decide +kernel
theorem dX9_orders_6 : decode cX9_orders 6 = .ok (.getfield 13, 3) := by decide +kernel
theorem dX9_orders_9 : decode cX9_orders 9 = .ok (.iconst 0, 1) := by decide +kernel
theorem dX9_orders_10 : decode cX9_orders 10 = .ok (.iaload, 1) := by decide +kernel
theorem dX9_orders_11 : decode cX9_orders 11 = .ok (.istore_n 1, 1) := by decide +kernel
theorem dX9_orders_12 : decode cX9_orders 12 = .ok (.iconst 0, 1) := by decide +kernel
theorem dX9_orders_13 : decode cX9_orders 13 = .ok (.istore_n 2, 1) := by decide +kernel
theorem dX9_orders_14 : decode cX9_orders 14 = .ok (.iload_n 2, 1) := by decide +kernel
theorem dX9_orders_15 : decode cX9_orders 15 = .ok (.sipush 256, 3) := by decide +kernel
theorem dX9_orders_18 : decode cX9_orders 18 = .ok (.if_icmp .ge 204, 3) := by decide +kernel
theorem dX9_orders_21 : decode cX9_orders 21 = .ok (.iconst 0, 1) := by decide +kernel
theorem dX9_orders_22 : decode cX9_orders 22 = .ok (.istore_n 3, 1) := by decide +kernel
theorem dX9_orders_23 : decode cX9_orders 23 = .ok (.iconst 0, 1) := by decide +kernel
theorem dX9_orders_24 : decode cX9_orders 24 = .ok (.istore 4, 2) := by decide +kernel
theorem dX9_orders_26 : decode cX9_orders 26 = .ok (.iconst 0, 1) := by decide +kernel
theorem dX9_orders_27 : decode cX9_orders 27 = .ok (.istore 5, 2) := by decide +kernel
theorem dX9_orders_29 : decode cX9_orders 29 = .ok (.iload 5, 2) := by decide +kernel
theorem dX9_orders_31 : decode cX9_orders 31 = .ok (.iconst 4, 1) := by decide +kernel
theorem dX9_orders_32 : decode cX9_orders 32 = .ok (.if_icmp .ge 55, 3) := by decide +kernel
theorem dX9_orders_35 : decode cX9_orders 35 = .ok (.iload_n 3, 1) := by decide +kernel
theorem dX9_orders_36 : decode cX9_orders 36 = .ok (.iload 5, 2) := by decide +kernel
theorem dX9_orders_38 : decode cX9_orders 38 = .ok (.iload_n 1, 1) := by decide +kernel
theorem dX9_orders_39 : decode cX9_orders 39 = .ok (.if_icmp .ge 16, 3) := by decide +kernel
theorem dX9_orders_42 : decode cX9_orders 42 = .ok (.iconst 1, 1) := by decide +kernel
theorem dX9_orders_43 : decode cX9_orders 43 = .ok (.iload_n 2, 1) := by decide +kernel
theorem dX9_orders_44 : decode cX9_orders 44 = .ok (.iconst 2, 1) := by decide +kernel
theorem dX9_orders_45 : decode cX9_orders 45 = .ok (.iload 5, 2) := by decide +kernel
theorem dX9_orders_47 : decode cX9_orders 47 = .ok (.imul, 1) := by decide +kernel
theorem dX9_orders_48 : decode cX9_orders 48 = .ok (.ishr, 1) := by decide +kernel
theorem dX9_orders_49 : decode cX9_orders 49 = .ok (.iconst 3, 1) := by decide +kernel
theorem dX9_orders_50 : decode cX9_orders 50 = .ok (.iand, 1) := by decide +kernel
theorem dX9_orders_51 : decode cX9_orders 51 = .ok (.ishl, 1) := by decide +kernel
theorem dX9_orders_52 : decode cX9_orders 52 = .ok (.goto 4, 3) := by decide +kernel
theorem dX9_orders_55 : decode cX9_orders 55 = .ok (.iconst 0, 1) := by decide +kernel
theorem dX9_orders_56 : decode cX9_orders 56 = .ok (.ior, 1) := by decide +kernel
theorem dX9_orders_57 : decode cX9_orders 57 = .ok (.istore_n 3, 1) := by decide +kernel
theorem dX9_orders_58 : decode cX9_orders 58 = .ok (.iload 4, 2) := by decide +kernel
theorem dX9_orders_60 : decode cX9_orders 60 = .ok (.iload 5, 2) := by decide +kernel
theorem dX9_orders_62 : decode cX9_orders 62 = .ok (.iload_n 1, 1) := by decide +kernel
theorem dX9_orders_63 : decode cX9_orders 63 = .ok (.if_icmp .ge 7, 3) := by decide +kernel
theorem dX9_orders_66 : decode cX9_orders 66 = .ok (.iconst 0, 1) := by decide +kernel
theorem dX9_orders_67 : decode cX9_orders 67 = .ok (.goto 11, 3) := by decide +kernel
theorem dX9_orders_70 : decode cX9_orders 70 = .ok (.iload_n 2, 1) := by decide +kernel
theorem dX9_orders_71 : decode cX9_orders 71 = .ok (.iconst 2, 1) := by decide +kernel
theorem dX9_orders_72 : decode cX9_orders 72 = .ok (.iload 5, 2) := by decide +kernel
theorem dX9_orders_74 : decode cX9_orders 74 = .ok (.imul, 1) := by decide +kernel
theorem dX9_orders_75 : decode cX9_orders 75 = .ok (.ishr, 1) := by decide +kernel
theorem dX9_orders_76 : decode cX9_orders 76 = .ok (.iconst 3, 1) := by decide +kernel
theorem dX9_orders_77 : decode cX9_orders 77 = .ok (.iand, 1) := by decide +kernel
theorem dX9_orders_78 : decode cX9_orders 78 = .ok (.ior, 1) := by decide +kernel
theorem dX9_orders_79 : decode cX9_orders 79 = .ok (.istore 4, 2) := by decide +kernel
theorem dX9_orders_81 : decode cX9_orders 81 = .ok (.iinc 5 1, 3) := by decide +kernel
theorem dX9_orders_84 : decode cX9_orders 84 = .ok (.goto (-55), 3) := by decide +kernel
theorem dX9_orders_87 : decode cX9_orders 87 = .ok (.iload 4, 2) := by decide +kernel
theorem dX9_orders_89 : decode cX9_orders 89 = .ok (.ifCond .ne 127, 3) := by decide +kernel
theorem dX9_orders_92 : decode cX9_orders 92 = .ok (.iload_n 3, 1) := by decide +kernel
theorem dX9_orders_93 : decode cX9_orders 93 = .ok (.iload_n 3, 1) := by decide +kernel
theorem dX9_orders_94 : decode cX9_orders 94 = .ok (.iconst 1, 1) := by decide +kernel
theorem dX9_orders_95 : decode cX9_orders 95 = .ok (.iadd, 1) := by decide +kernel
theorem dX9_orders_96 : decode cX9_orders 96 = .ok (.iand, 1) := by decide +kernel
theorem dX9_orders_97 : decode cX9_orders 97 = .ok (.ifCond .ne 119, 3) := by decide +kernel
theorem dX9_orders_100 : decode cX9_orders 100 = .ok (.iconst 0, 1) := by decide +kernel
theorem dX9_orders_101 : decode cX9_orders 101 = .ok (.istore 5, 2) := by decide +kernel
theorem dX9_orders_103 : decode cX9_orders 103 = .ok (.iconst 0, 1) := by decide +kernel
theorem dX9_orders_104 : decode cX9_orders 104 = .ok (.istore 6, 2) := by decide +kernel
theorem dX9_orders_106 : decode cX9_orders 106 = .ok (.iload 6, 2) := by decide +kernel
theorem dX9_orders_108 : decode cX9_orders 108 = .ok (.bipush 6, 2) := by decide +kernel
theorem dX9_orders_110 : decode cX9_orders 110 = .ok (.if_icmp .ge 85, 3) := by decide +kernel
theorem dX9_orders_113 : decode cX9_orders 113 = .ok (.iload_n 2, 1) := by decide +kernel
theorem dX9_orders_114 : decode cX9_orders 114 = .ok (.iconst 2, 1) := by decide +kernel
theorem dX9_orders_115 : decode cX9_orders 115 = .ok (.iload 6, 2) := by decide +kernel
theorem dX9_orders_117 : decode cX9_orders 117 = .ok (.invokestatic 169, 3) := by decide +kernel
theorem dX9_orders_120 : decode cX9_orders 120 = .ok (.imul, 1) := by decide +kernel
theorem dX9_orders_121 : decode cX9_orders 121 = .ok (.ishr, 1) := by decide +kernel
theorem dX9_orders_122 : decode cX9_orders 122 = .ok (.iconst 3, 1) := by decide +kernel
theorem dX9_orders_123 : decode cX9_orders 123 = .ok (.iand, 1) := by decide +kernel
theorem dX9_orders_124 : decode cX9_orders 124 = .ok (.istore 7, 2) := by decide +kernel
theorem dX9_orders_126 : decode cX9_orders 126 = .ok (.iload_n 2, 1) := by decide +kernel
theorem dX9_orders_127 : decode cX9_orders 127 = .ok (.iconst 2, 1) := by decide +kernel
theorem dX9_orders_128 : decode cX9_orders 128 = .ok (.iload 6, 2) := by decide +kernel
theorem dX9_orders_130 : decode cX9_orders 130 = .ok (.invokestatic 153, 3) := by decide +kernel
theorem dX9_orders_133 : decode cX9_orders 133 = .ok (.imul, 1) := by decide +kernel
theorem dX9_orders_134 : decode cX9_orders 134 = .ok (.ishr, 1) := by decide +kernel
theorem dX9_orders_135 : decode cX9_orders 135 = .ok (.iconst 3, 1) := by decide +kernel
theorem dX9_orders_136 : decode cX9_orders 136 = .ok (.iand, 1) := by decide +kernel
theorem dX9_orders_137 : decode cX9_orders 137 = .ok (.istore 8, 2) := by decide +kernel
theorem dX9_orders_139 : decode cX9_orders 139 = .ok (.iload 7, 2) := by decide +kernel
theorem dX9_orders_141 : decode cX9_orders 141 = .ok (.iload 8, 2) := by decide +kernel
theorem dX9_orders_143 : decode cX9_orders 143 = .ok (.if_icmp .le 7, 3) := by decide +kernel
theorem dX9_orders_146 : decode cX9_orders 146 = .ok (.iconst 2, 1) := by decide +kernel
theorem dX9_orders_147 : decode cX9_orders 147 = .ok (.goto 15, 3) := by decide +kernel
theorem dX9_orders_150 : decode cX9_orders 150 = .ok (.iload 7, 2) := by decide +kernel
theorem dX9_orders_152 : decode cX9_orders 152 = .ok (.iload 8, 2) := by decide +kernel
theorem dX9_orders_154 : decode cX9_orders 154 = .ok (.if_icmp .ge 7, 3) := by decide +kernel
theorem dX9_orders_157 : decode cX9_orders 157 = .ok (.iconst 3, 1) := by decide +kernel
theorem dX9_orders_158 : decode cX9_orders 158 = .ok (.goto 4, 3) := by decide +kernel
theorem dX9_orders_161 : decode cX9_orders 161 = .ok (.iconst 1, 1) := by decide +kernel
theorem dX9_orders_162 : decode cX9_orders 162 = .ok (.istore 9, 2) := by decide +kernel
theorem dX9_orders_164 : decode cX9_orders 164 = .ok (.iload 5, 2) := by decide +kernel
theorem dX9_orders_166 : decode cX9_orders 166 = .ok (.aload_n 0, 1) := by decide +kernel
theorem dX9_orders_167 : decode cX9_orders 167 = .ok (.iload 6, 2) := by decide +kernel
theorem dX9_orders_169 : decode cX9_orders 169 = .ok (.invokevirtual 172, 3) := by decide +kernel
theorem dX9_orders_172 : decode cX9_orders 172 = .ok (.ifCond .eq 13, 3) := by decide +kernel
theorem dX9_orders_175 : decode cX9_orders 175 = .ok (.iload 9, 2) := by decide +kernel
theorem dX9_orders_177 : decode cX9_orders 177 = .ok (.iconst 2, 1) := by decide +kernel
theorem dX9_orders_178 : decode cX9_orders 178 = .ok (.iload 6, 2) := by decide +kernel
theorem dX9_orders_180 : decode cX9_orders 180 = .ok (.imul, 1) := by decide +kernel
theorem dX9_orders_181 : decode cX9_orders 181 = .ok (.ishl, 1) := by decide +kernel
theorem dX9_orders_182 : decode cX9_orders 182 = .ok (.goto 4, 3) := by decide +kernel
theorem dX9_orders_185 : decode cX9_orders 185 = .ok (.iconst 0, 1) := by decide +kernel
theorem dX9_orders_186 : decode cX9_orders 186 = .ok (.ior, 1) := by decide +kernel
theorem dX9_orders_187 : decode cX9_orders 187 = .ok (.istore 5, 2) := by decide +kernel
theorem dX9_orders_189 : decode cX9_orders 189 = .ok (.iinc 6 1, 3) := by decide +kernel
theorem dX9_orders_192 : decode cX9_orders 192 = .ok (.goto (-86), 3) := by decide +kernel
theorem dX9_orders_195 : decode cX9_orders 195 = .ok (.aload_n 0, 1) := by decide +kernel
theorem dX9_orders_196 : decode cX9_orders 196 = .ok (.getfield 56, 3) := by decide +kernel
theorem dX9_orders_199 : decode cX9_orders 199 = .ok (.aload_n 0, 1) := by decide +kernel
theorem dX9_orders_200 : decode cX9_orders 200 = .ok (.getfield 166, 3) := by decide +kernel
theorem dX9_orders_203 : decode cX9_orders 203 = .ok (.iload 5, 2) := by decide +kernel
theorem dX9_orders_205 : decode cX9_orders 205 = .ok (.iastore, 1) := by decide +kernel
theorem dX9_orders_206 : decode cX9_orders 206 = .ok (.aload_n 0, 1) := by decide +kernel
theorem dX9_orders_207 : decode cX9_orders 207 = .ok (.dup, 1) := by decide +kernel
theorem dX9_orders_208 : decode cX9_orders 208 = .ok (.getfield 166, 3) := by decide +kernel
theorem dX9_orders_211 : decode cX9_orders 211 = .ok (.iconst 1, 1) := by decide +kernel
theorem dX9_orders_212 : decode cX9_orders 212 = .ok (.iadd, 1) := by decide +kernel
theorem dX9_orders_213 : decode cX9_orders 213 = .ok (.putfield 166, 3) := by decide +kernel
theorem dX9_orders_216 : decode cX9_orders 216 = .ok (.iinc 2 1, 3) := by decide +kernel
theorem dX9_orders_219 : decode cX9_orders 219 = .ok (.goto (-205), 3) := by decide +kernel
theorem dX9_orders_222 : decode cX9_orders 222 = .ok (.return_, 1) := by decide +kernel
theorem dX9_worsts_0 : decode cX9_worsts 0 = .ok (.sipush 4095, 3) := by decide +kernel
theorem dX9_worsts_3 : decode cX9_worsts 3 = .ok (.istore_n 1, 1) := by decide +kernel
theorem dX9_worsts_4 : decode cX9_worsts 4 = .ok (.iload_n 1, 1) := by decide +kernel
theorem dX9_worsts_5 : decode cX9_worsts 5 = .ok (.ifCond .lt 163, 3) := by decide +kernel
theorem dX9_worsts_8 : decode cX9_worsts 8 = .ok (.iconst 0, 1) := by decide +kernel
theorem dX9_worsts_9 : decode cX9_worsts 9 = .ok (.istore_n 2, 1) := by decide +kernel
theorem dX9_worsts_10 : decode cX9_worsts 10 = .ok (.iconst 0, 1) := by decide +kernel
theorem dX9_worsts_11 : decode cX9_worsts 11 = .ok (.istore_n 3, 1) := by decide +kernel
theorem dX9_worsts_12 : decode cX9_worsts 12 = .ok (.iload_n 3, 1) := by decide +kernel
theorem dX9_worsts_13 : decode cX9_worsts 13 = .ok (.bipush 6, 2) := by decide +kernel
theorem dX9_worsts_15 : decode cX9_worsts 15 = .ok (.if_icmp .ge 31, 3) := by decide +kernel
theorem dX9_worsts_18 : decode cX9_worsts 18 = .ok (.iload_n 2, 1) := by decide +kernel
theorem dX9_worsts_19 : decode cX9_worsts 19 = .ok (.iload_n 1, 1) := by decide +kernel
theorem dX9_worsts_20 : decode cX9_worsts 20 = .ok (.iconst 2, 1) := by decide +kernel
theorem dX9_worsts_21 : decode cX9_worsts 21 = .ok (.iload_n 3, 1) := by decide +kernel
theorem dX9_worsts_22 : decode cX9_worsts 22 = .ok (.imul, 1) := by decide +kernel
theorem dX9_worsts_23 : decode cX9_worsts 23 = .ok (.ishr, 1) := by decide +kernel
theorem dX9_worsts_24 : decode cX9_worsts 24 = .ok (.iconst 3, 1) := by decide +kernel
theorem dX9_worsts_25 : decode cX9_worsts 25 = .ok (.iand, 1) := by decide +kernel
theorem dX9_worsts_26 : decode cX9_worsts 26 = .ok (.ifCond .ne 7, 3) := by decide +kernel
theorem dX9_worsts_29 : decode cX9_worsts 29 = .ok (.iconst 0, 1) := by decide +kernel
theorem dX9_worsts_30 : decode cX9_worsts 30 = .ok (.goto 8, 3) := by decide +kernel
theorem dX9_worsts_33 : decode cX9_worsts 33 = .ok (.iconst 3, 1) := by decide +kernel
theorem dX9_worsts_34 : decode cX9_worsts 34 = .ok (.iconst 2, 1) := by decide +kernel
theorem dX9_worsts_35 : decode cX9_worsts 35 = .ok (.iload_n 3, 1) := by decide +kernel
theorem dX9_worsts_36 : decode cX9_worsts 36 = .ok (.imul, 1) := by decide +kernel
theorem dX9_worsts_37 : decode cX9_worsts 37 = .ok (.ishl, 1) := by decide +kernel
theorem dX9_worsts_38 : decode cX9_worsts 38 = .ok (.ior, 1) := by decide +kernel
theorem dX9_worsts_39 : decode cX9_worsts 39 = .ok (.istore_n 2, 1) := by decide +kernel
theorem dX9_worsts_40 : decode cX9_worsts 40 = .ok (.iinc 3 1, 3) := by decide +kernel
theorem dX9_worsts_43 : decode cX9_worsts 43 = .ok (.goto (-31), 3) := by decide +kernel
theorem dX9_worsts_46 : decode cX9_worsts 46 = .ok (.iconst 0, 1) := by decide +kernel
theorem dX9_worsts_47 : decode cX9_worsts 47 = .ok (.istore_n 3, 1) := by decide +kernel
theorem dX9_worsts_48 : decode cX9_worsts 48 = .ok (.iconst 0, 1) := by decide +kernel
theorem dX9_worsts_49 : decode cX9_worsts 49 = .ok (.istore 4, 2) := by decide +kernel
theorem dX9_worsts_51 : decode cX9_worsts 51 = .ok (.iload 4, 2) := by decide +kernel
theorem dX9_worsts_53 : decode cX9_worsts 53 = .ok (.aload_n 0, 1) := by decide +kernel
theorem dX9_worsts_54 : decode cX9_worsts 54 = .ok (.getfield 166, 3) := by decide +kernel
theorem dX9_worsts_57 : decode cX9_worsts 57 = .ok (.if_icmp .ge 31, 3) := by decide +kernel
theorem dX9_worsts_60 : decode cX9_worsts 60 = .ok (.iload_n 3, 1) := by decide +kernel
theorem dX9_worsts_61 : decode cX9_worsts 61 = .ok (.aload_n 0, 1) := by decide +kernel
theorem dX9_worsts_62 : decode cX9_worsts 62 = .ok (.getfield 56, 3) := by decide +kernel
theorem dX9_worsts_65 : decode cX9_worsts 65 = .ok (.iload 4, 2) := by decide +kernel
theorem dX9_worsts_67 : decode cX9_worsts 67 = .ok (.iaload, 1) := by decide +kernel
theorem dX9_worsts_68 : decode cX9_worsts 68 = .ok (.iload_n 1, 1) := by decide +kernel
theorem dX9_worsts_69 : decode cX9_worsts 69 = .ok (.ixor, 1) := by decide +kernel
theorem dX9_worsts_70 : decode cX9_worsts 70 = .ok (.iload_n 2, 1) := by decide +kernel
theorem dX9_worsts_71 : decode cX9_worsts 71 = .ok (.iand, 1) := by decide +kernel
theorem dX9_worsts_72 : decode cX9_worsts 72 = .ok (.ifCond .ne 7, 3) := by decide +kernel
theorem dX9_worsts_75 : decode cX9_worsts 75 = .ok (.iconst 1, 1) := by decide +kernel
theorem dX9_worsts_76 : decode cX9_worsts 76 = .ok (.goto 4, 3) := by decide +kernel
theorem dX9_worsts_79 : decode cX9_worsts 79 = .ok (.iconst 0, 1) := by decide +kernel
theorem dX9_worsts_80 : decode cX9_worsts 80 = .ok (.iadd, 1) := by decide +kernel
theorem dX9_worsts_81 : decode cX9_worsts 81 = .ok (.istore_n 3, 1) := by decide +kernel
theorem dX9_worsts_82 : decode cX9_worsts 82 = .ok (.iinc 4 1, 3) := by decide +kernel
theorem dX9_worsts_85 : decode cX9_worsts 85 = .ok (.goto (-34), 3) := by decide +kernel
theorem dX9_worsts_88 : decode cX9_worsts 88 = .ok (.aload_n 0, 1) := by decide +kernel
theorem dX9_worsts_89 : decode cX9_worsts 89 = .ok (.getfield 59, 3) := by decide +kernel
theorem dX9_worsts_92 : decode cX9_worsts 92 = .ok (.iload_n 1, 1) := by decide +kernel
theorem dX9_worsts_93 : decode cX9_worsts 93 = .ok (.iload_n 3, 1) := by decide +kernel
theorem dX9_worsts_94 : decode cX9_worsts 94 = .ok (.iastore, 1) := by decide +kernel
theorem dX9_worsts_95 : decode cX9_worsts 95 = .ok (.ldc 175, 2) := by decide +kernel
theorem dX9_worsts_97 : decode cX9_worsts 97 = .ok (.istore 4, 2) := by decide +kernel
theorem dX9_worsts_99 : decode cX9_worsts 99 = .ok (.iconst 0, 1) := by decide +kernel
theorem dX9_worsts_100 : decode cX9_worsts 100 = .ok (.istore 5, 2) := by decide +kernel
theorem dX9_worsts_102 : decode cX9_worsts 102 = .ok (.iload 5, 2) := by decide +kernel
theorem dX9_worsts_104 : decode cX9_worsts 104 = .ok (.bipush 6, 2) := by decide +kernel
theorem dX9_worsts_106 : decode cX9_worsts 106 = .ok (.if_icmp .ge 39, 3) := by decide +kernel
theorem dX9_worsts_109 : decode cX9_worsts 109 = .ok (.iload_n 3, 1) := by decide +kernel
theorem dX9_worsts_110 : decode cX9_worsts 110 = .ok (.iconst 1, 1) := by decide +kernel
theorem dX9_worsts_111 : decode cX9_worsts 111 = .ok (.if_icmp .le 34, 3) := by decide +kernel
theorem dX9_worsts_114 : decode cX9_worsts 114 = .ok (.aload_n 0, 1) := by decide +kernel
theorem dX9_worsts_115 : decode cX9_worsts 115 = .ok (.iload_n 1, 1) := by decide +kernel
theorem dX9_worsts_116 : decode cX9_worsts 116 = .ok (.iload 5, 2) := by decide +kernel
theorem dX9_worsts_118 : decode cX9_worsts 118 = .ok (.invokevirtual 176, 3) := by decide +kernel
theorem dX9_worsts_121 : decode cX9_worsts 121 = .ok (.istore 6, 2) := by decide +kernel
theorem dX9_worsts_123 : decode cX9_worsts 123 = .ok (.iload 6, 2) := by decide +kernel
theorem dX9_worsts_125 : decode cX9_worsts 125 = .ok (.iload 4, 2) := by decide +kernel
theorem dX9_worsts_127 : decode cX9_worsts 127 = .ok (.if_icmp .ge 8, 3) := by decide +kernel
theorem dX9_worsts_130 : decode cX9_worsts 130 = .ok (.iload 6, 2) := by decide +kernel
theorem dX9_worsts_132 : decode cX9_worsts 132 = .ok (.goto 5, 3) := by decide +kernel
theorem dX9_worsts_135 : decode cX9_worsts 135 = .ok (.iload 4, 2) := by decide +kernel
theorem dX9_worsts_137 : decode cX9_worsts 137 = .ok (.istore 4, 2) := by decide +kernel
theorem dX9_worsts_139 : decode cX9_worsts 139 = .ok (.iinc 5 1, 3) := by decide +kernel
theorem dX9_worsts_142 : decode cX9_worsts 142 = .ok (.goto (-40), 3) := by decide +kernel
theorem dX9_worsts_145 : decode cX9_worsts 145 = .ok (.aload_n 0, 1) := by decide +kernel
theorem dX9_worsts_146 : decode cX9_worsts 146 = .ok (.getfield 62, 3) := by decide +kernel
theorem dX9_worsts_149 : decode cX9_worsts 149 = .ok (.iload_n 1, 1) := by decide +kernel
theorem dX9_worsts_150 : decode cX9_worsts 150 = .ok (.iload_n 3, 1) := by decide +kernel
theorem dX9_worsts_151 : decode cX9_worsts 151 = .ok (.iconst 1, 1) := by decide +kernel
theorem dX9_worsts_152 : decode cX9_worsts 152 = .ok (.if_icmp .le 8, 3) := by decide +kernel
theorem dX9_worsts_155 : decode cX9_worsts 155 = .ok (.iload 4, 2) := by decide +kernel
theorem dX9_worsts_157 : decode cX9_worsts 157 = .ok (.goto 4, 3) := by decide +kernel
theorem dX9_worsts_160 : decode cX9_worsts 160 = .ok (.iconst 0, 1) := by decide +kernel
theorem dX9_worsts_161 : decode cX9_worsts 161 = .ok (.iastore, 1) := by decide +kernel
theorem dX9_worsts_162 : decode cX9_worsts 162 = .ok (.iinc 1 (-1), 3) := by decide +kernel
theorem dX9_worsts_165 : decode cX9_worsts 165 = .ok (.goto (-161), 3) := by decide +kernel
theorem dX9_worsts_168 : decode cX9_worsts 168 = .ok (.return_, 1) := by decide +kernel
theorem dX9_worstBehind_0 : decode cX9_worstBehind 0 = .ok (.aload_n 0, 1) := by decide +kernel
theorem dX9_worstBehind_1 : decode cX9_worstBehind 1 = .ok (.iload_n 2, 1) := by decide +kernel
theorem dX9_worstBehind_2 : decode cX9_worstBehind 2 = .ok (.invokevirtual 172, 3) := by decide +kernel
theorem dX9_worstBehind_5 : decode cX9_worstBehind 5 = .ok (.ifCond .eq 13, 3) := by decide +kernel
theorem dX9_worstBehind_8 : decode cX9_worstBehind 8 = .ok (.iload_n 1, 1) := by decide +kernel
theorem dX9_worstBehind_9 : decode cX9_worstBehind 9 = .ok (.iconst 2, 1) := by decide +kernel
theorem dX9_worstBehind_10 : decode cX9_worstBehind 10 = .ok (.iload_n 2, 1) := by decide +kernel
theorem dX9_worstBehind_11 : decode cX9_worstBehind 11 = .ok (.imul, 1) := by decide +kernel
theorem dX9_worstBehind_12 : decode cX9_worstBehind 12 = .ok (.ishr, 1) := by decide +kernel
theorem dX9_worstBehind_13 : decode cX9_worstBehind 13 = .ok (.iconst 3, 1) := by decide +kernel
theorem dX9_worstBehind_14 : decode cX9_worstBehind 14 = .ok (.iand, 1) := by decide +kernel
theorem dX9_worstBehind_15 : decode cX9_worstBehind 15 = .ok (.ifCond .eq 6, 3) := by decide +kernel
theorem dX9_worstBehind_18 : decode cX9_worstBehind 18 = .ok (.ldc 175, 2) := by decide +kernel
theorem dX9_worstBehind_20 : decode cX9_worstBehind 20 = .ok (.ireturn, 1) := by decide +kernel
theorem dX9_worstBehind_21 : decode cX9_worstBehind 21 = .ok (.iconst 0, 1) := by decide +kernel
theorem dX9_worstBehind_22 : decode cX9_worstBehind 22 = .ok (.istore_n 3, 1) := by decide +kernel
theorem dX9_worstBehind_23 : decode cX9_worstBehind 23 = .ok (.iconst 1, 1) := by decide +kernel
theorem dX9_worstBehind_24 : decode cX9_worstBehind 24 = .ok (.istore 4, 2) := by decide +kernel
theorem dX9_worstBehind_26 : decode cX9_worstBehind 26 = .ok (.iload 4, 2) := by decide +kernel
theorem dX9_worstBehind_28 : decode cX9_worstBehind 28 = .ok (.iconst 4, 1) := by decide +kernel
theorem dX9_worstBehind_29 : decode cX9_worstBehind 29 = .ok (.if_icmp .ge 37, 3) := by decide +kernel
theorem dX9_worstBehind_32 : decode cX9_worstBehind 32 = .ok (.aload_n 0, 1) := by decide +kernel
theorem dX9_worstBehind_33 : decode cX9_worstBehind 33 = .ok (.getfield 62, 3) := by decide +kernel
theorem dX9_worstBehind_36 : decode cX9_worstBehind 36 = .ok (.iload_n 1, 1) := by decide +kernel
theorem dX9_worstBehind_37 : decode cX9_worstBehind 37 = .ok (.iload 4, 2) := by decide +kernel
theorem dX9_worstBehind_39 : decode cX9_worstBehind 39 = .ok (.iconst 2, 1) := by decide +kernel
theorem dX9_worstBehind_40 : decode cX9_worstBehind 40 = .ok (.iload_n 2, 1) := by decide +kernel
theorem dX9_worstBehind_41 : decode cX9_worstBehind 41 = .ok (.imul, 1) := by decide +kernel
theorem dX9_worstBehind_42 : decode cX9_worstBehind 42 = .ok (.ishl, 1) := by decide +kernel
theorem dX9_worstBehind_43 : decode cX9_worstBehind 43 = .ok (.ior, 1) := by decide +kernel
theorem dX9_worstBehind_44 : decode cX9_worstBehind 44 = .ok (.iaload, 1) := by decide +kernel
theorem dX9_worstBehind_45 : decode cX9_worstBehind 45 = .ok (.istore 5, 2) := by decide +kernel
theorem dX9_worstBehind_47 : decode cX9_worstBehind 47 = .ok (.iload 5, 2) := by decide +kernel
theorem dX9_worstBehind_49 : decode cX9_worstBehind 49 = .ok (.iload_n 3, 1) := by decide +kernel
theorem dX9_worstBehind_50 : decode cX9_worstBehind 50 = .ok (.if_icmp .le 8, 3) := by decide +kernel
theorem dX9_worstBehind_53 : decode cX9_worstBehind 53 = .ok (.iload 5, 2) := by decide +kernel
theorem dX9_worstBehind_55 : decode cX9_worstBehind 55 = .ok (.goto 4, 3) := by decide +kernel
theorem dX9_worstBehind_58 : decode cX9_worstBehind 58 = .ok (.iload_n 3, 1) := by decide +kernel
theorem dX9_worstBehind_59 : decode cX9_worstBehind 59 = .ok (.istore_n 3, 1) := by decide +kernel
theorem dX9_worstBehind_60 : decode cX9_worstBehind 60 = .ok (.iinc 4 1, 3) := by decide +kernel
theorem dX9_worstBehind_63 : decode cX9_worstBehind 63 = .ok (.goto (-37), 3) := by decide +kernel
theorem dX9_worstBehind_66 : decode cX9_worstBehind 66 = .ok (.iload_n 3, 1) := by decide +kernel
theorem dX9_worstBehind_67 : decode cX9_worstBehind 67 = .ok (.iconst 1, 1) := by decide +kernel
theorem dX9_worstBehind_68 : decode cX9_worstBehind 68 = .ok (.iadd, 1) := by decide +kernel
theorem dX9_worstBehind_69 : decode cX9_worstBehind 69 = .ok (.ireturn, 1) := by decide +kernel
theorem dX9_codeNow_0 : decode cX9_codeNow 0 = .ok (.iconst 0, 1) := by decide +kernel
theorem dX9_codeNow_1 : decode cX9_codeNow 1 = .ok (.istore_n 1, 1) := by decide +kernel
theorem dX9_codeNow_2 : decode cX9_codeNow 2 = .ok (.iconst 0, 1) := by decide +kernel
theorem dX9_codeNow_3 : decode cX9_codeNow 3 = .ok (.istore_n 2, 1) := by decide +kernel
theorem dX9_codeNow_4 : decode cX9_codeNow 4 = .ok (.iload_n 2, 1) := by decide +kernel
theorem dX9_codeNow_5 : decode cX9_codeNow 5 = .ok (.bipush 6, 2) := by decide +kernel
theorem dX9_codeNow_7 : decode cX9_codeNow 7 = .ok (.if_icmp .ge 25, 3) := by decide +kernel
theorem dX9_codeNow_10 : decode cX9_codeNow 10 = .ok (.iload_n 1, 1) := by decide +kernel
theorem dX9_codeNow_11 : decode cX9_codeNow 11 = .ok (.aload_n 0, 1) := by decide +kernel
theorem dX9_codeNow_12 : decode cX9_codeNow 12 = .ok (.getfield 28, 3) := by decide +kernel
theorem dX9_codeNow_15 : decode cX9_codeNow 15 = .ok (.bipush 17, 2) := by decide +kernel
theorem dX9_codeNow_17 : decode cX9_codeNow 17 = .ok (.iload_n 2, 1) := by decide +kernel
theorem dX9_codeNow_18 : decode cX9_codeNow 18 = .ok (.iadd, 1) := by decide +kernel
theorem dX9_codeNow_19 : decode cX9_codeNow 19 = .ok (.iaload, 1) := by decide +kernel
theorem dX9_codeNow_20 : decode cX9_codeNow 20 = .ok (.iconst 2, 1) := by decide +kernel
theorem dX9_codeNow_21 : decode cX9_codeNow 21 = .ok (.iload_n 2, 1) := by decide +kernel
theorem dX9_codeNow_22 : decode cX9_codeNow 22 = .ok (.imul, 1) := by decide +kernel
theorem dX9_codeNow_23 : decode cX9_codeNow 23 = .ok (.ishl, 1) := by decide +kernel
theorem dX9_codeNow_24 : decode cX9_codeNow 24 = .ok (.ior, 1) := by decide +kernel
theorem dX9_codeNow_25 : decode cX9_codeNow 25 = .ok (.istore_n 1, 1) := by decide +kernel
theorem dX9_codeNow_26 : decode cX9_codeNow 26 = .ok (.iinc 2 1, 3) := by decide +kernel
theorem dX9_codeNow_29 : decode cX9_codeNow 29 = .ok (.goto (-25), 3) := by decide +kernel
theorem dX9_codeNow_32 : decode cX9_codeNow 32 = .ok (.iload_n 1, 1) := by decide +kernel
theorem dX9_codeNow_33 : decode cX9_codeNow 33 = .ok (.ireturn, 1) := by decide +kernel
theorem dX9_nextPair_0 : decode cX9_nextPair 0 = .ok (.aload_n 0, 1) := by decide +kernel
theorem dX9_nextPair_1 : decode cX9_nextPair 1 = .ok (.invokevirtual 179, 3) := by decide +kernel
theorem dX9_nextPair_4 : decode cX9_nextPair 4 = .ok (.istore_n 1, 1) := by decide +kernel
theorem dX9_nextPair_5 : decode cX9_nextPair 5 = .ok (.bipush (-9), 2) := by decide +kernel
theorem dX9_nextPair_7 : decode cX9_nextPair 7 = .ok (.istore_n 2, 1) := by decide +kernel
theorem dX9_nextPair_8 : decode cX9_nextPair 8 = .ok (.ldc 175, 2) := by decide +kernel
theorem dX9_nextPair_10 : decode cX9_nextPair 10 = .ok (.istore_n 3, 1) := by decide +kernel
theorem dX9_nextPair_11 : decode cX9_nextPair 11 = .ok (.iconst 0, 1) := by decide +kernel
theorem dX9_nextPair_12 : decode cX9_nextPair 12 = .ok (.istore 4, 2) := by decide +kernel
theorem dX9_nextPair_14 : decode cX9_nextPair 14 = .ok (.iload 4, 2) := by decide +kernel
theorem dX9_nextPair_16 : decode cX9_nextPair 16 = .ok (.bipush 6, 2) := by decide +kernel
theorem dX9_nextPair_18 : decode cX9_nextPair 18 = .ok (.if_icmp .ge 65, 3) := by decide +kernel
theorem dX9_nextPair_21 : decode cX9_nextPair 21 = .ok (.aload_n 0, 1) := by decide +kernel
theorem dX9_nextPair_22 : decode cX9_nextPair 22 = .ok (.getfield 62, 3) := by decide +kernel
theorem dX9_nextPair_25 : decode cX9_nextPair 25 = .ok (.iload_n 1, 1) := by decide +kernel
theorem dX9_nextPair_26 : decode cX9_nextPair 26 = .ok (.iaload, 1) := by decide +kernel
theorem dX9_nextPair_27 : decode cX9_nextPair 27 = .ok (.ifCond .le 56, 3) := by decide +kernel
theorem dX9_nextPair_30 : decode cX9_nextPair 30 = .ok (.aload_n 0, 1) := by decide +kernel
theorem dX9_nextPair_31 : decode cX9_nextPair 31 = .ok (.iload_n 1, 1) := by decide +kernel
theorem dX9_nextPair_32 : decode cX9_nextPair 32 = .ok (.iload 4, 2) := by decide +kernel
theorem dX9_nextPair_34 : decode cX9_nextPair 34 = .ok (.invokevirtual 176, 3) := by decide +kernel
theorem dX9_nextPair_37 : decode cX9_nextPair 37 = .ok (.istore 5, 2) := by decide +kernel
theorem dX9_nextPair_39 : decode cX9_nextPair 39 = .ok (.iload 5, 2) := by decide +kernel
theorem dX9_nextPair_41 : decode cX9_nextPair 41 = .ok (.iload_n 3, 1) := by decide +kernel
theorem dX9_nextPair_42 : decode cX9_nextPair 42 = .ok (.if_icmp .ge 20, 3) := by decide +kernel
theorem dX9_nextPair_45 : decode cX9_nextPair 45 = .ok (.bipush 10, 2) := by decide +kernel
theorem dX9_nextPair_47 : decode cX9_nextPair 47 = .ok (.iload 4, 2) := by decide +kernel
theorem dX9_nextPair_49 : decode cX9_nextPair 49 = .ok (.invokestatic 169, 3) := by decide +kernel
theorem dX9_nextPair_52 : decode cX9_nextPair 52 = .ok (.imul, 1) := by decide +kernel
theorem dX9_nextPair_53 : decode cX9_nextPair 53 = .ok (.iload 4, 2) := by decide +kernel
theorem dX9_nextPair_55 : decode cX9_nextPair 55 = .ok (.invokestatic 153, 3) := by decide +kernel
theorem dX9_nextPair_58 : decode cX9_nextPair 58 = .ok (.iadd, 1) := by decide +kernel
theorem dX9_nextPair_59 : decode cX9_nextPair 59 = .ok (.goto 4, 3) := by decide +kernel
theorem dX9_nextPair_62 : decode cX9_nextPair 62 = .ok (.iload_n 2, 1) := by decide +kernel
theorem dX9_nextPair_63 : decode cX9_nextPair 63 = .ok (.istore_n 2, 1) := by decide +kernel
theorem dX9_nextPair_64 : decode cX9_nextPair 64 = .ok (.iload 5, 2) := by decide +kernel
theorem dX9_nextPair_66 : decode cX9_nextPair 66 = .ok (.iload_n 3, 1) := by decide +kernel
theorem dX9_nextPair_67 : decode cX9_nextPair 67 = .ok (.if_icmp .ge 8, 3) := by decide +kernel
theorem dX9_nextPair_70 : decode cX9_nextPair 70 = .ok (.iload 5, 2) := by decide +kernel
theorem dX9_nextPair_72 : decode cX9_nextPair 72 = .ok (.goto 4, 3) := by decide +kernel
theorem dX9_nextPair_75 : decode cX9_nextPair 75 = .ok (.iload_n 3, 1) := by decide +kernel
theorem dX9_nextPair_76 : decode cX9_nextPair 76 = .ok (.istore_n 3, 1) := by decide +kernel
theorem dX9_nextPair_77 : decode cX9_nextPair 77 = .ok (.iinc 4 1, 3) := by decide +kernel
theorem dX9_nextPair_80 : decode cX9_nextPair 80 = .ok (.goto (-66), 3) := by decide +kernel
theorem dX9_nextPair_83 : decode cX9_nextPair 83 = .ok (.iload_n 2, 1) := by decide +kernel
theorem dX9_nextPair_84 : decode cX9_nextPair 84 = .ok (.ireturn, 1) := by decide +kernel
theorem dX9_knownMany_0 : decode cX9_knownMany 0 = .ok (.iconst 0, 1) := by decide +kernel
theorem dX9_knownMany_1 : decode cX9_knownMany 1 = .ok (.istore_n 1, 1) := by decide +kernel
theorem dX9_knownMany_2 : decode cX9_knownMany 2 = .ok (.iconst 0, 1) := by decide +kernel
theorem dX9_knownMany_3 : decode cX9_knownMany 3 = .ok (.istore_n 2, 1) := by decide +kernel
theorem dX9_knownMany_4 : decode cX9_knownMany 4 = .ok (.iload_n 2, 1) := by decide +kernel
theorem dX9_knownMany_5 : decode cX9_knownMany 5 = .ok (.bipush 6, 2) := by decide +kernel
theorem dX9_knownMany_7 : decode cX9_knownMany 7 = .ok (.if_icmp .ge 29, 3) := by decide +kernel
theorem dX9_knownMany_10 : decode cX9_knownMany 10 = .ok (.iload_n 1, 1) := by decide +kernel
theorem dX9_knownMany_11 : decode cX9_knownMany 11 = .ok (.aload_n 0, 1) := by decide +kernel
theorem dX9_knownMany_12 : decode cX9_knownMany 12 = .ok (.getfield 28, 3) := by decide +kernel
theorem dX9_knownMany_15 : decode cX9_knownMany 15 = .ok (.bipush 17, 2) := by decide +kernel
theorem dX9_knownMany_17 : decode cX9_knownMany 17 = .ok (.iload_n 2, 1) := by decide +kernel
theorem dX9_knownMany_18 : decode cX9_knownMany 18 = .ok (.iadd, 1) := by decide +kernel
theorem dX9_knownMany_19 : decode cX9_knownMany 19 = .ok (.iaload, 1) := by decide +kernel
theorem dX9_knownMany_20 : decode cX9_knownMany 20 = .ok (.ifCond .le 7, 3) := by decide +kernel
theorem dX9_knownMany_23 : decode cX9_knownMany 23 = .ok (.iconst 1, 1) := by decide +kernel
theorem dX9_knownMany_24 : decode cX9_knownMany 24 = .ok (.goto 4, 3) := by decide +kernel
theorem dX9_knownMany_27 : decode cX9_knownMany 27 = .ok (.iconst 0, 1) := by decide +kernel
theorem dX9_knownMany_28 : decode cX9_knownMany 28 = .ok (.iadd, 1) := by decide +kernel
theorem dX9_knownMany_29 : decode cX9_knownMany 29 = .ok (.istore_n 1, 1) := by decide +kernel
theorem dX9_knownMany_30 : decode cX9_knownMany 30 = .ok (.iinc 2 1, 3) := by decide +kernel
theorem dX9_knownMany_33 : decode cX9_knownMany 33 = .ok (.goto (-29), 3) := by decide +kernel
theorem dX9_knownMany_36 : decode cX9_knownMany 36 = .ok (.iload_n 1, 1) := by decide +kernel
theorem dX9_knownMany_37 : decode cX9_knownMany 37 = .ok (.ireturn, 1) := by decide +kernel
theorem dX9_range_0 : decode cX9_range 0 = .ok (.iconst 0, 1) := by decide +kernel
theorem dX9_range_1 : decode cX9_range 1 = .ok (.istore_n 1, 1) := by decide +kernel
theorem dX9_range_2 : decode cX9_range 2 = .ok (.iload_n 1, 1) := by decide +kernel
theorem dX9_range_3 : decode cX9_range 3 = .ok (.sipush 301, 3) := by decide +kernel
theorem dX9_range_6 : decode cX9_range 6 = .ok (.if_icmp .ge 16, 3) := by decide +kernel
theorem dX9_range_9 : decode cX9_range 9 = .ok (.aload_n 0, 1) := by decide +kernel
theorem dX9_range_10 : decode cX9_range 10 = .ok (.getfield 68, 3) := by decide +kernel
theorem dX9_range_13 : decode cX9_range 13 = .ok (.iload_n 1, 1) := by decide +kernel
theorem dX9_range_14 : decode cX9_range 14 = .ok (.iconst 0, 1) := by decide +kernel
theorem dX9_range_15 : decode cX9_range 15 = .ok (.bastore, 1) := by decide +kernel
theorem dX9_range_16 : decode cX9_range 16 = .ok (.iinc 1 1, 3) := by decide +kernel
theorem dX9_range_19 : decode cX9_range 19 = .ok (.goto (-17), 3) := by decide +kernel
theorem dX9_range_22 : decode cX9_range 22 = .ok (.iconst 0, 1) := by decide +kernel
theorem dX9_range_23 : decode cX9_range 23 = .ok (.istore_n 1, 1) := by decide +kernel
theorem dX9_range_24 : decode cX9_range 24 = .ok (.iload_n 1, 1) := by decide +kernel
theorem dX9_range_25 : decode cX9_range 25 = .ok (.iconst 1, 1) := by decide +kernel
theorem dX9_range_26 : decode cX9_range 26 = .ok (.aload_n 0, 1) := by decide +kernel
theorem dX9_range_27 : decode cX9_range 27 = .ok (.getfield 13, 3) := by decide +kernel
theorem dX9_range_30 : decode cX9_range 30 = .ok (.iconst 1, 1) := by decide +kernel
theorem dX9_range_31 : decode cX9_range 31 = .ok (.iaload, 1) := by decide +kernel
theorem dX9_range_32 : decode cX9_range 32 = .ok (.ishl, 1) := by decide +kernel
theorem dX9_range_33 : decode cX9_range 33 = .ok (.if_icmp .ge 66, 3) := by decide +kernel
theorem dX9_range_36 : decode cX9_range 36 = .ok (.iconst 0, 1) := by decide +kernel
theorem dX9_range_37 : decode cX9_range 37 = .ok (.istore_n 2, 1) := by decide +kernel
theorem dX9_range_38 : decode cX9_range 38 = .ok (.iload_n 2, 1) := by decide +kernel
theorem dX9_range_39 : decode cX9_range 39 = .ok (.iconst 1, 1) := by decide +kernel
theorem dX9_range_40 : decode cX9_range 40 = .ok (.aload_n 0, 1) := by decide +kernel
theorem dX9_range_41 : decode cX9_range 41 = .ok (.getfield 13, 3) := by decide +kernel
theorem dX9_range_44 : decode cX9_range 44 = .ok (.iconst 1, 1) := by decide +kernel
theorem dX9_range_45 : decode cX9_range 45 = .ok (.iaload, 1) := by decide +kernel
theorem dX9_range_46 : decode cX9_range 46 = .ok (.ishl, 1) := by decide +kernel
theorem dX9_range_47 : decode cX9_range 47 = .ok (.if_icmp .ge 46, 3) := by decide +kernel
theorem dX9_range_50 : decode cX9_range 50 = .ok (.iload_n 1, 1) := by decide +kernel
theorem dX9_range_51 : decode cX9_range 51 = .ok (.iload_n 2, 1) := by decide +kernel
theorem dX9_range_52 : decode cX9_range 52 = .ok (.iand, 1) := by decide +kernel
theorem dX9_range_53 : decode cX9_range 53 = .ok (.ifCond .ne 17, 3) := by decide +kernel
theorem dX9_range_56 : decode cX9_range 56 = .ok (.aload_n 0, 1) := by decide +kernel
theorem dX9_range_57 : decode cX9_range 57 = .ok (.iload_n 1, 1) := by decide +kernel
theorem dX9_range_58 : decode cX9_range 58 = .ok (.invokevirtual 183, 3) := by decide +kernel
theorem dX9_range_61 : decode cX9_range 61 = .ok (.aload_n 0, 1) := by decide +kernel
theorem dX9_range_62 : decode cX9_range 62 = .ok (.iload_n 2, 1) := by decide +kernel
theorem dX9_range_63 : decode cX9_range 63 = .ok (.invokevirtual 183, 3) := by decide +kernel
theorem dX9_range_66 : decode cX9_range 66 = .ok (.isub, 1) := by decide +kernel
theorem dX9_range_67 : decode cX9_range 67 = .ok (.goto 4, 3) := by decide +kernel
theorem dX9_range_70 : decode cX9_range 70 = .ok (.iconst 0, 1) := by decide +kernel
theorem dX9_range_71 : decode cX9_range 71 = .ok (.istore_n 3, 1) := by decide +kernel
theorem dX9_range_72 : decode cX9_range 72 = .ok (.aload_n 0, 1) := by decide +kernel
theorem dX9_range_73 : decode cX9_range 73 = .ok (.getfield 68, 3) := by decide +kernel
theorem dX9_range_76 : decode cX9_range 76 = .ok (.iload_n 3, 1) := by decide +kernel
theorem dX9_range_77 : decode cX9_range 77 = .ok (.ifCond .le 7, 3) := by decide +kernel
theorem dX9_range_80 : decode cX9_range 80 = .ok (.iload_n 3, 1) := by decide +kernel
theorem dX9_range_81 : decode cX9_range 81 = .ok (.goto 4, 3) := by decide +kernel
theorem dX9_range_84 : decode cX9_range 84 = .ok (.iconst 0, 1) := by decide +kernel
theorem dX9_range_85 : decode cX9_range 85 = .ok (.iconst 1, 1) := by decide +kernel
theorem dX9_range_86 : decode cX9_range 86 = .ok (.bastore, 1) := by decide +kernel
theorem dX9_range_87 : decode cX9_range 87 = .ok (.iinc 2 1, 3) := by decide +kernel
theorem dX9_range_90 : decode cX9_range 90 = .ok (.goto (-52), 3) := by decide +kernel
theorem dX9_range_93 : decode cX9_range 93 = .ok (.iinc 1 1, 3) := by decide +kernel
theorem dX9_range_96 : decode cX9_range 96 = .ok (.goto (-72), 3) := by decide +kernel
theorem dX9_range_99 : decode cX9_range 99 = .ok (.iconst 0, 1) := by decide +kernel
theorem dX9_range_100 : decode cX9_range 100 = .ok (.istore_n 1, 1) := by decide +kernel
theorem dX9_range_101 : decode cX9_range 101 = .ok (.iload_n 1, 1) := by decide +kernel
theorem dX9_range_102 : decode cX9_range 102 = .ok (.sipush 300, 3) := by decide +kernel
theorem dX9_range_105 : decode cX9_range 105 = .ok (.if_icmp .ge 20, 3) := by decide +kernel
theorem dX9_range_108 : decode cX9_range 108 = .ok (.aload_n 0, 1) := by decide +kernel
theorem dX9_range_109 : decode cX9_range 109 = .ok (.getfield 68, 3) := by decide +kernel
theorem dX9_range_112 : decode cX9_range 112 = .ok (.iload_n 1, 1) := by decide +kernel
theorem dX9_range_113 : decode cX9_range 113 = .ok (.iconst 1, 1) := by decide +kernel
theorem dX9_range_114 : decode cX9_range 114 = .ok (.iadd, 1) := by decide +kernel
theorem dX9_range_115 : decode cX9_range 115 = .ok (.baload, 1) := by decide +kernel
theorem dX9_range_116 : decode cX9_range 116 = .ok (.ifCond .eq 9, 3) := by decide +kernel
theorem dX9_range_119 : decode cX9_range 119 = .ok (.iinc 1 1, 3) := by decide +kernel
theorem dX9_range_122 : decode cX9_range 122 = .ok (.goto (-21), 3) := by decide +kernel
theorem dX9_range_125 : decode cX9_range 125 = .ok (.iload_n 1, 1) := by decide +kernel
theorem dX9_range_126 : decode cX9_range 126 = .ok (.ireturn, 1) := by decide +kernel
theorem dX9_now_0 : decode cX9_now 0 = .ok (.aload_n 0, 1) := by decide +kernel
theorem dX9_now_1 : decode cX9_now 1 = .ok (.iconst 0, 1) := by decide +kernel
theorem dX9_now_2 : decode cX9_now 2 = .ok (.putfield 77, 3) := by decide +kernel
theorem dX9_now_5 : decode cX9_now 5 = .ok (.iload_n 1, 1) := by decide +kernel
theorem dX9_now_6 : decode cX9_now 6 = .ok (.iconst 0, 1) := by decide +kernel
theorem dX9_now_7 : decode cX9_now 7 = .ok (.bipush 6, 2) := by decide +kernel
theorem dX9_now_9 : decode cX9_now 9 = .ok (.invokestatic 81, 3) := by decide +kernel
theorem dX9_now_12 : decode cX9_now 12 = .ok (.ifCond .ne 5, 3) := by decide +kernel
theorem dX9_now_15 : decode cX9_now 15 = .ok (.iconst (-1), 1) := by decide +kernel
theorem dX9_now_16 : decode cX9_now 16 = .ok (.ireturn, 1) := by decide +kernel
theorem dX9_now_17 : decode cX9_now 17 = .ok (.iload_n 1, 1) := by decide +kernel
theorem dX9_now_18 : decode cX9_now 18 = .ok (.iconst 3, 1) := by decide +kernel
theorem dX9_now_19 : decode cX9_now 19 = .ok (.if_icmp .ge 38, 3) := by decide +kernel
theorem dX9_now_22 : decode cX9_now 22 = .ok (.iload_n 1, 1) := by decide +kernel
theorem dX9_now_23 : decode cX9_now 23 = .ok (.ifCond .ne 12, 3) := by decide +kernel
theorem dX9_now_26 : decode cX9_now 26 = .ok (.aload_n 0, 1) := by decide +kernel
theorem dX9_now_27 : decode cX9_now 27 = .ok (.getfield 28, 3) := by decide +kernel
theorem dX9_now_30 : decode cX9_now 30 = .ok (.iconst 0, 1) := by decide +kernel
theorem dX9_now_31 : decode cX9_now 31 = .ok (.iaload, 1) := by decide +kernel
theorem dX9_now_32 : decode cX9_now 32 = .ok (.goto 24, 3) := by decide +kernel
theorem dX9_now_35 : decode cX9_now 35 = .ok (.iload_n 1, 1) := by decide +kernel
theorem dX9_now_36 : decode cX9_now 36 = .ok (.iconst 1, 1) := by decide +kernel
theorem dX9_now_37 : decode cX9_now 37 = .ok (.if_icmp .ne 10, 3) := by decide +kernel
theorem dX9_now_40 : decode cX9_now 40 = .ok (.aload_n 0, 1) := by decide +kernel
theorem dX9_now_41 : decode cX9_now 41 = .ok (.invokevirtual 186, 3) := by decide +kernel
theorem dX9_now_44 : decode cX9_now 44 = .ok (.goto 12, 3) := by decide +kernel
theorem dX9_now_47 : decode cX9_now 47 = .ok (.aload_n 0, 1) := by decide +kernel
theorem dX9_now_48 : decode cX9_now 48 = .ok (.getfield 59, 3) := by decide +kernel
theorem dX9_now_51 : decode cX9_now 51 = .ok (.aload_n 0, 1) := by decide +kernel
theorem dX9_now_52 : decode cX9_now 52 = .ok (.invokevirtual 179, 3) := by decide +kernel
theorem dX9_now_55 : decode cX9_now 55 = .ok (.iaload, 1) := by decide +kernel
theorem dX9_now_56 : decode cX9_now 56 = .ok (.ireturn, 1) := by decide +kernel
theorem dX9_now_57 : decode cX9_now 57 = .ok (.iload_n 1, 1) := by decide +kernel
theorem dX9_now_58 : decode cX9_now 58 = .ok (.iconst 3, 1) := by decide +kernel
theorem dX9_now_59 : decode cX9_now 59 = .ok (.if_icmp .ne 15, 3) := by decide +kernel
theorem dX9_now_62 : decode cX9_now 62 = .ok (.aload_n 0, 1) := by decide +kernel
theorem dX9_now_63 : decode cX9_now 63 = .ok (.getfield 62, 3) := by decide +kernel
theorem dX9_now_66 : decode cX9_now 66 = .ok (.aload_n 0, 1) := by decide +kernel
theorem dX9_now_67 : decode cX9_now 67 = .ok (.invokevirtual 179, 3) := by decide +kernel
theorem dX9_now_70 : decode cX9_now 70 = .ok (.iaload, 1) := by decide +kernel
theorem dX9_now_71 : decode cX9_now 71 = .ok (.goto 31, 3) := by decide +kernel
theorem dX9_now_74 : decode cX9_now 74 = .ok (.iload_n 1, 1) := by decide +kernel
theorem dX9_now_75 : decode cX9_now 75 = .ok (.iconst 4, 1) := by decide +kernel
theorem dX9_now_76 : decode cX9_now 76 = .ok (.if_icmp .ne 10, 3) := by decide +kernel
theorem dX9_now_79 : decode cX9_now 79 = .ok (.aload_n 0, 1) := by decide +kernel
theorem dX9_now_80 : decode cX9_now 80 = .ok (.invokevirtual 189, 3) := by decide +kernel
theorem dX9_now_83 : decode cX9_now 83 = .ok (.goto 19, 3) := by decide +kernel
theorem dX9_now_86 : decode cX9_now 86 = .ok (.iload_n 1, 1) := by decide +kernel
theorem dX9_now_87 : decode cX9_now 87 = .ok (.iconst 5, 1) := by decide +kernel
theorem dX9_now_88 : decode cX9_now 88 = .ok (.if_icmp .ne 10, 3) := by decide +kernel
theorem dX9_now_91 : decode cX9_now 91 = .ok (.aload_n 0, 1) := by decide +kernel
theorem dX9_now_92 : decode cX9_now 92 = .ok (.invokevirtual 192, 3) := by decide +kernel
theorem dX9_now_95 : decode cX9_now 95 = .ok (.goto 7, 3) := by decide +kernel
theorem dX9_now_98 : decode cX9_now 98 = .ok (.aload_n 0, 1) := by decide +kernel
theorem dX9_now_99 : decode cX9_now 99 = .ok (.getfield 135, 3) := by decide +kernel
theorem dX9_now_102 : decode cX9_now 102 = .ok (.ireturn, 1) := by decide +kernel
theorem dX9_notes_0 : decode cX9_notes 0 = .ok (.aload_n 0, 1) := by decide +kernel
theorem dX9_notes_1 : decode cX9_notes 1 = .ok (.getfield 135, 3) := by decide +kernel
theorem dX9_notes_4 : decode cX9_notes 4 = .ok (.bipush 10, 2) := by decide +kernel
theorem dX9_notes_6 : decode cX9_notes 6 = .ok (.if_icmp .ne 39, 3) := by decide +kernel
theorem dX9_notes_9 : decode cX9_notes 9 = .ok (.iconst 0, 1) := by decide +kernel
theorem dX9_notes_10 : decode cX9_notes 10 = .ok (.istore_n 1, 1) := by decide +kernel
theorem dX9_notes_11 : decode cX9_notes 11 = .ok (.iload_n 1, 1) := by decide +kernel
theorem dX9_notes_12 : decode cX9_notes 12 = .ok (.sipush 207, 3) := by decide +kernel
theorem dX9_notes_15 : decode cX9_notes 15 = .ok (.if_icmp .ge 24, 3) := by decide +kernel
theorem dX9_notes_18 : decode cX9_notes 18 = .ok (.aload_n 0, 1) := by decide +kernel
theorem dX9_notes_19 : decode cX9_notes 19 = .ok (.getfield 38, 3) := by decide +kernel
theorem dX9_notes_22 : decode cX9_notes 22 = .ok (.iload_n 1, 1) := by decide +kernel
theorem dX9_notes_23 : decode cX9_notes 23 = .ok (.aload_n 0, 1) := by decide +kernel
theorem dX9_notes_24 : decode cX9_notes 24 = .ok (.getfield 38, 3) := by decide +kernel
theorem dX9_notes_27 : decode cX9_notes 27 = .ok (.iload_n 1, 1) := by decide +kernel
theorem dX9_notes_28 : decode cX9_notes 28 = .ok (.bipush 23, 2) := by decide +kernel
theorem dX9_notes_30 : decode cX9_notes 30 = .ok (.iadd, 1) := by decide +kernel
theorem dX9_notes_31 : decode cX9_notes 31 = .ok (.iaload, 1) := by decide +kernel
theorem dX9_notes_32 : decode cX9_notes 32 = .ok (.iastore, 1) := by decide +kernel
theorem dX9_notes_33 : decode cX9_notes 33 = .ok (.iinc 1 1, 3) := by decide +kernel
theorem dX9_notes_36 : decode cX9_notes 36 = .ok (.goto (-25), 3) := by decide +kernel
theorem dX9_notes_39 : decode cX9_notes 39 = .ok (.aload_n 0, 1) := by decide +kernel
theorem dX9_notes_40 : decode cX9_notes 40 = .ok (.bipush 9, 2) := by decide +kernel
theorem dX9_notes_42 : decode cX9_notes 42 = .ok (.putfield 135, 3) := by decide +kernel
theorem dX9_notes_45 : decode cX9_notes 45 = .ok (.iconst 0, 1) := by decide +kernel
theorem dX9_notes_46 : decode cX9_notes 46 = .ok (.istore_n 1, 1) := by decide +kernel
theorem dX9_notes_47 : decode cX9_notes 47 = .ok (.iload_n 1, 1) := by decide +kernel
theorem dX9_notes_48 : decode cX9_notes 48 = .ok (.bipush 23, 2) := by decide +kernel
theorem dX9_notes_50 : decode cX9_notes 50 = .ok (.if_icmp .ge 29, 3) := by decide +kernel
theorem dX9_notes_53 : decode cX9_notes 53 = .ok (.aload_n 0, 1) := by decide +kernel
theorem dX9_notes_54 : decode cX9_notes 54 = .ok (.getfield 38, 3) := by decide +kernel
theorem dX9_notes_57 : decode cX9_notes 57 = .ok (.bipush 23, 2) := by decide +kernel
theorem dX9_notes_59 : decode cX9_notes 59 = .ok (.aload_n 0, 1) := by decide +kernel
theorem dX9_notes_60 : decode cX9_notes 60 = .ok (.getfield 135, 3) := by decide +kernel
theorem dX9_notes_63 : decode cX9_notes 63 = .ok (.imul, 1) := by decide +kernel
theorem dX9_notes_64 : decode cX9_notes 64 = .ok (.iload_n 1, 1) := by decide +kernel
theorem dX9_notes_65 : decode cX9_notes 65 = .ok (.iadd, 1) := by decide +kernel
theorem dX9_notes_66 : decode cX9_notes 66 = .ok (.aload_n 0, 1) := by decide +kernel
theorem dX9_notes_67 : decode cX9_notes 67 = .ok (.getfield 28, 3) := by decide +kernel
theorem dX9_notes_70 : decode cX9_notes 70 = .ok (.iload_n 1, 1) := by decide +kernel
theorem dX9_notes_71 : decode cX9_notes 71 = .ok (.iaload, 1) := by decide +kernel
theorem dX9_notes_72 : decode cX9_notes 72 = .ok (.iastore, 1) := by decide +kernel
theorem dX9_notes_73 : decode cX9_notes 73 = .ok (.iinc 1 1, 3) := by decide +kernel
theorem dX9_notes_76 : decode cX9_notes 76 = .ok (.goto (-29), 3) := by decide +kernel
theorem dX9_notes_79 : decode cX9_notes 79 = .ok (.aload_n 0, 1) := by decide +kernel
theorem dX9_notes_80 : decode cX9_notes 80 = .ok (.dup, 1) := by decide +kernel
theorem dX9_notes_81 : decode cX9_notes 81 = .ok (.getfield 135, 3) := by decide +kernel
theorem dX9_notes_84 : decode cX9_notes 84 = .ok (.iconst 1, 1) := by decide +kernel
theorem dX9_notes_85 : decode cX9_notes 85 = .ok (.iadd, 1) := by decide +kernel
theorem dX9_notes_86 : decode cX9_notes 86 = .ok (.putfield 135, 3) := by decide +kernel
theorem dX9_notes_89 : decode cX9_notes 89 = .ok (.return_, 1) := by decide +kernel
theorem dX9_gets_0 : decode cX9_gets 0 = .ok (.aload_n 0, 1) := by decide +kernel
theorem dX9_gets_1 : decode cX9_gets 1 = .ok (.getfield 28, 3) := by decide +kernel
theorem dX9_gets_4 : decode cX9_gets 4 = .ok (.iconst 1, 1) := by decide +kernel
theorem dX9_gets_5 : decode cX9_gets 5 = .ok (.iconst 4, 1) := by decide +kernel
theorem dX9_gets_6 : decode cX9_gets 6 = .ok (.iload_n 1, 1) := by decide +kernel
theorem dX9_gets_7 : decode cX9_gets 7 = .ok (.imul, 1) := by decide +kernel
theorem dX9_gets_8 : decode cX9_gets 8 = .ok (.iadd, 1) := by decide +kernel
theorem dX9_gets_9 : decode cX9_gets 9 = .ok (.iload_n 2, 1) := by decide +kernel
theorem dX9_gets_10 : decode cX9_gets 10 = .ok (.iadd, 1) := by decide +kernel
theorem dX9_gets_11 : decode cX9_gets 11 = .ok (.iaload, 1) := by decide +kernel
theorem dX9_gets_12 : decode cX9_gets 12 = .ok (.iload_n 3, 1) := by decide +kernel
theorem dX9_gets_13 : decode cX9_gets 13 = .ok (.iadd, 1) := by decide +kernel
theorem dX9_gets_14 : decode cX9_gets 14 = .ok (.istore 4, 2) := by decide +kernel
theorem dX9_gets_16 : decode cX9_gets 16 = .ok (.aload_n 0, 1) := by decide +kernel
theorem dX9_gets_17 : decode cX9_gets 17 = .ok (.getfield 28, 3) := by decide +kernel
theorem dX9_gets_20 : decode cX9_gets 20 = .ok (.iconst 1, 1) := by decide +kernel
theorem dX9_gets_21 : decode cX9_gets 21 = .ok (.iconst 4, 1) := by decide +kernel
theorem dX9_gets_22 : decode cX9_gets 22 = .ok (.iload_n 1, 1) := by decide +kernel
theorem dX9_gets_23 : decode cX9_gets 23 = .ok (.imul, 1) := by decide +kernel
theorem dX9_gets_24 : decode cX9_gets 24 = .ok (.iadd, 1) := by decide +kernel
theorem dX9_gets_25 : decode cX9_gets 25 = .ok (.iload_n 2, 1) := by decide +kernel
theorem dX9_gets_26 : decode cX9_gets 26 = .ok (.iadd, 1) := by decide +kernel
theorem dX9_gets_27 : decode cX9_gets 27 = .ok (.iload 4, 2) := by decide +kernel
theorem dX9_gets_29 : decode cX9_gets 29 = .ok (.bipush 9, 2) := by decide +kernel
theorem dX9_gets_31 : decode cX9_gets 31 = .ok (.if_icmp .le 8, 3) := by decide +kernel
theorem dX9_gets_34 : decode cX9_gets 34 = .ok (.bipush 9, 2) := by decide +kernel
theorem dX9_gets_36 : decode cX9_gets 36 = .ok (.goto 5, 3) := by decide +kernel
theorem dX9_gets_39 : decode cX9_gets 39 = .ok (.iload 4, 2) := by decide +kernel
theorem dX9_gets_41 : decode cX9_gets 41 = .ok (.iastore, 1) := by decide +kernel
theorem dX9_gets_42 : decode cX9_gets 42 = .ok (.return_, 1) := by decide +kernel
theorem dX9_tells_0 : decode cX9_tells 0 = .ok (.aload_n 0, 1) := by decide +kernel
theorem dX9_tells_1 : decode cX9_tells 1 = .ok (.iconst 0, 1) := by decide +kernel
theorem dX9_tells_2 : decode cX9_tells 2 = .ok (.putfield 77, 3) := by decide +kernel
theorem dX9_tells_5 : decode cX9_tells 5 = .ok (.aload_n 0, 1) := by decide +kernel
theorem dX9_tells_6 : decode cX9_tells 6 = .ok (.iload_n 1, 1) := by decide +kernel
theorem dX9_tells_7 : decode cX9_tells 7 = .ok (.iload_n 2, 1) := by decide +kernel
theorem dX9_tells_8 : decode cX9_tells 8 = .ok (.invokevirtual 156, 3) := by decide +kernel
theorem dX9_tells_11 : decode cX9_tells 11 = .ok (.ifCond .eq 10, 3) := by decide +kernel
theorem dX9_tells_14 : decode cX9_tells 14 = .ok (.iload_n 3, 1) := by decide +kernel
theorem dX9_tells_15 : decode cX9_tells 15 = .ok (.invokestatic 147, 3) := by decide +kernel
theorem dX9_tells_18 : decode cX9_tells 18 = .ok (.ifCond .ne 5, 3) := by decide +kernel
theorem dX9_tells_21 : decode cX9_tells 21 = .ok (.iconst (-1), 1) := by decide +kernel
theorem dX9_tells_22 : decode cX9_tells 22 = .ok (.ireturn, 1) := by decide +kernel
theorem dX9_tells_23 : decode cX9_tells 23 = .ok (.aload_n 0, 1) := by decide +kernel
theorem dX9_tells_24 : decode cX9_tells 24 = .ok (.getfield 28, 3) := by decide +kernel
theorem dX9_tells_27 : decode cX9_tells 27 = .ok (.iconst 1, 1) := by decide +kernel
theorem dX9_tells_28 : decode cX9_tells 28 = .ok (.iconst 4, 1) := by decide +kernel
theorem dX9_tells_29 : decode cX9_tells 29 = .ok (.iload_n 1, 1) := by decide +kernel
theorem dX9_tells_30 : decode cX9_tells 30 = .ok (.imul, 1) := by decide +kernel
theorem dX9_tells_31 : decode cX9_tells 31 = .ok (.iadd, 1) := by decide +kernel
theorem dX9_tells_32 : decode cX9_tells 32 = .ok (.iload_n 3, 1) := by decide +kernel
theorem dX9_tells_33 : decode cX9_tells 33 = .ok (.iadd, 1) := by decide +kernel
theorem dX9_tells_34 : decode cX9_tells 34 = .ok (.iaload, 1) := by decide +kernel
theorem dX9_tells_35 : decode cX9_tells 35 = .ok (.ifCond .ne 6, 3) := by decide +kernel
theorem dX9_tells_38 : decode cX9_tells 38 = .ok (.bipush (-2), 2) := by decide +kernel
theorem dX9_tells_40 : decode cX9_tells 40 = .ok (.ireturn, 1) := by decide +kernel
theorem dX9_tells_41 : decode cX9_tells 41 = .ok (.aload_n 0, 1) := by decide +kernel
theorem dX9_tells_42 : decode cX9_tells 42 = .ok (.invokevirtual 195, 3) := by decide +kernel
theorem dX9_tells_45 : decode cX9_tells 45 = .ok (.aload_n 0, 1) := by decide +kernel
theorem dX9_tells_46 : decode cX9_tells 46 = .ok (.getfield 28, 3) := by decide +kernel
theorem dX9_tells_49 : decode cX9_tells 49 = .ok (.iconst 1, 1) := by decide +kernel
theorem dX9_tells_50 : decode cX9_tells 50 = .ok (.iconst 4, 1) := by decide +kernel
theorem dX9_tells_51 : decode cX9_tells 51 = .ok (.iload_n 1, 1) := by decide +kernel
theorem dX9_tells_52 : decode cX9_tells 52 = .ok (.imul, 1) := by decide +kernel
theorem dX9_tells_53 : decode cX9_tells 53 = .ok (.iadd, 1) := by decide +kernel
theorem dX9_tells_54 : decode cX9_tells 54 = .ok (.iload_n 3, 1) := by decide +kernel
theorem dX9_tells_55 : decode cX9_tells 55 = .ok (.iadd, 1) := by decide +kernel
theorem dX9_tells_56 : decode cX9_tells 56 = .ok (.dup2, 1) := by decide +kernel
theorem dX9_tells_57 : decode cX9_tells 57 = .ok (.iaload, 1) := by decide +kernel
theorem dX9_tells_58 : decode cX9_tells 58 = .ok (.iconst 1, 1) := by decide +kernel
theorem dX9_tells_59 : decode cX9_tells 59 = .ok (.isub, 1) := by decide +kernel
theorem dX9_tells_60 : decode cX9_tells 60 = .ok (.iastore, 1) := by decide +kernel
theorem dX9_tells_61 : decode cX9_tells 61 = .ok (.iload_n 3, 1) := by decide +kernel
theorem dX9_tells_62 : decode cX9_tells 62 = .ok (.ifCond .le 12, 3) := by decide +kernel
theorem dX9_tells_65 : decode cX9_tells 65 = .ok (.aload_n 0, 1) := by decide +kernel
theorem dX9_tells_66 : decode cX9_tells 66 = .ok (.iload_n 2, 1) := by decide +kernel
theorem dX9_tells_67 : decode cX9_tells 67 = .ok (.iload_n 3, 1) := by decide +kernel
theorem dX9_tells_68 : decode cX9_tells 68 = .ok (.iconst 1, 1) := by decide +kernel
theorem dX9_tells_69 : decode cX9_tells 69 = .ok (.isub, 1) := by decide +kernel
theorem dX9_tells_70 : decode cX9_tells 70 = .ok (.iconst 1, 1) := by decide +kernel
theorem dX9_tells_71 : decode cX9_tells 71 = .ok (.invokevirtual 198, 3) := by decide +kernel
theorem dX9_tells_74 : decode cX9_tells 74 = .ok (.aload_n 0, 1) := by decide +kernel
theorem dX9_tells_75 : decode cX9_tells 75 = .ok (.iload_n 1, 1) := by decide +kernel
theorem dX9_tells_76 : decode cX9_tells 76 = .ok (.invokevirtual 150, 3) := by decide +kernel
theorem dX9_tells_79 : decode cX9_tells 79 = .ok (.ireturn, 1) := by decide +kernel
theorem dX9_keeps_0 : decode cX9_keeps 0 = .ok (.aload_n 0, 1) := by decide +kernel
theorem dX9_keeps_1 : decode cX9_keeps 1 = .ok (.iconst 0, 1) := by decide +kernel
theorem dX9_keeps_2 : decode cX9_keeps 2 = .ok (.putfield 77, 3) := by decide +kernel
theorem dX9_keeps_5 : decode cX9_keeps 5 = .ok (.aload_n 0, 1) := by decide +kernel
theorem dX9_keeps_6 : decode cX9_keeps 6 = .ok (.iload_n 1, 1) := by decide +kernel
theorem dX9_keeps_7 : decode cX9_keeps 7 = .ok (.invokevirtual 143, 3) := by decide +kernel
theorem dX9_keeps_10 : decode cX9_keeps 10 = .ok (.ifCond .eq 10, 3) := by decide +kernel
theorem dX9_keeps_13 : decode cX9_keeps 13 = .ok (.iload_n 2, 1) := by decide +kernel
theorem dX9_keeps_14 : decode cX9_keeps 14 = .ok (.invokestatic 147, 3) := by decide +kernel
theorem dX9_keeps_17 : decode cX9_keeps 17 = .ok (.ifCond .ne 5, 3) := by decide +kernel
theorem dX9_keeps_20 : decode cX9_keeps 20 = .ok (.iconst (-1), 1) := by decide +kernel
theorem dX9_keeps_21 : decode cX9_keeps 21 = .ok (.ireturn, 1) := by decide +kernel
theorem dX9_keeps_22 : decode cX9_keeps 22 = .ok (.aload_n 0, 1) := by decide +kernel
theorem dX9_keeps_23 : decode cX9_keeps 23 = .ok (.getfield 28, 3) := by decide +kernel
theorem dX9_keeps_26 : decode cX9_keeps 26 = .ok (.iconst 1, 1) := by decide +kernel
theorem dX9_keeps_27 : decode cX9_keeps 27 = .ok (.iconst 4, 1) := by decide +kernel
theorem dX9_keeps_28 : decode cX9_keeps 28 = .ok (.iload_n 1, 1) := by decide +kernel
theorem dX9_keeps_29 : decode cX9_keeps 29 = .ok (.imul, 1) := by decide +kernel
theorem dX9_keeps_30 : decode cX9_keeps 30 = .ok (.iadd, 1) := by decide +kernel
theorem dX9_keeps_31 : decode cX9_keeps 31 = .ok (.iload_n 2, 1) := by decide +kernel
theorem dX9_keeps_32 : decode cX9_keeps 32 = .ok (.iadd, 1) := by decide +kernel
theorem dX9_keeps_33 : decode cX9_keeps 33 = .ok (.iaload, 1) := by decide +kernel
theorem dX9_keeps_34 : decode cX9_keeps 34 = .ok (.bipush 9, 2) := by decide +kernel
theorem dX9_keeps_36 : decode cX9_keeps 36 = .ok (.if_icmp .ne 6, 3) := by decide +kernel
theorem dX9_keeps_39 : decode cX9_keeps 39 = .ok (.bipush (-2), 2) := by decide +kernel
theorem dX9_keeps_41 : decode cX9_keeps 41 = .ok (.ireturn, 1) := by decide +kernel
theorem dX9_keeps_42 : decode cX9_keeps 42 = .ok (.aload_n 0, 1) := by decide +kernel
theorem dX9_keeps_43 : decode cX9_keeps 43 = .ok (.invokevirtual 195, 3) := by decide +kernel
theorem dX9_keeps_46 : decode cX9_keeps 46 = .ok (.aload_n 0, 1) := by decide +kernel
theorem dX9_keeps_47 : decode cX9_keeps 47 = .ok (.iload_n 1, 1) := by decide +kernel
theorem dX9_keeps_48 : decode cX9_keeps 48 = .ok (.iload_n 2, 1) := by decide +kernel
theorem dX9_keeps_49 : decode cX9_keeps 49 = .ok (.iconst 1, 1) := by decide +kernel
theorem dX9_keeps_50 : decode cX9_keeps 50 = .ok (.invokevirtual 198, 3) := by decide +kernel
theorem dX9_keeps_53 : decode cX9_keeps 53 = .ok (.aload_n 0, 1) := by decide +kernel
theorem dX9_keeps_54 : decode cX9_keeps 54 = .ok (.getfield 28, 3) := by decide +kernel
theorem dX9_keeps_57 : decode cX9_keeps 57 = .ok (.iconst 1, 1) := by decide +kernel
theorem dX9_keeps_58 : decode cX9_keeps 58 = .ok (.iconst 4, 1) := by decide +kernel
theorem dX9_keeps_59 : decode cX9_keeps 59 = .ok (.iload_n 1, 1) := by decide +kernel
theorem dX9_keeps_60 : decode cX9_keeps 60 = .ok (.imul, 1) := by decide +kernel
theorem dX9_keeps_61 : decode cX9_keeps 61 = .ok (.iadd, 1) := by decide +kernel
theorem dX9_keeps_62 : decode cX9_keeps 62 = .ok (.iload_n 2, 1) := by decide +kernel
theorem dX9_keeps_63 : decode cX9_keeps 63 = .ok (.iadd, 1) := by decide +kernel
theorem dX9_keeps_64 : decode cX9_keeps 64 = .ok (.iaload, 1) := by decide +kernel
theorem dX9_keeps_65 : decode cX9_keeps 65 = .ok (.ireturn, 1) := by decide +kernel
theorem dX9_day_0 : decode cX9_day 0 = .ok (.aload_n 0, 1) := by decide +kernel
theorem dX9_day_1 : decode cX9_day 1 = .ok (.iconst 0, 1) := by decide +kernel
theorem dX9_day_2 : decode cX9_day 2 = .ok (.putfield 77, 3) := by decide +kernel
theorem dX9_day_5 : decode cX9_day 5 = .ok (.aload_n 0, 1) := by decide +kernel
theorem dX9_day_6 : decode cX9_day 6 = .ok (.getfield 28, 3) := by decide +kernel
theorem dX9_day_9 : decode cX9_day 9 = .ok (.iconst 0, 1) := by decide +kernel
theorem dX9_day_10 : decode cX9_day 10 = .ok (.iaload, 1) := by decide +kernel
theorem dX9_day_11 : decode cX9_day 11 = .ok (.sipush 999, 3) := by decide +kernel
theorem dX9_day_14 : decode cX9_day 14 = .ok (.if_icmp .ne 6, 3) := by decide +kernel
theorem dX9_day_17 : decode cX9_day 17 = .ok (.bipush (-2), 2) := by decide +kernel
theorem dX9_day_19 : decode cX9_day 19 = .ok (.ireturn, 1) := by decide +kernel
theorem dX9_day_20 : decode cX9_day 20 = .ok (.aload_n 0, 1) := by decide +kernel
theorem dX9_day_21 : decode cX9_day 21 = .ok (.invokevirtual 195, 3) := by decide +kernel
theorem dX9_day_24 : decode cX9_day 24 = .ok (.aload_n 0, 1) := by decide +kernel
theorem dX9_day_25 : decode cX9_day 25 = .ok (.getfield 28, 3) := by decide +kernel
theorem dX9_day_28 : decode cX9_day 28 = .ok (.iconst 0, 1) := by decide +kernel
theorem dX9_day_29 : decode cX9_day 29 = .ok (.dup2, 1) := by decide +kernel
theorem dX9_day_30 : decode cX9_day 30 = .ok (.iaload, 1) := by decide +kernel
theorem dX9_day_31 : decode cX9_day 31 = .ok (.iconst 1, 1) := by decide +kernel
theorem dX9_day_32 : decode cX9_day 32 = .ok (.iadd, 1) := by decide +kernel
theorem dX9_day_33 : decode cX9_day 33 = .ok (.iastore, 1) := by decide +kernel
theorem dX9_day_34 : decode cX9_day 34 = .ok (.iconst 0, 1) := by decide +kernel
theorem dX9_day_35 : decode cX9_day 35 = .ok (.istore_n 1, 1) := by decide +kernel
theorem dX9_day_36 : decode cX9_day 36 = .ok (.iload_n 1, 1) := by decide +kernel
theorem dX9_day_37 : decode cX9_day 37 = .ok (.bipush 16, 2) := by decide +kernel
theorem dX9_day_39 : decode cX9_day 39 = .ok (.if_icmp .ge 25, 3) := by decide +kernel
theorem dX9_day_42 : decode cX9_day 42 = .ok (.aload_n 0, 1) := by decide +kernel
theorem dX9_day_43 : decode cX9_day 43 = .ok (.iload_n 1, 1) := by decide +kernel
theorem dX9_day_44 : decode cX9_day 44 = .ok (.iconst 4, 1) := by decide +kernel
theorem dX9_day_45 : decode cX9_day 45 = .ok (.idiv, 1) := by decide +kernel
theorem dX9_day_46 : decode cX9_day 46 = .ok (.iload_n 1, 1) := by decide +kernel
theorem dX9_day_47 : decode cX9_day 47 = .ok (.iconst 4, 1) := by decide +kernel
theorem dX9_day_48 : decode cX9_day 48 = .ok (.irem, 1) := by decide +kernel
theorem dX9_day_49 : decode cX9_day 49 = .ok (.aload_n 0, 1) := by decide +kernel
theorem dX9_day_50 : decode cX9_day 50 = .ok (.getfield 22, 3) := by decide +kernel
theorem dX9_day_53 : decode cX9_day 53 = .ok (.iload_n 1, 1) := by decide +kernel
theorem dX9_day_54 : decode cX9_day 54 = .ok (.iaload, 1) := by decide +kernel
theorem dX9_day_55 : decode cX9_day 55 = .ok (.invokevirtual 198, 3) := by decide +kernel
theorem dX9_day_58 : decode cX9_day 58 = .ok (.iinc 1 1, 3) := by decide +kernel
theorem dX9_day_61 : decode cX9_day 61 = .ok (.goto (-25), 3) := by decide +kernel
theorem dX9_day_64 : decode cX9_day 64 = .ok (.aload_n 0, 1) := by decide +kernel
theorem dX9_day_65 : decode cX9_day 65 = .ok (.getfield 28, 3) := by decide +kernel
theorem dX9_day_68 : decode cX9_day 68 = .ok (.iconst 0, 1) := by decide +kernel
theorem dX9_day_69 : decode cX9_day 69 = .ok (.iaload, 1) := by decide +kernel
theorem dX9_day_70 : decode cX9_day 70 = .ok (.ireturn, 1) := by decide +kernel
theorem dX9_weighs_0 : decode cX9_weighs 0 = .ok (.aload_n 0, 1) := by decide +kernel
theorem dX9_weighs_1 : decode cX9_weighs 1 = .ok (.iconst 0, 1) := by decide +kernel
theorem dX9_weighs_2 : decode cX9_weighs 2 = .ok (.putfield 77, 3) := by decide +kernel
theorem dX9_weighs_5 : decode cX9_weighs 5 = .ok (.aload_n 0, 1) := by decide +kernel
theorem dX9_weighs_6 : decode cX9_weighs 6 = .ok (.iload_n 1, 1) := by decide +kernel
theorem dX9_weighs_7 : decode cX9_weighs 7 = .ok (.iload_n 2, 1) := by decide +kernel
theorem dX9_weighs_8 : decode cX9_weighs 8 = .ok (.invokevirtual 156, 3) := by decide +kernel
theorem dX9_weighs_11 : decode cX9_weighs 11 = .ok (.ifCond .ne 5, 3) := by decide +kernel
theorem dX9_weighs_14 : decode cX9_weighs 14 = .ok (.iconst (-1), 1) := by decide +kernel
theorem dX9_weighs_15 : decode cX9_weighs 15 = .ok (.ireturn, 1) := by decide +kernel
theorem dX9_weighs_16 : decode cX9_weighs 16 = .ok (.aload_n 0, 1) := by decide +kernel
theorem dX9_weighs_17 : decode cX9_weighs 17 = .ok (.invokevirtual 195, 3) := by decide +kernel
theorem dX9_weighs_20 : decode cX9_weighs 20 = .ok (.aload_n 0, 1) := by decide +kernel
theorem dX9_weighs_21 : decode cX9_weighs 21 = .ok (.iload_n 1, 1) := by decide +kernel
theorem dX9_weighs_22 : decode cX9_weighs 22 = .ok (.invokevirtual 150, 3) := by decide +kernel
theorem dX9_weighs_25 : decode cX9_weighs 25 = .ok (.aload_n 0, 1) := by decide +kernel
theorem dX9_weighs_26 : decode cX9_weighs 26 = .ok (.iload_n 2, 1) := by decide +kernel
theorem dX9_weighs_27 : decode cX9_weighs 27 = .ok (.invokevirtual 150, 3) := by decide +kernel
theorem dX9_weighs_30 : decode cX9_weighs 30 = .ok (.isub, 1) := by decide +kernel
theorem dX9_weighs_31 : decode cX9_weighs 31 = .ok (.istore_n 3, 1) := by decide +kernel
theorem dX9_weighs_32 : decode cX9_weighs 32 = .ok (.iload_n 3, 1) := by decide +kernel
theorem dX9_weighs_33 : decode cX9_weighs 33 = .ok (.ifCond .le 7, 3) := by decide +kernel
theorem dX9_weighs_36 : decode cX9_weighs 36 = .ok (.iconst 1, 1) := by decide +kernel
theorem dX9_weighs_37 : decode cX9_weighs 37 = .ok (.goto 12, 3) := by decide +kernel
theorem dX9_weighs_40 : decode cX9_weighs 40 = .ok (.iload_n 3, 1) := by decide +kernel
theorem dX9_weighs_41 : decode cX9_weighs 41 = .ok (.ifCond .ge 7, 3) := by decide +kernel
theorem dX9_weighs_44 : decode cX9_weighs 44 = .ok (.iconst 2, 1) := by decide +kernel
theorem dX9_weighs_45 : decode cX9_weighs 45 = .ok (.goto 4, 3) := by decide +kernel
theorem dX9_weighs_48 : decode cX9_weighs 48 = .ok (.iconst 0, 1) := by decide +kernel
theorem dX9_weighs_49 : decode cX9_weighs 49 = .ok (.istore 4, 2) := by decide +kernel
theorem dX9_weighs_51 : decode cX9_weighs 51 = .ok (.aload_n 0, 1) := by decide +kernel
theorem dX9_weighs_52 : decode cX9_weighs 52 = .ok (.getfield 28, 3) := by decide +kernel
theorem dX9_weighs_55 : decode cX9_weighs 55 = .ok (.bipush 17, 2) := by decide +kernel
theorem dX9_weighs_57 : decode cX9_weighs 57 = .ok (.iload_n 1, 1) := by decide +kernel
theorem dX9_weighs_58 : decode cX9_weighs 58 = .ok (.iload_n 2, 1) := by decide +kernel
theorem dX9_weighs_59 : decode cX9_weighs 59 = .ok (.invokestatic 160, 3) := by decide +kernel
theorem dX9_weighs_62 : decode cX9_weighs 62 = .ok (.iadd, 1) := by decide +kernel
theorem dX9_weighs_63 : decode cX9_weighs 63 = .ok (.iconst 1, 1) := by decide +kernel
theorem dX9_weighs_64 : decode cX9_weighs 64 = .ok (.iload_n 1, 1) := by decide +kernel
theorem dX9_weighs_65 : decode cX9_weighs 65 = .ok (.iload_n 2, 1) := by decide +kernel
theorem dX9_weighs_66 : decode cX9_weighs 66 = .ok (.if_icmp .ge 8, 3) := by decide +kernel
theorem dX9_weighs_69 : decode cX9_weighs 69 = .ok (.iload 4, 2) := by decide +kernel
theorem dX9_weighs_71 : decode cX9_weighs 71 = .ok (.goto 8, 3) := by decide +kernel
theorem dX9_weighs_74 : decode cX9_weighs 74 = .ok (.iload 4, 2) := by decide +kernel
theorem dX9_weighs_76 : decode cX9_weighs 76 = .ok (.invokestatic 163, 3) := by decide +kernel
theorem dX9_weighs_79 : decode cX9_weighs 79 = .ok (.iadd, 1) := by decide +kernel
theorem dX9_weighs_80 : decode cX9_weighs 80 = .ok (.iastore, 1) := by decide +kernel
theorem dX9_weighs_81 : decode cX9_weighs 81 = .ok (.iload 4, 2) := by decide +kernel
theorem dX9_weighs_83 : decode cX9_weighs 83 = .ok (.ireturn, 1) := by decide +kernel
theorem dX9_forgets_0 : decode cX9_forgets 0 = .ok (.aload_n 0, 1) := by decide +kernel
theorem dX9_forgets_1 : decode cX9_forgets 1 = .ok (.iconst 0, 1) := by decide +kernel
theorem dX9_forgets_2 : decode cX9_forgets 2 = .ok (.putfield 77, 3) := by decide +kernel
theorem dX9_forgets_5 : decode cX9_forgets 5 = .ok (.aload_n 0, 1) := by decide +kernel
theorem dX9_forgets_6 : decode cX9_forgets 6 = .ok (.invokevirtual 195, 3) := by decide +kernel
theorem dX9_forgets_9 : decode cX9_forgets 9 = .ok (.aload_n 0, 1) := by decide +kernel
theorem dX9_forgets_10 : decode cX9_forgets 10 = .ok (.invokevirtual 186, 3) := by decide +kernel
theorem dX9_forgets_13 : decode cX9_forgets 13 = .ok (.istore_n 1, 1) := by decide +kernel
theorem dX9_forgets_14 : decode cX9_forgets 14 = .ok (.iconst 0, 1) := by decide +kernel
theorem dX9_forgets_15 : decode cX9_forgets 15 = .ok (.istore_n 2, 1) := by decide +kernel
theorem dX9_forgets_16 : decode cX9_forgets 16 = .ok (.iload_n 2, 1) := by decide +kernel
theorem dX9_forgets_17 : decode cX9_forgets 17 = .ok (.bipush 6, 2) := by decide +kernel
theorem dX9_forgets_19 : decode cX9_forgets 19 = .ok (.if_icmp .ge 19, 3) := by decide +kernel
theorem dX9_forgets_22 : decode cX9_forgets 22 = .ok (.aload_n 0, 1) := by decide +kernel
theorem dX9_forgets_23 : decode cX9_forgets 23 = .ok (.getfield 28, 3) := by decide +kernel
theorem dX9_forgets_26 : decode cX9_forgets 26 = .ok (.bipush 17, 2) := by decide +kernel
theorem dX9_forgets_28 : decode cX9_forgets 28 = .ok (.iload_n 2, 1) := by decide +kernel
theorem dX9_forgets_29 : decode cX9_forgets 29 = .ok (.iadd, 1) := by decide +kernel
theorem dX9_forgets_30 : decode cX9_forgets 30 = .ok (.iconst 0, 1) := by decide +kernel
theorem dX9_forgets_31 : decode cX9_forgets 31 = .ok (.iastore, 1) := by decide +kernel
theorem dX9_forgets_32 : decode cX9_forgets 32 = .ok (.iinc 2 1, 3) := by decide +kernel
theorem dX9_forgets_35 : decode cX9_forgets 35 = .ok (.goto (-19), 3) := by decide +kernel
theorem dX9_forgets_38 : decode cX9_forgets 38 = .ok (.iload_n 1, 1) := by decide +kernel
theorem dX9_forgets_39 : decode cX9_forgets 39 = .ok (.ireturn, 1) := by decide +kernel
theorem dX9_undo_0 : decode cX9_undo 0 = .ok (.aload_n 0, 1) := by decide +kernel
theorem dX9_undo_1 : decode cX9_undo 1 = .ok (.iconst 0, 1) := by decide +kernel
theorem dX9_undo_2 : decode cX9_undo 2 = .ok (.putfield 77, 3) := by decide +kernel
theorem dX9_undo_5 : decode cX9_undo 5 = .ok (.aload_n 0, 1) := by decide +kernel
theorem dX9_undo_6 : decode cX9_undo 6 = .ok (.getfield 135, 3) := by decide +kernel
theorem dX9_undo_9 : decode cX9_undo 9 = .ok (.ifCond .ne 6, 3) := by decide +kernel
theorem dX9_undo_12 : decode cX9_undo 12 = .ok (.bipush (-2), 2) := by decide +kernel
theorem dX9_undo_14 : decode cX9_undo 14 = .ok (.ireturn, 1) := by decide +kernel
theorem dX9_undo_15 : decode cX9_undo 15 = .ok (.aload_n 0, 1) := by decide +kernel
theorem dX9_undo_16 : decode cX9_undo 16 = .ok (.dup, 1) := by decide +kernel
theorem dX9_undo_17 : decode cX9_undo 17 = .ok (.getfield 135, 3) := by decide +kernel
theorem dX9_undo_20 : decode cX9_undo 20 = .ok (.iconst 1, 1) := by decide +kernel
theorem dX9_undo_21 : decode cX9_undo 21 = .ok (.isub, 1) := by decide +kernel
theorem dX9_undo_22 : decode cX9_undo 22 = .ok (.putfield 135, 3) := by decide +kernel
theorem dX9_undo_25 : decode cX9_undo 25 = .ok (.iconst 0, 1) := by decide +kernel
theorem dX9_undo_26 : decode cX9_undo 26 = .ok (.istore_n 1, 1) := by decide +kernel
theorem dX9_undo_27 : decode cX9_undo 27 = .ok (.iload_n 1, 1) := by decide +kernel
theorem dX9_undo_28 : decode cX9_undo 28 = .ok (.bipush 23, 2) := by decide +kernel
theorem dX9_undo_30 : decode cX9_undo 30 = .ok (.if_icmp .ge 29, 3) := by decide +kernel
theorem dX9_undo_33 : decode cX9_undo 33 = .ok (.aload_n 0, 1) := by decide +kernel
theorem dX9_undo_34 : decode cX9_undo 34 = .ok (.getfield 28, 3) := by decide +kernel
theorem dX9_undo_37 : decode cX9_undo 37 = .ok (.iload_n 1, 1) := by decide +kernel
theorem dX9_undo_38 : decode cX9_undo 38 = .ok (.aload_n 0, 1) := by decide +kernel
theorem dX9_undo_39 : decode cX9_undo 39 = .ok (.getfield 38, 3) := by decide +kernel
theorem dX9_undo_42 : decode cX9_undo 42 = .ok (.bipush 23, 2) := by decide +kernel
theorem dX9_undo_44 : decode cX9_undo 44 = .ok (.aload_n 0, 1) := by decide +kernel
theorem dX9_undo_45 : decode cX9_undo 45 = .ok (.getfield 135, 3) := by decide +kernel
theorem dX9_undo_48 : decode cX9_undo 48 = .ok (.imul, 1) := by decide +kernel
theorem dX9_undo_49 : decode cX9_undo 49 = .ok (.iload_n 1, 1) := by decide +kernel
theorem dX9_undo_50 : decode cX9_undo 50 = .ok (.iadd, 1) := by decide +kernel
theorem dX9_undo_51 : decode cX9_undo 51 = .ok (.iaload, 1) := by decide +kernel
theorem dX9_undo_52 : decode cX9_undo 52 = .ok (.iastore, 1) := by decide +kernel
theorem dX9_undo_53 : decode cX9_undo 53 = .ok (.iinc 1 1, 3) := by decide +kernel
theorem dX9_undo_56 : decode cX9_undo 56 = .ok (.goto (-29), 3) := by decide +kernel
theorem dX9_undo_59 : decode cX9_undo 59 = .ok (.aload_n 0, 1) := by decide +kernel
theorem dX9_undo_60 : decode cX9_undo 60 = .ok (.getfield 135, 3) := by decide +kernel
theorem dX9_undo_63 : decode cX9_undo 63 = .ok (.ireturn, 1) := by decide +kernel
theorem dX9_beam_0 : decode cX9_beam 0 = .ok (.aload_n 0, 1) := by decide +kernel
theorem dX9_beam_1 : decode cX9_beam 1 = .ok (.iconst 0, 1) := by decide +kernel
theorem dX9_beam_2 : decode cX9_beam 2 = .ok (.putfield 77, 3) := by decide +kernel
theorem dX9_beam_5 : decode cX9_beam 5 = .ok (.aload_n 0, 1) := by decide +kernel
theorem dX9_beam_6 : decode cX9_beam 6 = .ok (.iload_n 1, 1) := by decide +kernel
theorem dX9_beam_7 : decode cX9_beam 7 = .ok (.iload_n 2, 1) := by decide +kernel
theorem dX9_beam_8 : decode cX9_beam 8 = .ok (.invokevirtual 156, 3) := by decide +kernel
theorem dX9_beam_11 : decode cX9_beam 11 = .ok (.ifCond .eq 17, 3) := by decide +kernel
theorem dX9_beam_14 : decode cX9_beam 14 = .ok (.aload_n 0, 1) := by decide +kernel
theorem dX9_beam_15 : decode cX9_beam 15 = .ok (.iload_n 1, 1) := by decide +kernel
theorem dX9_beam_16 : decode cX9_beam 16 = .ok (.invokevirtual 150, 3) := by decide +kernel
theorem dX9_beam_19 : decode cX9_beam 19 = .ok (.aload_n 0, 1) := by decide +kernel
theorem dX9_beam_20 : decode cX9_beam 20 = .ok (.iload_n 2, 1) := by decide +kernel
theorem dX9_beam_21 : decode cX9_beam 21 = .ok (.invokevirtual 150, 3) := by decide +kernel
theorem dX9_beam_24 : decode cX9_beam 24 = .ok (.isub, 1) := by decide +kernel
theorem dX9_beam_25 : decode cX9_beam 25 = .ok (.goto 5, 3) := by decide +kernel
theorem dX9_beam_28 : decode cX9_beam 28 = .ok (.ldc 202, 2) := by decide +kernel
theorem dX9_beam_30 : decode cX9_beam 30 = .ok (.ireturn, 1) := by decide +kernel
theorem dX9_sheds_0 : decode cX9_sheds 0 = .ok (.iconst 0, 1) := by decide +kernel
theorem dX9_sheds_1 : decode cX9_sheds 1 = .ok (.istore_n 3, 1) := by decide +kernel
theorem dX9_sheds_2 : decode cX9_sheds 2 = .ok (.iload_n 3, 1) := by decide +kernel
theorem dX9_sheds_3 : decode cX9_sheds 3 = .ok (.sipush 721, 3) := by decide +kernel
theorem dX9_sheds_6 : decode cX9_sheds 6 = .ok (.if_icmp .ge 19, 3) := by decide +kernel
theorem dX9_sheds_9 : decode cX9_sheds 9 = .ok (.aload_n 0, 1) := by decide +kernel
theorem dX9_sheds_10 : decode cX9_sheds 10 = .ok (.getfield 65, 3) := by decide +kernel
theorem dX9_sheds_13 : decode cX9_sheds 13 = .ok (.iload_n 1, 1) := by decide +kernel
theorem dX9_sheds_14 : decode cX9_sheds 14 = .ok (.iload_n 3, 1) := by decide +kernel
theorem dX9_sheds_15 : decode cX9_sheds 15 = .ok (.iadd, 1) := by decide +kernel
theorem dX9_sheds_16 : decode cX9_sheds 16 = .ok (.ldc 175, 2) := by decide +kernel
theorem dX9_sheds_18 : decode cX9_sheds 18 = .ok (.iastore, 1) := by decide +kernel
theorem dX9_sheds_19 : decode cX9_sheds 19 = .ok (.iinc 3 1, 3) := by decide +kernel
theorem dX9_sheds_22 : decode cX9_sheds 22 = .ok (.goto (-20), 3) := by decide +kernel
theorem dX9_sheds_25 : decode cX9_sheds 25 = .ok (.aload_n 0, 1) := by decide +kernel
theorem dX9_sheds_26 : decode cX9_sheds 26 = .ok (.iload_n 2, 1) := by decide +kernel
theorem dX9_sheds_27 : decode cX9_sheds 27 = .ok (.invokevirtual 150, 3) := by decide +kernel
theorem dX9_sheds_30 : decode cX9_sheds 30 = .ok (.istore_n 3, 1) := by decide +kernel
theorem dX9_sheds_31 : decode cX9_sheds 31 = .ok (.iconst 0, 1) := by decide +kernel
theorem dX9_sheds_32 : decode cX9_sheds 32 = .ok (.istore 4, 2) := by decide +kernel
theorem dX9_sheds_34 : decode cX9_sheds 34 = .ok (.iload 4, 2) := by decide +kernel
theorem dX9_sheds_36 : decode cX9_sheds 36 = .ok (.sipush 10000, 3) := by decide +kernel
theorem dX9_sheds_39 : decode cX9_sheds 39 = .ok (.if_icmp .ge 98, 3) := by decide +kernel
theorem dX9_sheds_42 : decode cX9_sheds 42 = .ok (.aload_n 0, 1) := by decide +kernel
theorem dX9_sheds_43 : decode cX9_sheds 43 = .ok (.iload_n 2, 1) := by decide +kernel
theorem dX9_sheds_44 : decode cX9_sheds 44 = .ok (.iload 4, 2) := by decide +kernel
theorem dX9_sheds_46 : decode cX9_sheds 46 = .ok (.invokevirtual 203, 3) := by decide +kernel
theorem dX9_sheds_49 : decode cX9_sheds 49 = .ok (.ifCond .eq 82, 3) := by decide +kernel
theorem dX9_sheds_52 : decode cX9_sheds 52 = .ok (.iload_n 3, 1) := by decide +kernel
theorem dX9_sheds_53 : decode cX9_sheds 53 = .ok (.aload_n 0, 1) := by decide +kernel
theorem dX9_sheds_54 : decode cX9_sheds 54 = .ok (.iload 4, 2) := by decide +kernel
theorem dX9_sheds_56 : decode cX9_sheds 56 = .ok (.invokevirtual 206, 3) := by decide +kernel
theorem dX9_sheds_59 : decode cX9_sheds 59 = .ok (.isub, 1) := by decide +kernel
theorem dX9_sheds_60 : decode cX9_sheds 60 = .ok (.istore 5, 2) := by decide +kernel
theorem dX9_sheds_62 : decode cX9_sheds 62 = .ok (.iload 4, 2) := by decide +kernel
theorem dX9_sheds_64 : decode cX9_sheds 64 = .ok (.sipush 1000, 3) := by decide +kernel
theorem dX9_sheds_67 : decode cX9_sheds 67 = .ok (.idiv, 1) := by decide +kernel
theorem dX9_sheds_68 : decode cX9_sheds 68 = .ok (.iload 4, 2) := by decide +kernel
theorem dX9_sheds_70 : decode cX9_sheds 70 = .ok (.bipush 100, 2) := by decide +kernel
theorem dX9_sheds_72 : decode cX9_sheds 72 = .ok (.idiv, 1) := by decide +kernel
theorem dX9_sheds_73 : decode cX9_sheds 73 = .ok (.bipush 10, 2) := by decide +kernel
theorem dX9_sheds_75 : decode cX9_sheds 75 = .ok (.irem, 1) := by decide +kernel
theorem dX9_sheds_76 : decode cX9_sheds 76 = .ok (.iadd, 1) := by decide +kernel
theorem dX9_sheds_77 : decode cX9_sheds 77 = .ok (.iload 4, 2) := by decide +kernel
theorem dX9_sheds_79 : decode cX9_sheds 79 = .ok (.bipush 10, 2) := by decide +kernel
theorem dX9_sheds_81 : decode cX9_sheds 81 = .ok (.idiv, 1) := by decide +kernel
theorem dX9_sheds_82 : decode cX9_sheds 82 = .ok (.bipush 10, 2) := by decide +kernel
theorem dX9_sheds_84 : decode cX9_sheds 84 = .ok (.irem, 1) := by decide +kernel
theorem dX9_sheds_85 : decode cX9_sheds 85 = .ok (.iadd, 1) := by decide +kernel
theorem dX9_sheds_86 : decode cX9_sheds 86 = .ok (.iload 4, 2) := by decide +kernel
theorem dX9_sheds_88 : decode cX9_sheds 88 = .ok (.bipush 10, 2) := by decide +kernel
theorem dX9_sheds_90 : decode cX9_sheds 90 = .ok (.irem, 1) := by decide +kernel
theorem dX9_sheds_91 : decode cX9_sheds 91 = .ok (.iadd, 1) := by decide +kernel
theorem dX9_sheds_92 : decode cX9_sheds 92 = .ok (.istore 6, 2) := by decide +kernel
theorem dX9_sheds_94 : decode cX9_sheds 94 = .ok (.aload_n 0, 1) := by decide +kernel
theorem dX9_sheds_95 : decode cX9_sheds 95 = .ok (.getfield 65, 3) := by decide +kernel
theorem dX9_sheds_98 : decode cX9_sheds 98 = .ok (.iload_n 1, 1) := by decide +kernel
theorem dX9_sheds_99 : decode cX9_sheds 99 = .ok (.iload 5, 2) := by decide +kernel
theorem dX9_sheds_101 : decode cX9_sheds 101 = .ok (.iadd, 1) := by decide +kernel
theorem dX9_sheds_102 : decode cX9_sheds 102 = .ok (.iload 6, 2) := by decide +kernel
theorem dX9_sheds_104 : decode cX9_sheds 104 = .ok (.aload_n 0, 1) := by decide +kernel
theorem dX9_sheds_105 : decode cX9_sheds 105 = .ok (.getfield 65, 3) := by decide +kernel
theorem dX9_sheds_108 : decode cX9_sheds 108 = .ok (.iload_n 1, 1) := by decide +kernel
theorem dX9_sheds_109 : decode cX9_sheds 109 = .ok (.iload 5, 2) := by decide +kernel
theorem dX9_sheds_111 : decode cX9_sheds 111 = .ok (.iadd, 1) := by decide +kernel
theorem dX9_sheds_112 : decode cX9_sheds 112 = .ok (.iaload, 1) := by decide +kernel
theorem dX9_sheds_113 : decode cX9_sheds 113 = .ok (.if_icmp .ge 8, 3) := by decide +kernel
theorem dX9_sheds_116 : decode cX9_sheds 116 = .ok (.iload 6, 2) := by decide +kernel
theorem dX9_sheds_118 : decode cX9_sheds 118 = .ok (.goto 12, 3) := by decide +kernel
theorem dX9_sheds_121 : decode cX9_sheds 121 = .ok (.aload_n 0, 1) := by decide +kernel
theorem dX9_sheds_122 : decode cX9_sheds 122 = .ok (.getfield 65, 3) := by decide +kernel
theorem dX9_sheds_125 : decode cX9_sheds 125 = .ok (.iload_n 1, 1) := by decide +kernel
theorem dX9_sheds_126 : decode cX9_sheds 126 = .ok (.iload 5, 2) := by decide +kernel
theorem dX9_sheds_128 : decode cX9_sheds 128 = .ok (.iadd, 1) := by decide +kernel
theorem dX9_sheds_129 : decode cX9_sheds 129 = .ok (.iaload, 1) := by decide +kernel
theorem dX9_sheds_130 : decode cX9_sheds 130 = .ok (.iastore, 1) := by decide +kernel
theorem dX9_sheds_131 : decode cX9_sheds 131 = .ok (.iinc 4 1, 3) := by decide +kernel
theorem dX9_sheds_134 : decode cX9_sheds 134 = .ok (.goto (-100), 3) := by decide +kernel
theorem dX9_sheds_137 : decode cX9_sheds 137 = .ok (.return_, 1) := by decide +kernel
theorem dX9_canSay_0 : decode cX9_canSay 0 = .ok (.iconst 1, 1) := by decide +kernel
theorem dX9_canSay_1 : decode cX9_canSay 1 = .ok (.iconst 4, 1) := by decide +kernel
theorem dX9_canSay_2 : decode cX9_canSay 2 = .ok (.iload_n 1, 1) := by decide +kernel
theorem dX9_canSay_3 : decode cX9_canSay 3 = .ok (.imul, 1) := by decide +kernel
theorem dX9_canSay_4 : decode cX9_canSay 4 = .ok (.iadd, 1) := by decide +kernel
theorem dX9_canSay_5 : decode cX9_canSay 5 = .ok (.istore_n 3, 1) := by decide +kernel
theorem dX9_canSay_6 : decode cX9_canSay 6 = .ok (.iload_n 2, 1) := by decide +kernel
theorem dX9_canSay_7 : decode cX9_canSay 7 = .ok (.sipush 1000, 3) := by decide +kernel
theorem dX9_canSay_10 : decode cX9_canSay 10 = .ok (.idiv, 1) := by decide +kernel
theorem dX9_canSay_11 : decode cX9_canSay 11 = .ok (.aload_n 0, 1) := by decide +kernel
theorem dX9_canSay_12 : decode cX9_canSay 12 = .ok (.getfield 28, 3) := by decide +kernel
theorem dX9_canSay_15 : decode cX9_canSay 15 = .ok (.iload_n 3, 1) := by decide +kernel
theorem dX9_canSay_16 : decode cX9_canSay 16 = .ok (.iaload, 1) := by decide +kernel
theorem dX9_canSay_17 : decode cX9_canSay 17 = .ok (.if_icmp .gt 58, 3) := by decide +kernel
theorem dX9_canSay_20 : decode cX9_canSay 20 = .ok (.iload_n 2, 1) := by decide +kernel
theorem dX9_canSay_21 : decode cX9_canSay 21 = .ok (.bipush 100, 2) := by decide +kernel
theorem dX9_canSay_23 : decode cX9_canSay 23 = .ok (.idiv, 1) := by decide +kernel
theorem dX9_canSay_24 : decode cX9_canSay 24 = .ok (.bipush 10, 2) := by decide +kernel
theorem dX9_canSay_26 : decode cX9_canSay 26 = .ok (.irem, 1) := by decide +kernel
theorem dX9_canSay_27 : decode cX9_canSay 27 = .ok (.aload_n 0, 1) := by decide +kernel
theorem dX9_canSay_28 : decode cX9_canSay 28 = .ok (.getfield 28, 3) := by decide +kernel
theorem dX9_canSay_31 : decode cX9_canSay 31 = .ok (.iload_n 3, 1) := by decide +kernel
theorem dX9_canSay_32 : decode cX9_canSay 32 = .ok (.iconst 1, 1) := by decide +kernel
theorem dX9_canSay_33 : decode cX9_canSay 33 = .ok (.iadd, 1) := by decide +kernel
theorem dX9_canSay_34 : decode cX9_canSay 34 = .ok (.iaload, 1) := by decide +kernel
theorem dX9_canSay_35 : decode cX9_canSay 35 = .ok (.if_icmp .gt 40, 3) := by decide +kernel
theorem dX9_canSay_38 : decode cX9_canSay 38 = .ok (.iload_n 2, 1) := by decide +kernel
theorem dX9_canSay_39 : decode cX9_canSay 39 = .ok (.bipush 10, 2) := by decide +kernel
theorem dX9_canSay_41 : decode cX9_canSay 41 = .ok (.idiv, 1) := by decide +kernel
theorem dX9_canSay_42 : decode cX9_canSay 42 = .ok (.bipush 10, 2) := by decide +kernel
theorem dX9_canSay_44 : decode cX9_canSay 44 = .ok (.irem, 1) := by decide +kernel
theorem dX9_canSay_45 : decode cX9_canSay 45 = .ok (.aload_n 0, 1) := by decide +kernel
theorem dX9_canSay_46 : decode cX9_canSay 46 = .ok (.getfield 28, 3) := by decide +kernel
theorem dX9_canSay_49 : decode cX9_canSay 49 = .ok (.iload_n 3, 1) := by decide +kernel
theorem dX9_canSay_50 : decode cX9_canSay 50 = .ok (.iconst 2, 1) := by decide +kernel
theorem dX9_canSay_51 : decode cX9_canSay 51 = .ok (.iadd, 1) := by decide +kernel
theorem dX9_canSay_52 : decode cX9_canSay 52 = .ok (.iaload, 1) := by decide +kernel
theorem dX9_canSay_53 : decode cX9_canSay 53 = .ok (.if_icmp .gt 22, 3) := by decide +kernel
theorem dX9_canSay_56 : decode cX9_canSay 56 = .ok (.iload_n 2, 1) := by decide +kernel
theorem dX9_canSay_57 : decode cX9_canSay 57 = .ok (.bipush 10, 2) := by decide +kernel
theorem dX9_canSay_59 : decode cX9_canSay 59 = .ok (.irem, 1) := by decide +kernel
theorem dX9_canSay_60 : decode cX9_canSay 60 = .ok (.aload_n 0, 1) := by decide +kernel
theorem dX9_canSay_61 : decode cX9_canSay 61 = .ok (.getfield 28, 3) := by decide +kernel
theorem dX9_canSay_64 : decode cX9_canSay 64 = .ok (.iload_n 3, 1) := by decide +kernel
theorem dX9_canSay_65 : decode cX9_canSay 65 = .ok (.iconst 3, 1) := by decide +kernel
theorem dX9_canSay_66 : decode cX9_canSay 66 = .ok (.iadd, 1) := by decide +kernel
theorem dX9_canSay_67 : decode cX9_canSay 67 = .ok (.iaload, 1) := by decide +kernel
theorem dX9_canSay_68 : decode cX9_canSay 68 = .ok (.if_icmp .gt 7, 3) := by decide +kernel
theorem dX9_canSay_71 : decode cX9_canSay 71 = .ok (.iconst 1, 1) := by decide +kernel
theorem dX9_canSay_72 : decode cX9_canSay 72 = .ok (.goto 4, 3) := by decide +kernel
theorem dX9_canSay_75 : decode cX9_canSay 75 = .ok (.iconst 0, 1) := by decide +kernel
theorem dX9_canSay_76 : decode cX9_canSay 76 = .ok (.ireturn, 1) := by decide +kernel
theorem dX9_weighsOf_0 : decode cX9_weighsOf 0 = .ok (.aload_n 0, 1) := by decide +kernel
theorem dX9_weighsOf_1 : decode cX9_weighsOf 1 = .ok (.getfield 16, 3) := by decide +kernel
theorem dX9_weighsOf_4 : decode cX9_weighsOf 4 = .ok (.iconst 0, 1) := by decide +kernel
theorem dX9_weighsOf_5 : decode cX9_weighsOf 5 = .ok (.iaload, 1) := by decide +kernel
theorem dX9_weighsOf_6 : decode cX9_weighsOf 6 = .ok (.iload_n 1, 1) := by decide +kernel
theorem dX9_weighsOf_7 : decode cX9_weighsOf 7 = .ok (.sipush 1000, 3) := by decide +kernel
theorem dX9_weighsOf_10 : decode cX9_weighsOf 10 = .ok (.idiv, 1) := by decide +kernel
theorem dX9_weighsOf_11 : decode cX9_weighsOf 11 = .ok (.imul, 1) := by decide +kernel
theorem dX9_weighsOf_12 : decode cX9_weighsOf 12 = .ok (.aload_n 0, 1) := by decide +kernel
theorem dX9_weighsOf_13 : decode cX9_weighsOf 13 = .ok (.getfield 16, 3) := by decide +kernel
theorem dX9_weighsOf_16 : decode cX9_weighsOf 16 = .ok (.iconst 1, 1) := by decide +kernel
theorem dX9_weighsOf_17 : decode cX9_weighsOf 17 = .ok (.iaload, 1) := by decide +kernel
theorem dX9_weighsOf_18 : decode cX9_weighsOf 18 = .ok (.iload_n 1, 1) := by decide +kernel
theorem dX9_weighsOf_19 : decode cX9_weighsOf 19 = .ok (.bipush 100, 2) := by decide +kernel
theorem dX9_weighsOf_21 : decode cX9_weighsOf 21 = .ok (.idiv, 1) := by decide +kernel
theorem dX9_weighsOf_22 : decode cX9_weighsOf 22 = .ok (.bipush 10, 2) := by decide +kernel
theorem dX9_weighsOf_24 : decode cX9_weighsOf 24 = .ok (.irem, 1) := by decide +kernel
theorem dX9_weighsOf_25 : decode cX9_weighsOf 25 = .ok (.imul, 1) := by decide +kernel
theorem dX9_weighsOf_26 : decode cX9_weighsOf 26 = .ok (.iadd, 1) := by decide +kernel
theorem dX9_weighsOf_27 : decode cX9_weighsOf 27 = .ok (.aload_n 0, 1) := by decide +kernel
theorem dX9_weighsOf_28 : decode cX9_weighsOf 28 = .ok (.getfield 16, 3) := by decide +kernel
theorem dX9_weighsOf_31 : decode cX9_weighsOf 31 = .ok (.iconst 2, 1) := by decide +kernel
theorem dX9_weighsOf_32 : decode cX9_weighsOf 32 = .ok (.iaload, 1) := by decide +kernel
theorem dX9_weighsOf_33 : decode cX9_weighsOf 33 = .ok (.iload_n 1, 1) := by decide +kernel
theorem dX9_weighsOf_34 : decode cX9_weighsOf 34 = .ok (.bipush 10, 2) := by decide +kernel
theorem dX9_weighsOf_36 : decode cX9_weighsOf 36 = .ok (.idiv, 1) := by decide +kernel
theorem dX9_weighsOf_37 : decode cX9_weighsOf 37 = .ok (.bipush 10, 2) := by decide +kernel
theorem dX9_weighsOf_39 : decode cX9_weighsOf 39 = .ok (.irem, 1) := by decide +kernel
theorem dX9_weighsOf_40 : decode cX9_weighsOf 40 = .ok (.imul, 1) := by decide +kernel
theorem dX9_weighsOf_41 : decode cX9_weighsOf 41 = .ok (.iadd, 1) := by decide +kernel
theorem dX9_weighsOf_42 : decode cX9_weighsOf 42 = .ok (.aload_n 0, 1) := by decide +kernel
theorem dX9_weighsOf_43 : decode cX9_weighsOf 43 = .ok (.getfield 16, 3) := by decide +kernel
theorem dX9_weighsOf_46 : decode cX9_weighsOf 46 = .ok (.iconst 3, 1) := by decide +kernel
theorem dX9_weighsOf_47 : decode cX9_weighsOf 47 = .ok (.iaload, 1) := by decide +kernel
theorem dX9_weighsOf_48 : decode cX9_weighsOf 48 = .ok (.iload_n 1, 1) := by decide +kernel
theorem dX9_weighsOf_49 : decode cX9_weighsOf 49 = .ok (.bipush 10, 2) := by decide +kernel
theorem dX9_weighsOf_51 : decode cX9_weighsOf 51 = .ok (.irem, 1) := by decide +kernel
theorem dX9_weighsOf_52 : decode cX9_weighsOf 52 = .ok (.imul, 1) := by decide +kernel
theorem dX9_weighsOf_53 : decode cX9_weighsOf 53 = .ok (.iadd, 1) := by decide +kernel
theorem dX9_weighsOf_54 : decode cX9_weighsOf 54 = .ok (.ireturn, 1) := by decide +kernel
theorem dX9_wayOf_0 : decode cX9_wayOf 0 = .ok (.aload_n 0, 1) := by decide +kernel
theorem dX9_wayOf_1 : decode cX9_wayOf 1 = .ok (.iload_n 1, 1) := by decide +kernel
theorem dX9_wayOf_2 : decode cX9_wayOf 2 = .ok (.invokevirtual 150, 3) := by decide +kernel
theorem dX9_wayOf_5 : decode cX9_wayOf 5 = .ok (.istore 4, 2) := by decide +kernel
theorem dX9_wayOf_7 : decode cX9_wayOf 7 = .ok (.iconst 0, 1) := by decide +kernel
theorem dX9_wayOf_8 : decode cX9_wayOf 8 = .ok (.istore 5, 2) := by decide +kernel
theorem dX9_wayOf_10 : decode cX9_wayOf 10 = .ok (.aload_n 0, 1) := by decide +kernel
theorem dX9_wayOf_11 : decode cX9_wayOf 11 = .ok (.iload_n 1, 1) := by decide +kernel
theorem dX9_wayOf_12 : decode cX9_wayOf 12 = .ok (.iload 5, 2) := by decide +kernel
theorem dX9_wayOf_14 : decode cX9_wayOf 14 = .ok (.invokevirtual 203, 3) := by decide +kernel
theorem dX9_wayOf_17 : decode cX9_wayOf 17 = .ok (.ifCond .eq 50, 3) := by decide +kernel
theorem dX9_wayOf_20 : decode cX9_wayOf 20 = .ok (.iload 4, 2) := by decide +kernel
theorem dX9_wayOf_22 : decode cX9_wayOf 22 = .ok (.aload_n 0, 1) := by decide +kernel
theorem dX9_wayOf_23 : decode cX9_wayOf 23 = .ok (.iload 5, 2) := by decide +kernel
theorem dX9_wayOf_25 : decode cX9_wayOf 25 = .ok (.invokevirtual 206, 3) := by decide +kernel
theorem dX9_wayOf_28 : decode cX9_wayOf 28 = .ok (.isub, 1) := by decide +kernel
theorem dX9_wayOf_29 : decode cX9_wayOf 29 = .ok (.iload_n 2, 1) := by decide +kernel
theorem dX9_wayOf_30 : decode cX9_wayOf 30 = .ok (.if_icmp .ne 37, 3) := by decide +kernel
theorem dX9_wayOf_33 : decode cX9_wayOf 33 = .ok (.iload 5, 2) := by decide +kernel
theorem dX9_wayOf_35 : decode cX9_wayOf 35 = .ok (.sipush 1000, 3) := by decide +kernel
theorem dX9_wayOf_38 : decode cX9_wayOf 38 = .ok (.idiv, 1) := by decide +kernel
theorem dX9_wayOf_39 : decode cX9_wayOf 39 = .ok (.iload 5, 2) := by decide +kernel
theorem dX9_wayOf_41 : decode cX9_wayOf 41 = .ok (.bipush 100, 2) := by decide +kernel
theorem dX9_wayOf_43 : decode cX9_wayOf 43 = .ok (.idiv, 1) := by decide +kernel
theorem dX9_wayOf_44 : decode cX9_wayOf 44 = .ok (.bipush 10, 2) := by decide +kernel
theorem dX9_wayOf_46 : decode cX9_wayOf 46 = .ok (.irem, 1) := by decide +kernel
theorem dX9_wayOf_47 : decode cX9_wayOf 47 = .ok (.iadd, 1) := by decide +kernel
theorem dX9_wayOf_48 : decode cX9_wayOf 48 = .ok (.iload 5, 2) := by decide +kernel
theorem dX9_wayOf_50 : decode cX9_wayOf 50 = .ok (.bipush 10, 2) := by decide +kernel
theorem dX9_wayOf_52 : decode cX9_wayOf 52 = .ok (.idiv, 1) := by decide +kernel
theorem dX9_wayOf_53 : decode cX9_wayOf 53 = .ok (.bipush 10, 2) := by decide +kernel
theorem dX9_wayOf_55 : decode cX9_wayOf 55 = .ok (.irem, 1) := by decide +kernel
theorem dX9_wayOf_56 : decode cX9_wayOf 56 = .ok (.iadd, 1) := by decide +kernel
theorem dX9_wayOf_57 : decode cX9_wayOf 57 = .ok (.iload 5, 2) := by decide +kernel
theorem dX9_wayOf_59 : decode cX9_wayOf 59 = .ok (.bipush 10, 2) := by decide +kernel
theorem dX9_wayOf_61 : decode cX9_wayOf 61 = .ok (.irem, 1) := by decide +kernel
theorem dX9_wayOf_62 : decode cX9_wayOf 62 = .ok (.iadd, 1) := by decide +kernel
theorem dX9_wayOf_63 : decode cX9_wayOf 63 = .ok (.iload_n 3, 1) := by decide +kernel
theorem dX9_wayOf_64 : decode cX9_wayOf 64 = .ok (.if_icmp .eq 9, 3) := by decide +kernel
theorem dX9_wayOf_67 : decode cX9_wayOf 67 = .ok (.iinc 5 1, 3) := by decide +kernel
theorem dX9_wayOf_70 : decode cX9_wayOf 70 = .ok (.goto (-60), 3) := by decide +kernel
theorem dX9_wayOf_73 : decode cX9_wayOf 73 = .ok (.iload 5, 2) := by decide +kernel
theorem dX9_wayOf_75 : decode cX9_wayOf 75 = .ok (.ireturn, 1) := by decide +kernel
theorem dX9_level_0 : decode cX9_level 0 = .ok (.aload_n 0, 1) := by decide +kernel
theorem dX9_level_1 : decode cX9_level 1 = .ok (.iconst 0, 1) := by decide +kernel
theorem dX9_level_2 : decode cX9_level 2 = .ok (.putfield 77, 3) := by decide +kernel
theorem dX9_level_5 : decode cX9_level 5 = .ok (.aload_n 0, 1) := by decide +kernel
theorem dX9_level_6 : decode cX9_level 6 = .ok (.iload_n 1, 1) := by decide +kernel
theorem dX9_level_7 : decode cX9_level 7 = .ok (.iload_n 2, 1) := by decide +kernel
theorem dX9_level_8 : decode cX9_level 8 = .ok (.invokevirtual 156, 3) := by decide +kernel
theorem dX9_level_11 : decode cX9_level 11 = .ok (.ifCond .eq 13, 3) := by decide +kernel
theorem dX9_level_14 : decode cX9_level 14 = .ok (.iload_n 3, 1) := by decide +kernel
theorem dX9_level_15 : decode cX9_level 15 = .ok (.iconst 0, 1) := by decide +kernel
theorem dX9_level_16 : decode cX9_level 16 = .ok (.bipush 9, 2) := by decide +kernel
theorem dX9_level_18 : decode cX9_level 18 = .ok (.invokestatic 81, 3) := by decide +kernel
theorem dX9_level_21 : decode cX9_level 21 = .ok (.ifCond .ne 5, 3) := by decide +kernel
theorem dX9_level_24 : decode cX9_level 24 = .ok (.iconst (-1), 1) := by decide +kernel
theorem dX9_level_25 : decode cX9_level 25 = .ok (.ireturn, 1) := by decide +kernel
theorem dX9_level_26 : decode cX9_level 26 = .ok (.aload_n 0, 1) := by decide +kernel
theorem dX9_level_27 : decode cX9_level 27 = .ok (.iconst 0, 1) := by decide +kernel
theorem dX9_level_28 : decode cX9_level 28 = .ok (.iload_n 1, 1) := by decide +kernel
theorem dX9_level_29 : decode cX9_level 29 = .ok (.invokevirtual 209, 3) := by decide +kernel
theorem dX9_level_32 : decode cX9_level 32 = .ok (.aload_n 0, 1) := by decide +kernel
theorem dX9_level_33 : decode cX9_level 33 = .ok (.sipush 721, 3) := by decide +kernel
theorem dX9_level_36 : decode cX9_level 36 = .ok (.iload_n 2, 1) := by decide +kernel
theorem dX9_level_37 : decode cX9_level 37 = .ok (.invokevirtual 209, 3) := by decide +kernel
theorem dX9_level_40 : decode cX9_level 40 = .ok (.iconst 0, 1) := by decide +kernel
theorem dX9_level_41 : decode cX9_level 41 = .ok (.istore 4, 2) := by decide +kernel
theorem dX9_level_43 : decode cX9_level 43 = .ok (.iconst 0, 1) := by decide +kernel
theorem dX9_level_44 : decode cX9_level 44 = .ok (.istore 5, 2) := by decide +kernel
theorem dX9_level_46 : decode cX9_level 46 = .ok (.iload 5, 2) := by decide +kernel
theorem dX9_level_48 : decode cX9_level 48 = .ok (.sipush 721, 3) := by decide +kernel
theorem dX9_level_51 : decode cX9_level 51 = .ok (.if_icmp .ge 59, 3) := by decide +kernel
theorem dX9_level_54 : decode cX9_level 54 = .ok (.aload_n 0, 1) := by decide +kernel
theorem dX9_level_55 : decode cX9_level 55 = .ok (.getfield 65, 3) := by decide +kernel
theorem dX9_level_58 : decode cX9_level 58 = .ok (.iload 5, 2) := by decide +kernel
theorem dX9_level_60 : decode cX9_level 60 = .ok (.iaload, 1) := by decide +kernel
theorem dX9_level_61 : decode cX9_level 61 = .ok (.aload_n 0, 1) := by decide +kernel
theorem dX9_level_62 : decode cX9_level 62 = .ok (.getfield 65, 3) := by decide +kernel
theorem dX9_level_65 : decode cX9_level 65 = .ok (.sipush 721, 3) := by decide +kernel
theorem dX9_level_68 : decode cX9_level 68 = .ok (.iload 5, 2) := by decide +kernel
theorem dX9_level_70 : decode cX9_level 70 = .ok (.iadd, 1) := by decide +kernel
theorem dX9_level_71 : decode cX9_level 71 = .ok (.iaload, 1) := by decide +kernel
theorem dX9_level_72 : decode cX9_level 72 = .ok (.iadd, 1) := by decide +kernel
theorem dX9_level_73 : decode cX9_level 73 = .ok (.aload_n 0, 1) := by decide +kernel
theorem dX9_level_74 : decode cX9_level 74 = .ok (.getfield 65, 3) := by decide +kernel
theorem dX9_level_77 : decode cX9_level 77 = .ok (.iload 4, 2) := by decide +kernel
theorem dX9_level_79 : decode cX9_level 79 = .ok (.iaload, 1) := by decide +kernel
theorem dX9_level_80 : decode cX9_level 80 = .ok (.aload_n 0, 1) := by decide +kernel
theorem dX9_level_81 : decode cX9_level 81 = .ok (.getfield 65, 3) := by decide +kernel
theorem dX9_level_84 : decode cX9_level 84 = .ok (.sipush 721, 3) := by decide +kernel
theorem dX9_level_87 : decode cX9_level 87 = .ok (.iload 4, 2) := by decide +kernel
theorem dX9_level_89 : decode cX9_level 89 = .ok (.iadd, 1) := by decide +kernel
theorem dX9_level_90 : decode cX9_level 90 = .ok (.iaload, 1) := by decide +kernel
theorem dX9_level_91 : decode cX9_level 91 = .ok (.iadd, 1) := by decide +kernel
theorem dX9_level_92 : decode cX9_level 92 = .ok (.if_icmp .gt 8, 3) := by decide +kernel
theorem dX9_level_95 : decode cX9_level 95 = .ok (.iload 5, 2) := by decide +kernel
theorem dX9_level_97 : decode cX9_level 97 = .ok (.goto 5, 3) := by decide +kernel
theorem dX9_level_100 : decode cX9_level 100 = .ok (.iload 4, 2) := by decide +kernel
theorem dX9_level_102 : decode cX9_level 102 = .ok (.istore 4, 2) := by decide +kernel
theorem dX9_level_104 : decode cX9_level 104 = .ok (.iinc 5 1, 3) := by decide +kernel
theorem dX9_level_107 : decode cX9_level 107 = .ok (.goto (-61), 3) := by decide +kernel
theorem dX9_level_110 : decode cX9_level 110 = .ok (.iload_n 3, 1) := by decide +kernel
theorem dX9_level_111 : decode cX9_level 111 = .ok (.iconst 2, 1) := by decide +kernel
theorem dX9_level_112 : decode cX9_level 112 = .ok (.if_icmp .ge 32, 3) := by decide +kernel
theorem dX9_level_115 : decode cX9_level 115 = .ok (.iload_n 3, 1) := by decide +kernel
theorem dX9_level_116 : decode cX9_level 116 = .ok (.ifCond .ne 25, 3) := by decide +kernel
theorem dX9_level_119 : decode cX9_level 119 = .ok (.aload_n 0, 1) := by decide +kernel
theorem dX9_level_120 : decode cX9_level 120 = .ok (.getfield 65, 3) := by decide +kernel
theorem dX9_level_123 : decode cX9_level 123 = .ok (.iload 4, 2) := by decide +kernel
theorem dX9_level_125 : decode cX9_level 125 = .ok (.iaload, 1) := by decide +kernel
theorem dX9_level_126 : decode cX9_level 126 = .ok (.aload_n 0, 1) := by decide +kernel
theorem dX9_level_127 : decode cX9_level 127 = .ok (.getfield 65, 3) := by decide +kernel
theorem dX9_level_130 : decode cX9_level 130 = .ok (.sipush 721, 3) := by decide +kernel
theorem dX9_level_133 : decode cX9_level 133 = .ok (.iload 4, 2) := by decide +kernel
theorem dX9_level_135 : decode cX9_level 135 = .ok (.iadd, 1) := by decide +kernel
theorem dX9_level_136 : decode cX9_level 136 = .ok (.iaload, 1) := by decide +kernel
theorem dX9_level_137 : decode cX9_level 137 = .ok (.iadd, 1) := by decide +kernel
theorem dX9_level_138 : decode cX9_level 138 = .ok (.goto 5, 3) := by decide +kernel
theorem dX9_level_141 : decode cX9_level 141 = .ok (.iload 4, 2) := by decide +kernel
theorem dX9_level_143 : decode cX9_level 143 = .ok (.ireturn, 1) := by decide +kernel
theorem dX9_level_144 : decode cX9_level 144 = .ok (.iload_n 3, 1) := by decide +kernel
theorem dX9_level_145 : decode cX9_level 145 = .ok (.bipush 6, 2) := by decide +kernel
theorem dX9_level_147 : decode cX9_level 147 = .ok (.if_icmp .ge 20, 3) := by decide +kernel
theorem dX9_level_150 : decode cX9_level 150 = .ok (.aload_n 0, 1) := by decide +kernel
theorem dX9_level_151 : decode cX9_level 151 = .ok (.iload_n 1, 1) := by decide +kernel
theorem dX9_level_152 : decode cX9_level 152 = .ok (.iload 4, 2) := by decide +kernel
theorem dX9_level_154 : decode cX9_level 154 = .ok (.aload_n 0, 1) := by decide +kernel
theorem dX9_level_155 : decode cX9_level 155 = .ok (.getfield 65, 3) := by decide +kernel
theorem dX9_level_158 : decode cX9_level 158 = .ok (.iload 4, 2) := by decide +kernel
theorem dX9_level_160 : decode cX9_level 160 = .ok (.iaload, 1) := by decide +kernel
theorem dX9_level_161 : decode cX9_level 161 = .ok (.invokevirtual 213, 3) := by decide +kernel
theorem dX9_level_164 : decode cX9_level 164 = .ok (.goto 21, 3) := by decide +kernel
theorem dX9_level_167 : decode cX9_level 167 = .ok (.aload_n 0, 1) := by decide +kernel
theorem dX9_level_168 : decode cX9_level 168 = .ok (.iload_n 2, 1) := by decide +kernel
theorem dX9_level_169 : decode cX9_level 169 = .ok (.iload 4, 2) := by decide +kernel
theorem dX9_level_171 : decode cX9_level 171 = .ok (.aload_n 0, 1) := by decide +kernel
theorem dX9_level_172 : decode cX9_level 172 = .ok (.getfield 65, 3) := by decide +kernel
theorem dX9_level_175 : decode cX9_level 175 = .ok (.sipush 721, 3) := by decide +kernel
theorem dX9_level_178 : decode cX9_level 178 = .ok (.iload 4, 2) := by decide +kernel
theorem dX9_level_180 : decode cX9_level 180 = .ok (.iadd, 1) := by decide +kernel
theorem dX9_level_181 : decode cX9_level 181 = .ok (.iaload, 1) := by decide +kernel
theorem dX9_level_182 : decode cX9_level 182 = .ok (.invokevirtual 213, 3) := by decide +kernel
theorem dX9_level_185 : decode cX9_level 185 = .ok (.istore 5, 2) := by decide +kernel
theorem dX9_level_187 : decode cX9_level 187 = .ok (.iload_n 3, 1) := by decide +kernel
theorem dX9_level_188 : decode cX9_level 188 = .ok (.iconst 2, 1) := by decide +kernel
theorem dX9_level_189 : decode cX9_level 189 = .ok (.isub, 1) := by decide +kernel
theorem dX9_level_190 : decode cX9_level 190 = .ok (.iconst 4, 1) := by decide +kernel
theorem dX9_level_191 : decode cX9_level 191 = .ok (.irem, 1) := by decide +kernel
theorem dX9_level_192 : decode cX9_level 192 = .ok (.istore 6, 2) := by decide +kernel
theorem dX9_level_194 : decode cX9_level 194 = .ok (.iload 6, 2) := by decide +kernel
theorem dX9_level_196 : decode cX9_level 196 = .ok (.ifCond .ne 12, 3) := by decide +kernel
theorem dX9_level_199 : decode cX9_level 199 = .ok (.iload 5, 2) := by decide +kernel
theorem dX9_level_201 : decode cX9_level 201 = .ok (.sipush 1000, 3) := by decide +kernel
theorem dX9_level_204 : decode cX9_level 204 = .ok (.idiv, 1) := by decide +kernel
theorem dX9_level_205 : decode cX9_level 205 = .ok (.goto 42, 3) := by decide +kernel
theorem dX9_level_208 : decode cX9_level 208 = .ok (.iload 6, 2) := by decide +kernel
theorem dX9_level_210 : decode cX9_level 210 = .ok (.iconst 1, 1) := by decide +kernel
theorem dX9_level_211 : decode cX9_level 211 = .ok (.if_icmp .ne 14, 3) := by decide +kernel
theorem dX9_level_214 : decode cX9_level 214 = .ok (.iload 5, 2) := by decide +kernel
theorem dX9_level_216 : decode cX9_level 216 = .ok (.bipush 100, 2) := by decide +kernel
theorem dX9_level_218 : decode cX9_level 218 = .ok (.idiv, 1) := by decide +kernel
theorem dX9_level_219 : decode cX9_level 219 = .ok (.bipush 10, 2) := by decide +kernel
theorem dX9_level_221 : decode cX9_level 221 = .ok (.irem, 1) := by decide +kernel
theorem dX9_level_222 : decode cX9_level 222 = .ok (.goto 25, 3) := by decide +kernel
theorem dX9_level_225 : decode cX9_level 225 = .ok (.iload 6, 2) := by decide +kernel
theorem dX9_level_227 : decode cX9_level 227 = .ok (.iconst 2, 1) := by decide +kernel
theorem dX9_level_228 : decode cX9_level 228 = .ok (.if_icmp .ne 14, 3) := by decide +kernel
theorem dX9_level_231 : decode cX9_level 231 = .ok (.iload 5, 2) := by decide +kernel
theorem dX9_level_233 : decode cX9_level 233 = .ok (.bipush 10, 2) := by decide +kernel
theorem dX9_level_235 : decode cX9_level 235 = .ok (.idiv, 1) := by decide +kernel
theorem dX9_level_236 : decode cX9_level 236 = .ok (.bipush 10, 2) := by decide +kernel
theorem dX9_level_238 : decode cX9_level 238 = .ok (.irem, 1) := by decide +kernel
theorem dX9_level_239 : decode cX9_level 239 = .ok (.goto 8, 3) := by decide +kernel
theorem dX9_level_242 : decode cX9_level 242 = .ok (.iload 5, 2) := by decide +kernel
theorem dX9_level_244 : decode cX9_level 244 = .ok (.bipush 10, 2) := by decide +kernel
theorem dX9_level_246 : decode cX9_level 246 = .ok (.irem, 1) := by decide +kernel
theorem dX9_level_247 : decode cX9_level 247 = .ok (.ireturn, 1) := by decide +kernel
theorem dX9_heavinessThen_0 : decode cX9_heavinessThen 0 = .ok (.iconst 0, 1) := by decide +kernel
theorem dX9_heavinessThen_1 : decode cX9_heavinessThen 1 = .ok (.istore_n 3, 1) := by decide +kernel
theorem dX9_heavinessThen_2 : decode cX9_heavinessThen 2 = .ok (.iconst 0, 1) := by decide +kernel
theorem dX9_heavinessThen_3 : decode cX9_heavinessThen 3 = .ok (.istore 4, 2) := by decide +kernel
theorem dX9_heavinessThen_5 : decode cX9_heavinessThen 5 = .ok (.iload 4, 2) := by decide +kernel
theorem dX9_heavinessThen_7 : decode cX9_heavinessThen 7 = .ok (.iconst 4, 1) := by decide +kernel
theorem dX9_heavinessThen_8 : decode cX9_heavinessThen 8 = .ok (.if_icmp .ge 63, 3) := by decide +kernel
theorem dX9_heavinessThen_11 : decode cX9_heavinessThen 11 = .ok (.aload_n 0, 1) := by decide +kernel
theorem dX9_heavinessThen_12 : decode cX9_heavinessThen 12 = .ok (.getfield 28, 3) := by decide +kernel
theorem dX9_heavinessThen_15 : decode cX9_heavinessThen 15 = .ok (.iconst 1, 1) := by decide +kernel
theorem dX9_heavinessThen_16 : decode cX9_heavinessThen 16 = .ok (.iconst 4, 1) := by decide +kernel
theorem dX9_heavinessThen_17 : decode cX9_heavinessThen 17 = .ok (.iload_n 1, 1) := by decide +kernel
theorem dX9_heavinessThen_18 : decode cX9_heavinessThen 18 = .ok (.imul, 1) := by decide +kernel
theorem dX9_heavinessThen_19 : decode cX9_heavinessThen 19 = .ok (.iadd, 1) := by decide +kernel
theorem dX9_heavinessThen_20 : decode cX9_heavinessThen 20 = .ok (.iload 4, 2) := by decide +kernel
theorem dX9_heavinessThen_22 : decode cX9_heavinessThen 22 = .ok (.iadd, 1) := by decide +kernel
theorem dX9_heavinessThen_23 : decode cX9_heavinessThen 23 = .ok (.iaload, 1) := by decide +kernel
theorem dX9_heavinessThen_24 : decode cX9_heavinessThen 24 = .ok (.iload_n 2, 1) := by decide +kernel
theorem dX9_heavinessThen_25 : decode cX9_heavinessThen 25 = .ok (.aload_n 0, 1) := by decide +kernel
theorem dX9_heavinessThen_26 : decode cX9_heavinessThen 26 = .ok (.getfield 22, 3) := by decide +kernel
theorem dX9_heavinessThen_29 : decode cX9_heavinessThen 29 = .ok (.iconst 4, 1) := by decide +kernel
theorem dX9_heavinessThen_30 : decode cX9_heavinessThen 30 = .ok (.iload_n 1, 1) := by decide +kernel
theorem dX9_heavinessThen_31 : decode cX9_heavinessThen 31 = .ok (.imul, 1) := by decide +kernel
theorem dX9_heavinessThen_32 : decode cX9_heavinessThen 32 = .ok (.iload 4, 2) := by decide +kernel
theorem dX9_heavinessThen_34 : decode cX9_heavinessThen 34 = .ok (.iadd, 1) := by decide +kernel
theorem dX9_heavinessThen_35 : decode cX9_heavinessThen 35 = .ok (.iaload, 1) := by decide +kernel
theorem dX9_heavinessThen_36 : decode cX9_heavinessThen 36 = .ok (.imul, 1) := by decide +kernel
theorem dX9_heavinessThen_37 : decode cX9_heavinessThen 37 = .ok (.iadd, 1) := by decide +kernel
theorem dX9_heavinessThen_38 : decode cX9_heavinessThen 38 = .ok (.istore 5, 2) := by decide +kernel
theorem dX9_heavinessThen_40 : decode cX9_heavinessThen 40 = .ok (.iload_n 3, 1) := by decide +kernel
theorem dX9_heavinessThen_41 : decode cX9_heavinessThen 41 = .ok (.aload_n 0, 1) := by decide +kernel
theorem dX9_heavinessThen_42 : decode cX9_heavinessThen 42 = .ok (.getfield 16, 3) := by decide +kernel
theorem dX9_heavinessThen_45 : decode cX9_heavinessThen 45 = .ok (.iload 4, 2) := by decide +kernel
theorem dX9_heavinessThen_47 : decode cX9_heavinessThen 47 = .ok (.iaload, 1) := by decide +kernel
theorem dX9_heavinessThen_48 : decode cX9_heavinessThen 48 = .ok (.iload 5, 2) := by decide +kernel
theorem dX9_heavinessThen_50 : decode cX9_heavinessThen 50 = .ok (.bipush 9, 2) := by decide +kernel
theorem dX9_heavinessThen_52 : decode cX9_heavinessThen 52 = .ok (.if_icmp .le 8, 3) := by decide +kernel
theorem dX9_heavinessThen_55 : decode cX9_heavinessThen 55 = .ok (.bipush 9, 2) := by decide +kernel
theorem dX9_heavinessThen_57 : decode cX9_heavinessThen 57 = .ok (.goto 5, 3) := by decide +kernel
theorem dX9_heavinessThen_60 : decode cX9_heavinessThen 60 = .ok (.iload 5, 2) := by decide +kernel
theorem dX9_heavinessThen_62 : decode cX9_heavinessThen 62 = .ok (.imul, 1) := by decide +kernel
theorem dX9_heavinessThen_63 : decode cX9_heavinessThen 63 = .ok (.iadd, 1) := by decide +kernel
theorem dX9_heavinessThen_64 : decode cX9_heavinessThen 64 = .ok (.istore_n 3, 1) := by decide +kernel
theorem dX9_heavinessThen_65 : decode cX9_heavinessThen 65 = .ok (.iinc 4 1, 3) := by decide +kernel
theorem dX9_heavinessThen_68 : decode cX9_heavinessThen 68 = .ok (.goto (-63), 3) := by decide +kernel
theorem dX9_heavinessThen_71 : decode cX9_heavinessThen 71 = .ok (.iload_n 3, 1) := by decide +kernel
theorem dX9_heavinessThen_72 : decode cX9_heavinessThen 72 = .ok (.ireturn, 1) := by decide +kernel
theorem dX9_when_0 : decode cX9_when 0 = .ok (.aload_n 0, 1) := by decide +kernel
theorem dX9_when_1 : decode cX9_when 1 = .ok (.iconst 0, 1) := by decide +kernel
theorem dX9_when_2 : decode cX9_when 2 = .ok (.putfield 77, 3) := by decide +kernel
theorem dX9_when_5 : decode cX9_when 5 = .ok (.aload_n 0, 1) := by decide +kernel
theorem dX9_when_6 : decode cX9_when 6 = .ok (.iload_n 1, 1) := by decide +kernel
theorem dX9_when_7 : decode cX9_when 7 = .ok (.iload_n 2, 1) := by decide +kernel
theorem dX9_when_8 : decode cX9_when 8 = .ok (.invokevirtual 156, 3) := by decide +kernel
theorem dX9_when_11 : decode cX9_when 11 = .ok (.ifCond .ne 5, 3) := by decide +kernel
theorem dX9_when_14 : decode cX9_when 14 = .ok (.iconst (-1), 1) := by decide +kernel
theorem dX9_when_15 : decode cX9_when 15 = .ok (.ireturn, 1) := by decide +kernel
theorem dX9_when_16 : decode cX9_when 16 = .ok (.iconst 0, 1) := by decide +kernel
theorem dX9_when_17 : decode cX9_when 17 = .ok (.istore_n 3, 1) := by decide +kernel
theorem dX9_when_18 : decode cX9_when 18 = .ok (.iload_n 3, 1) := by decide +kernel
theorem dX9_when_19 : decode cX9_when 19 = .ok (.bipush 100, 2) := by decide +kernel
theorem dX9_when_21 : decode cX9_when 21 = .ok (.if_icmp .ge 33, 3) := by decide +kernel
theorem dX9_when_24 : decode cX9_when 24 = .ok (.aload_n 0, 1) := by decide +kernel
theorem dX9_when_25 : decode cX9_when 25 = .ok (.iload_n 1, 1) := by decide +kernel
theorem dX9_when_26 : decode cX9_when 26 = .ok (.iload_n 3, 1) := by decide +kernel
theorem dX9_when_27 : decode cX9_when 27 = .ok (.invokevirtual 217, 3) := by decide +kernel
theorem dX9_when_30 : decode cX9_when 30 = .ok (.aload_n 0, 1) := by decide +kernel
theorem dX9_when_31 : decode cX9_when 31 = .ok (.iload_n 2, 1) := by decide +kernel
theorem dX9_when_32 : decode cX9_when 32 = .ok (.iload_n 3, 1) := by decide +kernel
theorem dX9_when_33 : decode cX9_when 33 = .ok (.invokevirtual 217, 3) := by decide +kernel
theorem dX9_when_36 : decode cX9_when 36 = .ok (.if_icmp .le 12, 3) := by decide +kernel
theorem dX9_when_39 : decode cX9_when 39 = .ok (.aload_n 0, 1) := by decide +kernel
theorem dX9_when_40 : decode cX9_when 40 = .ok (.getfield 28, 3) := by decide +kernel
theorem dX9_when_43 : decode cX9_when 43 = .ok (.iconst 0, 1) := by decide +kernel
theorem dX9_when_44 : decode cX9_when 44 = .ok (.iaload, 1) := by decide +kernel
theorem dX9_when_45 : decode cX9_when 45 = .ok (.iload_n 3, 1) := by decide +kernel
theorem dX9_when_46 : decode cX9_when 46 = .ok (.iadd, 1) := by decide +kernel
theorem dX9_when_47 : decode cX9_when 47 = .ok (.ireturn, 1) := by decide +kernel
theorem dX9_when_48 : decode cX9_when 48 = .ok (.iinc 3 1, 3) := by decide +kernel
theorem dX9_when_51 : decode cX9_when 51 = .ok (.goto (-33), 3) := by decide +kernel
theorem dX9_when_54 : decode cX9_when 54 = .ok (.bipush (-9), 2) := by decide +kernel
theorem dX9_when_56 : decode cX9_when 56 = .ok (.ireturn, 1) := by decide +kernel
theorem dX9_gcd_0 : decode cX9_gcd 0 = .ok (.lload_n 0, 1) := by decide +kernel
theorem dX9_gcd_1 : decode cX9_gcd 1 = .ok (.lstore 4, 2) := by decide +kernel
theorem dX9_gcd_3 : decode cX9_gcd 3 = .ok (.lload_n 2, 1) := by decide +kernel
theorem dX9_gcd_4 : decode cX9_gcd 4 = .ok (.lstore 6, 2) := by decide +kernel
theorem dX9_gcd_6 : decode cX9_gcd 6 = .ok (.lload 6, 2) := by decide +kernel
theorem dX9_gcd_8 : decode cX9_gcd 8 = .ok (.lconst 0, 1) := by decide +kernel
theorem dX9_gcd_9 : decode cX9_gcd 9 = .ok (.lcmp, 1) := by decide +kernel
theorem dX9_gcd_10 : decode cX9_gcd 10 = .ok (.ifCond .eq 21, 3) := by decide +kernel
theorem dX9_gcd_13 : decode cX9_gcd 13 = .ok (.lload 4, 2) := by decide +kernel
theorem dX9_gcd_15 : decode cX9_gcd 15 = .ok (.lload 6, 2) := by decide +kernel
theorem dX9_gcd_17 : decode cX9_gcd 17 = .ok (.lrem, 1) := by decide +kernel
theorem dX9_gcd_18 : decode cX9_gcd 18 = .ok (.lstore 8, 2) := by decide +kernel
theorem dX9_gcd_20 : decode cX9_gcd 20 = .ok (.lload 6, 2) := by decide +kernel
theorem dX9_gcd_22 : decode cX9_gcd 22 = .ok (.lstore 4, 2) := by decide +kernel
theorem dX9_gcd_24 : decode cX9_gcd 24 = .ok (.lload 8, 2) := by decide +kernel
theorem dX9_gcd_26 : decode cX9_gcd 26 = .ok (.lstore 6, 2) := by decide +kernel
theorem dX9_gcd_28 : decode cX9_gcd 28 = .ok (.goto (-22), 3) := by decide +kernel
theorem dX9_gcd_31 : decode cX9_gcd 31 = .ok (.lload 4, 2) := by decide +kernel
theorem dX9_gcd_33 : decode cX9_gcd 33 = .ok (.lreturn, 1) := by decide +kernel
theorem dX9_odds_0 : decode cX9_odds 0 = .ok (.aload_n 0, 1) := by decide +kernel
theorem dX9_odds_1 : decode cX9_odds 1 = .ok (.iconst 0, 1) := by decide +kernel
theorem dX9_odds_2 : decode cX9_odds 2 = .ok (.putfield 77, 3) := by decide +kernel
theorem dX9_odds_5 : decode cX9_odds 5 = .ok (.aload_n 0, 1) := by decide +kernel
theorem dX9_odds_6 : decode cX9_odds 6 = .ok (.iload_n 1, 1) := by decide +kernel
theorem dX9_odds_7 : decode cX9_odds 7 = .ok (.iload_n 2, 1) := by decide +kernel
theorem dX9_odds_8 : decode cX9_odds 8 = .ok (.invokevirtual 156, 3) := by decide +kernel
theorem dX9_odds_11 : decode cX9_odds 11 = .ok (.ifCond .eq 31, 3) := by decide +kernel
theorem dX9_odds_14 : decode cX9_odds 14 = .ok (.iload_n 3, 1) := by decide +kernel
theorem dX9_odds_15 : decode cX9_odds 15 = .ok (.invokestatic 147, 3) := by decide +kernel
theorem dX9_odds_18 : decode cX9_odds 18 = .ok (.ifCond .eq 24, 3) := by decide +kernel
theorem dX9_odds_21 : decode cX9_odds 21 = .ok (.iload 4, 2) := by decide +kernel
theorem dX9_odds_23 : decode cX9_odds 23 = .ok (.iconst 0, 1) := by decide +kernel
theorem dX9_odds_24 : decode cX9_odds 24 = .ok (.bipush 10, 2) := by decide +kernel
theorem dX9_odds_26 : decode cX9_odds 26 = .ok (.invokestatic 81, 3) := by decide +kernel
theorem dX9_odds_29 : decode cX9_odds 29 = .ok (.ifCond .eq 13, 3) := by decide +kernel
theorem dX9_odds_32 : decode cX9_odds 32 = .ok (.iload 5, 2) := by decide +kernel
theorem dX9_odds_34 : decode cX9_odds 34 = .ok (.iconst 0, 1) := by decide +kernel
theorem dX9_odds_35 : decode cX9_odds 35 = .ok (.iconst 1, 1) := by decide +kernel
theorem dX9_odds_36 : decode cX9_odds 36 = .ok (.invokestatic 81, 3) := by decide +kernel
theorem dX9_odds_39 : decode cX9_odds 39 = .ok (.ifCond .ne 7, 3) := by decide +kernel
theorem dX9_odds_42 : decode cX9_odds 42 = .ok (.ldc2_w 220, 3) := by decide +kernel
theorem dX9_odds_45 : decode cX9_odds 45 = .ok (.lreturn, 1) := by decide +kernel
theorem dX9_odds_46 : decode cX9_odds 46 = .ok (.aload_n 0, 1) := by decide +kernel
theorem dX9_odds_47 : decode cX9_odds 47 = .ok (.getfield 28, 3) := by decide +kernel
theorem dX9_odds_50 : decode cX9_odds 50 = .ok (.iconst 1, 1) := by decide +kernel
theorem dX9_odds_51 : decode cX9_odds 51 = .ok (.iconst 4, 1) := by decide +kernel
theorem dX9_odds_52 : decode cX9_odds 52 = .ok (.iload_n 1, 1) := by decide +kernel
theorem dX9_odds_53 : decode cX9_odds 53 = .ok (.imul, 1) := by decide +kernel
theorem dX9_odds_54 : decode cX9_odds 54 = .ok (.iadd, 1) := by decide +kernel
theorem dX9_odds_55 : decode cX9_odds 55 = .ok (.iload_n 3, 1) := by decide +kernel
theorem dX9_odds_56 : decode cX9_odds 56 = .ok (.iadd, 1) := by decide +kernel
theorem dX9_odds_57 : decode cX9_odds 57 = .ok (.iaload, 1) := by decide +kernel
theorem dX9_odds_58 : decode cX9_odds 58 = .ok (.istore 6, 2) := by decide +kernel
theorem dX9_odds_60 : decode cX9_odds 60 = .ok (.aload_n 0, 1) := by decide +kernel
theorem dX9_odds_61 : decode cX9_odds 61 = .ok (.iload_n 1, 1) := by decide +kernel
theorem dX9_odds_62 : decode cX9_odds 62 = .ok (.invokevirtual 150, 3) := by decide +kernel
theorem dX9_odds_65 : decode cX9_odds 65 = .ok (.aload_n 0, 1) := by decide +kernel
theorem dX9_odds_66 : decode cX9_odds 66 = .ok (.iload_n 2, 1) := by decide +kernel
theorem dX9_odds_67 : decode cX9_odds 67 = .ok (.invokevirtual 150, 3) := by decide +kernel
theorem dX9_odds_70 : decode cX9_odds 70 = .ok (.isub, 1) := by decide +kernel
theorem dX9_odds_71 : decode cX9_odds 71 = .ok (.istore 7, 2) := by decide +kernel
theorem dX9_odds_73 : decode cX9_odds 73 = .ok (.lconst 0, 1) := by decide +kernel
theorem dX9_odds_74 : decode cX9_odds 74 = .ok (.lstore 8, 2) := by decide +kernel
theorem dX9_odds_76 : decode cX9_odds 76 = .ok (.lconst 1, 1) := by decide +kernel
theorem dX9_odds_77 : decode cX9_odds 77 = .ok (.lstore 10, 2) := by decide +kernel
theorem dX9_odds_79 : decode cX9_odds 79 = .ok (.iconst 0, 1) := by decide +kernel
theorem dX9_odds_80 : decode cX9_odds 80 = .ok (.istore 12, 2) := by decide +kernel
theorem dX9_odds_82 : decode cX9_odds 82 = .ok (.iload 12, 2) := by decide +kernel
theorem dX9_odds_84 : decode cX9_odds 84 = .ok (.iload 6, 2) := by decide +kernel
theorem dX9_odds_86 : decode cX9_odds 86 = .ok (.if_icmp .ge 17, 3) := by decide +kernel
theorem dX9_odds_89 : decode cX9_odds 89 = .ok (.lload 10, 2) := by decide +kernel
theorem dX9_odds_91 : decode cX9_odds 91 = .ok (.ldc2_w 222, 3) := by decide +kernel
theorem dX9_odds_94 : decode cX9_odds 94 = .ok (.lmul, 1) := by decide +kernel
theorem dX9_odds_95 : decode cX9_odds 95 = .ok (.lstore 10, 2) := by decide +kernel
theorem dX9_odds_97 : decode cX9_odds 97 = .ok (.iinc 12 1, 3) := by decide +kernel
theorem dX9_odds_100 : decode cX9_odds 100 = .ok (.goto (-18), 3) := by decide +kernel
theorem dX9_odds_103 : decode cX9_odds 103 = .ok (.iconst 0, 1) := by decide +kernel
theorem dX9_odds_104 : decode cX9_odds 104 = .ok (.istore 12, 2) := by decide +kernel
theorem dX9_odds_106 : decode cX9_odds 106 = .ok (.iload 12, 2) := by decide +kernel
theorem dX9_odds_108 : decode cX9_odds 108 = .ok (.iconst 1, 1) := by decide +kernel
theorem dX9_odds_109 : decode cX9_odds 109 = .ok (.iload 6, 2) := by decide +kernel
theorem dX9_odds_111 : decode cX9_odds 111 = .ok (.ishl, 1) := by decide +kernel
theorem dX9_odds_112 : decode cX9_odds 112 = .ok (.if_icmp .ge 97, 3) := by decide +kernel
theorem dX9_odds_115 : decode cX9_odds 115 = .ok (.lconst 1, 1) := by decide +kernel
theorem dX9_odds_116 : decode cX9_odds 116 = .ok (.lstore 13, 2) := by decide +kernel
theorem dX9_odds_118 : decode cX9_odds 118 = .ok (.iconst 0, 1) := by decide +kernel
theorem dX9_odds_119 : decode cX9_odds 119 = .ok (.istore 15, 2) := by decide +kernel
theorem dX9_odds_121 : decode cX9_odds 121 = .ok (.iconst 0, 1) := by decide +kernel
theorem dX9_odds_122 : decode cX9_odds 122 = .ok (.istore 16, 2) := by decide +kernel
theorem dX9_odds_124 : decode cX9_odds 124 = .ok (.iload 16, 2) := by decide +kernel
theorem dX9_odds_126 : decode cX9_odds 126 = .ok (.iload 6, 2) := by decide +kernel
theorem dX9_odds_128 : decode cX9_odds 128 = .ok (.if_icmp .ge 49, 3) := by decide +kernel
theorem dX9_odds_131 : decode cX9_odds 131 = .ok (.lload 13, 2) := by decide +kernel
theorem dX9_odds_133 : decode cX9_odds 133 = .ok (.iload 12, 2) := by decide +kernel
theorem dX9_odds_135 : decode cX9_odds 135 = .ok (.iload 16, 2) := by decide +kernel
theorem dX9_odds_137 : decode cX9_odds 137 = .ok (.ishr, 1) := by decide +kernel
theorem dX9_odds_138 : decode cX9_odds 138 = .ok (.iconst 1, 1) := by decide +kernel
theorem dX9_odds_139 : decode cX9_odds 139 = .ok (.iand, 1) := by decide +kernel
theorem dX9_odds_140 : decode cX9_odds 140 = .ok (.iconst 1, 1) := by decide +kernel
theorem dX9_odds_141 : decode cX9_odds 141 = .ok (.if_icmp .ne 9, 3) := by decide +kernel
theorem dX9_odds_144 : decode cX9_odds 144 = .ok (.iload 4, 2) := by decide +kernel
theorem dX9_odds_146 : decode cX9_odds 146 = .ok (.i2l, 1) := by decide +kernel
theorem dX9_odds_147 : decode cX9_odds 147 = .ok (.goto 9, 3) := by decide +kernel
theorem dX9_odds_150 : decode cX9_odds 150 = .ok (.bipush 10, 2) := by decide +kernel
theorem dX9_odds_152 : decode cX9_odds 152 = .ok (.iload 4, 2) := by decide +kernel
theorem dX9_odds_154 : decode cX9_odds 154 = .ok (.isub, 1) := by decide +kernel
theorem dX9_odds_155 : decode cX9_odds 155 = .ok (.i2l, 1) := by decide +kernel
theorem dX9_odds_156 : decode cX9_odds 156 = .ok (.lmul, 1) := by decide +kernel
theorem dX9_odds_157 : decode cX9_odds 157 = .ok (.lstore 13, 2) := by decide +kernel
theorem dX9_odds_159 : decode cX9_odds 159 = .ok (.iload 15, 2) := by decide +kernel
theorem dX9_odds_161 : decode cX9_odds 161 = .ok (.iload 12, 2) := by decide +kernel
theorem dX9_odds_163 : decode cX9_odds 163 = .ok (.iload 16, 2) := by decide +kernel
theorem dX9_odds_165 : decode cX9_odds 165 = .ok (.ishr, 1) := by decide +kernel
theorem dX9_odds_166 : decode cX9_odds 166 = .ok (.iconst 1, 1) := by decide +kernel
theorem dX9_odds_167 : decode cX9_odds 167 = .ok (.iand, 1) := by decide +kernel
theorem dX9_odds_168 : decode cX9_odds 168 = .ok (.iadd, 1) := by decide +kernel
theorem dX9_odds_169 : decode cX9_odds 169 = .ok (.istore 15, 2) := by decide +kernel
theorem dX9_odds_171 : decode cX9_odds 171 = .ok (.iinc 16 1, 3) := by decide +kernel
theorem dX9_odds_174 : decode cX9_odds 174 = .ok (.goto (-50), 3) := by decide +kernel
theorem dX9_odds_177 : decode cX9_odds 177 = .ok (.lload 8, 2) := by decide +kernel
theorem dX9_odds_179 : decode cX9_odds 179 = .ok (.iload 7, 2) := by decide +kernel
theorem dX9_odds_181 : decode cX9_odds 181 = .ok (.iload 15, 2) := by decide +kernel
theorem dX9_odds_183 : decode cX9_odds 183 = .ok (.aload_n 0, 1) := by decide +kernel
theorem dX9_odds_184 : decode cX9_odds 184 = .ok (.getfield 16, 3) := by decide +kernel
theorem dX9_odds_187 : decode cX9_odds 187 = .ok (.iload_n 3, 1) := by decide +kernel
theorem dX9_odds_188 : decode cX9_odds 188 = .ok (.iaload, 1) := by decide +kernel
theorem dX9_odds_189 : decode cX9_odds 189 = .ok (.imul, 1) := by decide +kernel
theorem dX9_odds_190 : decode cX9_odds 190 = .ok (.isub, 1) := by decide +kernel
theorem dX9_odds_191 : decode cX9_odds 191 = .ok (.ifCond .ge 8, 3) := by decide +kernel
theorem dX9_odds_194 : decode cX9_odds 194 = .ok (.lload 13, 2) := by decide +kernel
theorem dX9_odds_196 : decode cX9_odds 196 = .ok (.goto 4, 3) := by decide +kernel
theorem dX9_odds_199 : decode cX9_odds 199 = .ok (.lconst 0, 1) := by decide +kernel
theorem dX9_odds_200 : decode cX9_odds 200 = .ok (.ladd, 1) := by decide +kernel
theorem dX9_odds_201 : decode cX9_odds 201 = .ok (.lstore 8, 2) := by decide +kernel
theorem dX9_odds_203 : decode cX9_odds 203 = .ok (.iinc 12 1, 3) := by decide +kernel
theorem dX9_odds_206 : decode cX9_odds 206 = .ok (.goto (-100), 3) := by decide +kernel
theorem dX9_odds_209 : decode cX9_odds 209 = .ok (.lload 8, 2) := by decide +kernel
theorem dX9_odds_211 : decode cX9_odds 211 = .ok (.lload 10, 2) := by decide +kernel
theorem dX9_odds_213 : decode cX9_odds 213 = .ok (.invokestatic 224, 3) := by decide +kernel
theorem dX9_odds_216 : decode cX9_odds 216 = .ok (.lstore 12, 2) := by decide +kernel
theorem dX9_odds_218 : decode cX9_odds 218 = .ok (.iload 5, 2) := by decide +kernel
theorem dX9_odds_220 : decode cX9_odds 220 = .ok (.ifCond .ne 11, 3) := by decide +kernel
theorem dX9_odds_223 : decode cX9_odds 223 = .ok (.lload 8, 2) := by decide +kernel
theorem dX9_odds_225 : decode cX9_odds 225 = .ok (.lload 12, 2) := by decide +kernel
theorem dX9_odds_227 : decode cX9_odds 227 = .ok (.ldiv, 1) := by decide +kernel
theorem dX9_odds_228 : decode cX9_odds 228 = .ok (.goto 8, 3) := by decide +kernel
theorem dX9_odds_231 : decode cX9_odds 231 = .ok (.lload 10, 2) := by decide +kernel
theorem dX9_odds_233 : decode cX9_odds 233 = .ok (.lload 12, 2) := by decide +kernel
theorem dX9_odds_235 : decode cX9_odds 235 = .ok (.ldiv, 1) := by decide +kernel
theorem dX9_odds_236 : decode cX9_odds 236 = .ok (.lreturn, 1) := by decide +kernel
theorem dX9_sumOf_0 : decode cX9_sumOf 0 = .ok (.iconst 0, 1) := by decide +kernel
theorem dX9_sumOf_1 : decode cX9_sumOf 1 = .ok (.istore_n 2, 1) := by decide +kernel
theorem dX9_sumOf_2 : decode cX9_sumOf 2 = .ok (.iconst 0, 1) := by decide +kernel
theorem dX9_sumOf_3 : decode cX9_sumOf 3 = .ok (.istore_n 3, 1) := by decide +kernel
theorem dX9_sumOf_4 : decode cX9_sumOf 4 = .ok (.iload_n 3, 1) := by decide +kernel
theorem dX9_sumOf_5 : decode cX9_sumOf 5 = .ok (.aload_n 0, 1) := by decide +kernel
theorem dX9_sumOf_6 : decode cX9_sumOf 6 = .ok (.getfield 13, 3) := by decide +kernel
theorem dX9_sumOf_9 : decode cX9_sumOf 9 = .ok (.iconst 1, 1) := by decide +kernel
theorem dX9_sumOf_10 : decode cX9_sumOf 10 = .ok (.iaload, 1) := by decide +kernel
theorem dX9_sumOf_11 : decode cX9_sumOf 11 = .ok (.if_icmp .ge 31, 3) := by decide +kernel
theorem dX9_sumOf_14 : decode cX9_sumOf 14 = .ok (.iload_n 2, 1) := by decide +kernel
theorem dX9_sumOf_15 : decode cX9_sumOf 15 = .ok (.iload_n 1, 1) := by decide +kernel
theorem dX9_sumOf_16 : decode cX9_sumOf 16 = .ok (.iload_n 3, 1) := by decide +kernel
theorem dX9_sumOf_17 : decode cX9_sumOf 17 = .ok (.ishr, 1) := by decide +kernel
theorem dX9_sumOf_18 : decode cX9_sumOf 18 = .ok (.iconst 1, 1) := by decide +kernel
theorem dX9_sumOf_19 : decode cX9_sumOf 19 = .ok (.iand, 1) := by decide +kernel
theorem dX9_sumOf_20 : decode cX9_sumOf 20 = .ok (.iconst 1, 1) := by decide +kernel
theorem dX9_sumOf_21 : decode cX9_sumOf 21 = .ok (.if_icmp .ne 12, 3) := by decide +kernel
theorem dX9_sumOf_24 : decode cX9_sumOf 24 = .ok (.aload_n 0, 1) := by decide +kernel
theorem dX9_sumOf_25 : decode cX9_sumOf 25 = .ok (.getfield 25, 3) := by decide +kernel
theorem dX9_sumOf_28 : decode cX9_sumOf 28 = .ok (.iload_n 3, 1) := by decide +kernel
theorem dX9_sumOf_29 : decode cX9_sumOf 29 = .ok (.iaload, 1) := by decide +kernel
theorem dX9_sumOf_30 : decode cX9_sumOf 30 = .ok (.goto 4, 3) := by decide +kernel
theorem dX9_sumOf_33 : decode cX9_sumOf 33 = .ok (.iconst 0, 1) := by decide +kernel
theorem dX9_sumOf_34 : decode cX9_sumOf 34 = .ok (.iadd, 1) := by decide +kernel
theorem dX9_sumOf_35 : decode cX9_sumOf 35 = .ok (.istore_n 2, 1) := by decide +kernel
theorem dX9_sumOf_36 : decode cX9_sumOf 36 = .ok (.iinc 3 1, 3) := by decide +kernel
theorem dX9_sumOf_39 : decode cX9_sumOf 39 = .ok (.goto (-35), 3) := by decide +kernel
theorem dX9_sumOf_42 : decode cX9_sumOf 42 = .ok (.iload_n 2, 1) := by decide +kernel
theorem dX9_sumOf_43 : decode cX9_sumOf 43 = .ok (.ireturn, 1) := by decide +kernel
theorem dX9_pieces_0 : decode cX9_pieces 0 = .ok (.ldc 175, 2) := by decide +kernel
theorem dX9_pieces_2 : decode cX9_pieces 2 = .ok (.istore_n 2, 1) := by decide +kernel
theorem dX9_pieces_3 : decode cX9_pieces 3 = .ok (.iconst 0, 1) := by decide +kernel
theorem dX9_pieces_4 : decode cX9_pieces 4 = .ok (.istore_n 3, 1) := by decide +kernel
theorem dX9_pieces_5 : decode cX9_pieces 5 = .ok (.iload_n 3, 1) := by decide +kernel
theorem dX9_pieces_6 : decode cX9_pieces 6 = .ok (.iconst 1, 1) := by decide +kernel
theorem dX9_pieces_7 : decode cX9_pieces 7 = .ok (.aload_n 0, 1) := by decide +kernel
theorem dX9_pieces_8 : decode cX9_pieces 8 = .ok (.getfield 13, 3) := by decide +kernel
theorem dX9_pieces_11 : decode cX9_pieces 11 = .ok (.iconst 1, 1) := by decide +kernel
theorem dX9_pieces_12 : decode cX9_pieces 12 = .ok (.iaload, 1) := by decide +kernel
theorem dX9_pieces_13 : decode cX9_pieces 13 = .ok (.ishl, 1) := by decide +kernel
theorem dX9_pieces_14 : decode cX9_pieces 14 = .ok (.if_icmp .ge 136, 3) := by decide +kernel
theorem dX9_pieces_17 : decode cX9_pieces 17 = .ok (.iconst 0, 1) := by decide +kernel
theorem dX9_pieces_18 : decode cX9_pieces 18 = .ok (.istore 4, 2) := by decide +kernel
theorem dX9_pieces_20 : decode cX9_pieces 20 = .ok (.iload 4, 2) := by decide +kernel
theorem dX9_pieces_22 : decode cX9_pieces 22 = .ok (.iconst 1, 1) := by decide +kernel
theorem dX9_pieces_23 : decode cX9_pieces 23 = .ok (.aload_n 0, 1) := by decide +kernel
theorem dX9_pieces_24 : decode cX9_pieces 24 = .ok (.getfield 13, 3) := by decide +kernel
theorem dX9_pieces_27 : decode cX9_pieces 27 = .ok (.iconst 1, 1) := by decide +kernel
theorem dX9_pieces_28 : decode cX9_pieces 28 = .ok (.iaload, 1) := by decide +kernel
theorem dX9_pieces_29 : decode cX9_pieces 29 = .ok (.ishl, 1) := by decide +kernel
theorem dX9_pieces_30 : decode cX9_pieces 30 = .ok (.if_icmp .ge 114, 3) := by decide +kernel
theorem dX9_pieces_33 : decode cX9_pieces 33 = .ok (.iload_n 3, 1) := by decide +kernel
theorem dX9_pieces_34 : decode cX9_pieces 34 = .ok (.iload 4, 2) := by decide +kernel
theorem dX9_pieces_36 : decode cX9_pieces 36 = .ok (.iand, 1) := by decide +kernel
theorem dX9_pieces_37 : decode cX9_pieces 37 = .ok (.ifCond .ne 101, 3) := by decide +kernel
theorem dX9_pieces_40 : decode cX9_pieces 40 = .ok (.aload_n 0, 1) := by decide +kernel
theorem dX9_pieces_41 : decode cX9_pieces 41 = .ok (.iload_n 3, 1) := by decide +kernel
theorem dX9_pieces_42 : decode cX9_pieces 42 = .ok (.invokevirtual 183, 3) := by decide +kernel
theorem dX9_pieces_45 : decode cX9_pieces 45 = .ok (.aload_n 0, 1) := by decide +kernel
theorem dX9_pieces_46 : decode cX9_pieces 46 = .ok (.iload 4, 2) := by decide +kernel
theorem dX9_pieces_48 : decode cX9_pieces 48 = .ok (.invokevirtual 183, 3) := by decide +kernel
theorem dX9_pieces_51 : decode cX9_pieces 51 = .ok (.isub, 1) := by decide +kernel
theorem dX9_pieces_52 : decode cX9_pieces 52 = .ok (.iload_n 1, 1) := by decide +kernel
theorem dX9_pieces_53 : decode cX9_pieces 53 = .ok (.if_icmp .ne 85, 3) := by decide +kernel
theorem dX9_pieces_56 : decode cX9_pieces 56 = .ok (.iconst 0, 1) := by decide +kernel
theorem dX9_pieces_57 : decode cX9_pieces 57 = .ok (.istore 5, 2) := by decide +kernel
theorem dX9_pieces_59 : decode cX9_pieces 59 = .ok (.iconst 0, 1) := by decide +kernel
theorem dX9_pieces_60 : decode cX9_pieces 60 = .ok (.istore 6, 2) := by decide +kernel
theorem dX9_pieces_62 : decode cX9_pieces 62 = .ok (.iload 6, 2) := by decide +kernel
theorem dX9_pieces_64 : decode cX9_pieces 64 = .ok (.iconst 5, 1) := by decide +kernel
theorem dX9_pieces_65 : decode cX9_pieces 65 = .ok (.if_icmp .ge 23, 3) := by decide +kernel
theorem dX9_pieces_68 : decode cX9_pieces 68 = .ok (.iload 5, 2) := by decide +kernel
theorem dX9_pieces_70 : decode cX9_pieces 70 = .ok (.iload_n 3, 1) := by decide +kernel
theorem dX9_pieces_71 : decode cX9_pieces 71 = .ok (.iload 4, 2) := by decide +kernel
theorem dX9_pieces_73 : decode cX9_pieces 73 = .ok (.ior, 1) := by decide +kernel
theorem dX9_pieces_74 : decode cX9_pieces 74 = .ok (.iload 6, 2) := by decide +kernel
theorem dX9_pieces_76 : decode cX9_pieces 76 = .ok (.ishr, 1) := by decide +kernel
theorem dX9_pieces_77 : decode cX9_pieces 77 = .ok (.iconst 1, 1) := by decide +kernel
theorem dX9_pieces_78 : decode cX9_pieces 78 = .ok (.iand, 1) := by decide +kernel
theorem dX9_pieces_79 : decode cX9_pieces 79 = .ok (.iadd, 1) := by decide +kernel
theorem dX9_pieces_80 : decode cX9_pieces 80 = .ok (.istore 5, 2) := by decide +kernel
theorem dX9_pieces_82 : decode cX9_pieces 82 = .ok (.iinc 6 1, 3) := by decide +kernel
theorem dX9_pieces_85 : decode cX9_pieces 85 = .ok (.goto (-23), 3) := by decide +kernel
theorem dX9_pieces_88 : decode cX9_pieces 88 = .ok (.aload_n 0, 1) := by decide +kernel
theorem dX9_pieces_89 : decode cX9_pieces 89 = .ok (.iload 5, 2) := by decide +kernel
theorem dX9_pieces_91 : decode cX9_pieces 91 = .ok (.iload_n 2, 1) := by decide +kernel
theorem dX9_pieces_92 : decode cX9_pieces 92 = .ok (.if_icmp .ge 7, 3) := by decide +kernel
theorem dX9_pieces_95 : decode cX9_pieces 95 = .ok (.iload_n 3, 1) := by decide +kernel
theorem dX9_pieces_96 : decode cX9_pieces 96 = .ok (.goto 7, 3) := by decide +kernel
theorem dX9_pieces_99 : decode cX9_pieces 99 = .ok (.aload_n 0, 1) := by decide +kernel
theorem dX9_pieces_100 : decode cX9_pieces 100 = .ok (.getfield 228, 3) := by decide +kernel
theorem dX9_pieces_103 : decode cX9_pieces 103 = .ok (.putfield 228, 3) := by decide +kernel
theorem dX9_pieces_106 : decode cX9_pieces 106 = .ok (.aload_n 0, 1) := by decide +kernel
theorem dX9_pieces_107 : decode cX9_pieces 107 = .ok (.iload 5, 2) := by decide +kernel
theorem dX9_pieces_109 : decode cX9_pieces 109 = .ok (.iload_n 2, 1) := by decide +kernel
theorem dX9_pieces_110 : decode cX9_pieces 110 = .ok (.if_icmp .ge 8, 3) := by decide +kernel
theorem dX9_pieces_113 : decode cX9_pieces 113 = .ok (.iload 4, 2) := by decide +kernel
theorem dX9_pieces_115 : decode cX9_pieces 115 = .ok (.goto 7, 3) := by decide +kernel
theorem dX9_pieces_118 : decode cX9_pieces 118 = .ok (.aload_n 0, 1) := by decide +kernel
theorem dX9_pieces_119 : decode cX9_pieces 119 = .ok (.getfield 231, 3) := by decide +kernel
theorem dX9_pieces_122 : decode cX9_pieces 122 = .ok (.putfield 231, 3) := by decide +kernel
theorem dX9_pieces_125 : decode cX9_pieces 125 = .ok (.iload 5, 2) := by decide +kernel
theorem dX9_pieces_127 : decode cX9_pieces 127 = .ok (.iload_n 2, 1) := by decide +kernel
theorem dX9_pieces_128 : decode cX9_pieces 128 = .ok (.if_icmp .ge 8, 3) := by decide +kernel
theorem dX9_pieces_131 : decode cX9_pieces 131 = .ok (.iload 5, 2) := by decide +kernel
theorem dX9_pieces_133 : decode cX9_pieces 133 = .ok (.goto 4, 3) := by decide +kernel
theorem dX9_pieces_136 : decode cX9_pieces 136 = .ok (.iload_n 2, 1) := by decide +kernel
theorem dX9_pieces_137 : decode cX9_pieces 137 = .ok (.istore_n 2, 1) := by decide +kernel
theorem dX9_pieces_138 : decode cX9_pieces 138 = .ok (.iinc 4 1, 3) := by decide +kernel
theorem dX9_pieces_141 : decode cX9_pieces 141 = .ok (.goto (-121), 3) := by decide +kernel
theorem dX9_pieces_144 : decode cX9_pieces 144 = .ok (.iinc 3 1, 3) := by decide +kernel
theorem dX9_pieces_147 : decode cX9_pieces 147 = .ok (.goto (-142), 3) := by decide +kernel
theorem dX9_pieces_150 : decode cX9_pieces 150 = .ok (.iload_n 2, 1) := by decide +kernel
theorem dX9_pieces_151 : decode cX9_pieces 151 = .ok (.ireturn, 1) := by decide +kernel
theorem dX9_brass_0 : decode cX9_brass 0 = .ok (.aload_n 0, 1) := by decide +kernel
theorem dX9_brass_1 : decode cX9_brass 1 = .ok (.iconst 0, 1) := by decide +kernel
theorem dX9_brass_2 : decode cX9_brass 2 = .ok (.putfield 77, 3) := by decide +kernel
theorem dX9_brass_5 : decode cX9_brass 5 = .ok (.iload_n 1, 1) := by decide +kernel
theorem dX9_brass_6 : decode cX9_brass 6 = .ok (.iconst 0, 1) := by decide +kernel
theorem dX9_brass_7 : decode cX9_brass 7 = .ok (.sipush 300, 3) := by decide +kernel
theorem dX9_brass_10 : decode cX9_brass 10 = .ok (.invokestatic 81, 3) := by decide +kernel
theorem dX9_brass_13 : decode cX9_brass 13 = .ok (.ifCond .eq 12, 3) := by decide +kernel
theorem dX9_brass_16 : decode cX9_brass 16 = .ok (.iload_n 2, 1) := by decide +kernel
theorem dX9_brass_17 : decode cX9_brass 17 = .ok (.iconst 0, 1) := by decide +kernel
theorem dX9_brass_18 : decode cX9_brass 18 = .ok (.iconst 2, 1) := by decide +kernel
theorem dX9_brass_19 : decode cX9_brass 19 = .ok (.invokestatic 81, 3) := by decide +kernel
theorem dX9_brass_22 : decode cX9_brass 22 = .ok (.ifCond .ne 5, 3) := by decide +kernel
theorem dX9_brass_25 : decode cX9_brass 25 = .ok (.iconst (-1), 1) := by decide +kernel
theorem dX9_brass_26 : decode cX9_brass 26 = .ok (.ireturn, 1) := by decide +kernel
theorem dX9_brass_27 : decode cX9_brass 27 = .ok (.aload_n 0, 1) := by decide +kernel
theorem dX9_brass_28 : decode cX9_brass 28 = .ok (.iload_n 1, 1) := by decide +kernel
theorem dX9_brass_29 : decode cX9_brass 29 = .ok (.invokevirtual 234, 3) := by decide +kernel
theorem dX9_brass_32 : decode cX9_brass 32 = .ok (.istore_n 3, 1) := by decide +kernel
theorem dX9_brass_33 : decode cX9_brass 33 = .ok (.iload_n 3, 1) := by decide +kernel
theorem dX9_brass_34 : decode cX9_brass 34 = .ok (.ldc 175, 2) := by decide +kernel
theorem dX9_brass_36 : decode cX9_brass 36 = .ok (.if_icmp .ne 8, 3) := by decide +kernel
theorem dX9_brass_39 : decode cX9_brass 39 = .ok (.bipush (-9), 2) := by decide +kernel
theorem dX9_brass_41 : decode cX9_brass 41 = .ok (.goto 27, 3) := by decide +kernel
theorem dX9_brass_44 : decode cX9_brass 44 = .ok (.iload_n 2, 1) := by decide +kernel
theorem dX9_brass_45 : decode cX9_brass 45 = .ok (.ifCond .ne 7, 3) := by decide +kernel
theorem dX9_brass_48 : decode cX9_brass 48 = .ok (.iload_n 3, 1) := by decide +kernel
theorem dX9_brass_49 : decode cX9_brass 49 = .ok (.goto 19, 3) := by decide +kernel
theorem dX9_brass_52 : decode cX9_brass 52 = .ok (.iload_n 2, 1) := by decide +kernel
theorem dX9_brass_53 : decode cX9_brass 53 = .ok (.iconst 1, 1) := by decide +kernel
theorem dX9_brass_54 : decode cX9_brass 54 = .ok (.if_icmp .ne 10, 3) := by decide +kernel
theorem dX9_brass_57 : decode cX9_brass 57 = .ok (.aload_n 0, 1) := by decide +kernel
theorem dX9_brass_58 : decode cX9_brass 58 = .ok (.getfield 228, 3) := by decide +kernel
theorem dX9_brass_61 : decode cX9_brass 61 = .ok (.goto 7, 3) := by decide +kernel
theorem dX9_brass_64 : decode cX9_brass 64 = .ok (.aload_n 0, 1) := by decide +kernel
theorem dX9_brass_65 : decode cX9_brass 65 = .ok (.getfield 231, 3) := by decide +kernel
theorem dX9_brass_68 : decode cX9_brass 68 = .ok (.ireturn, 1) := by decide +kernel
theorem dX9_shows_0 : decode cX9_shows 0 = .ok (.aload_n 0, 1) := by decide +kernel
theorem dX9_shows_1 : decode cX9_shows 1 = .ok (.iconst 0, 1) := by decide +kernel
theorem dX9_shows_2 : decode cX9_shows 2 = .ok (.putfield 77, 3) := by decide +kernel
theorem dX9_shows_5 : decode cX9_shows 5 = .ok (.aload_n 0, 1) := by decide +kernel
theorem dX9_shows_6 : decode cX9_shows 6 = .ok (.iload_n 1, 1) := by decide +kernel
theorem dX9_shows_7 : decode cX9_shows 7 = .ok (.invokevirtual 143, 3) := by decide +kernel
theorem dX9_shows_10 : decode cX9_shows 10 = .ok (.ifCond .eq 23, 3) := by decide +kernel
theorem dX9_shows_13 : decode cX9_shows 13 = .ok (.iload_n 2, 1) := by decide +kernel
theorem dX9_shows_14 : decode cX9_shows 14 = .ok (.iconst 0, 1) := by decide +kernel
theorem dX9_shows_15 : decode cX9_shows 15 = .ok (.sipush 720, 3) := by decide +kernel
theorem dX9_shows_18 : decode cX9_shows 18 = .ok (.invokestatic 81, 3) := by decide +kernel
theorem dX9_shows_21 : decode cX9_shows 21 = .ok (.ifCond .eq 12, 3) := by decide +kernel
theorem dX9_shows_24 : decode cX9_shows 24 = .ok (.iload_n 3, 1) := by decide +kernel
theorem dX9_shows_25 : decode cX9_shows 25 = .ok (.iconst 0, 1) := by decide +kernel
theorem dX9_shows_26 : decode cX9_shows 26 = .ok (.iconst 2, 1) := by decide +kernel
theorem dX9_shows_27 : decode cX9_shows 27 = .ok (.invokestatic 81, 3) := by decide +kernel
theorem dX9_shows_30 : decode cX9_shows 30 = .ok (.ifCond .ne 5, 3) := by decide +kernel
theorem dX9_shows_33 : decode cX9_shows 33 = .ok (.iconst (-1), 1) := by decide +kernel
theorem dX9_shows_34 : decode cX9_shows 34 = .ok (.ireturn, 1) := by decide +kernel
theorem dX9_shows_35 : decode cX9_shows 35 = .ok (.aload_n 0, 1) := by decide +kernel
theorem dX9_shows_36 : decode cX9_shows 36 = .ok (.getfield 129, 3) := by decide +kernel
theorem dX9_shows_39 : decode cX9_shows 39 = .ok (.bipush 6, 2) := by decide +kernel
theorem dX9_shows_41 : decode cX9_shows 41 = .ok (.if_icmp .ne 6, 3) := by decide +kernel
theorem dX9_shows_44 : decode cX9_shows 44 = .ok (.bipush (-3), 2) := by decide +kernel
theorem dX9_shows_46 : decode cX9_shows 46 = .ok (.ireturn, 1) := by decide +kernel
theorem dX9_shows_47 : decode cX9_shows 47 = .ok (.aload_n 0, 1) := by decide +kernel
theorem dX9_shows_48 : decode cX9_shows 48 = .ok (.getfield 41, 3) := by decide +kernel
theorem dX9_shows_51 : decode cX9_shows 51 = .ok (.aload_n 0, 1) := by decide +kernel
theorem dX9_shows_52 : decode cX9_shows 52 = .ok (.getfield 129, 3) := by decide +kernel
theorem dX9_shows_55 : decode cX9_shows 55 = .ok (.iload_n 1, 1) := by decide +kernel
theorem dX9_shows_56 : decode cX9_shows 56 = .ok (.iastore, 1) := by decide +kernel
theorem dX9_shows_57 : decode cX9_shows 57 = .ok (.aload_n 0, 1) := by decide +kernel
theorem dX9_shows_58 : decode cX9_shows 58 = .ok (.getfield 44, 3) := by decide +kernel
theorem dX9_shows_61 : decode cX9_shows 61 = .ok (.aload_n 0, 1) := by decide +kernel
theorem dX9_shows_62 : decode cX9_shows 62 = .ok (.getfield 129, 3) := by decide +kernel
theorem dX9_shows_65 : decode cX9_shows 65 = .ok (.iload_n 2, 1) := by decide +kernel
theorem dX9_shows_66 : decode cX9_shows 66 = .ok (.iastore, 1) := by decide +kernel
theorem dX9_shows_67 : decode cX9_shows 67 = .ok (.aload_n 0, 1) := by decide +kernel
theorem dX9_shows_68 : decode cX9_shows 68 = .ok (.getfield 47, 3) := by decide +kernel
theorem dX9_shows_71 : decode cX9_shows 71 = .ok (.aload_n 0, 1) := by decide +kernel
theorem dX9_shows_72 : decode cX9_shows 72 = .ok (.getfield 129, 3) := by decide +kernel
theorem dX9_shows_75 : decode cX9_shows 75 = .ok (.iload_n 3, 1) := by decide +kernel
theorem dX9_shows_76 : decode cX9_shows 76 = .ok (.iastore, 1) := by decide +kernel
theorem dX9_shows_77 : decode cX9_shows 77 = .ok (.aload_n 0, 1) := by decide +kernel
theorem dX9_shows_78 : decode cX9_shows 78 = .ok (.dup, 1) := by decide +kernel
theorem dX9_shows_79 : decode cX9_shows 79 = .ok (.getfield 129, 3) := by decide +kernel
theorem dX9_shows_82 : decode cX9_shows 82 = .ok (.iconst 1, 1) := by decide +kernel
theorem dX9_shows_83 : decode cX9_shows 83 = .ok (.iadd, 1) := by decide +kernel
theorem dX9_shows_84 : decode cX9_shows 84 = .ok (.putfield 129, 3) := by decide +kernel
theorem dX9_shows_87 : decode cX9_shows 87 = .ok (.aload_n 0, 1) := by decide +kernel
theorem dX9_shows_88 : decode cX9_shows 88 = .ok (.getfield 129, 3) := by decide +kernel
theorem dX9_shows_91 : decode cX9_shows 91 = .ok (.ireturn, 1) := by decide +kernel
theorem dX9_isAsShown_0 : decode cX9_isAsShown 0 = .ok (.iconst 1, 1) := by decide +kernel
theorem dX9_isAsShown_1 : decode cX9_isAsShown 1 = .ok (.istore_n 3, 1) := by decide +kernel
theorem dX9_isAsShown_2 : decode cX9_isAsShown 2 = .ok (.iconst 0, 1) := by decide +kernel
theorem dX9_isAsShown_3 : decode cX9_isAsShown 3 = .ok (.istore 4, 2) := by decide +kernel
theorem dX9_isAsShown_5 : decode cX9_isAsShown 5 = .ok (.iload 4, 2) := by decide +kernel
theorem dX9_isAsShown_7 : decode cX9_isAsShown 7 = .ok (.aload_n 0, 1) := by decide +kernel
theorem dX9_isAsShown_8 : decode cX9_isAsShown 8 = .ok (.getfield 129, 3) := by decide +kernel
theorem dX9_isAsShown_11 : decode cX9_isAsShown 11 = .ok (.if_icmp .ge 70, 3) := by decide +kernel
theorem dX9_isAsShown_14 : decode cX9_isAsShown 14 = .ok (.iload_n 2, 1) := by decide +kernel
theorem dX9_isAsShown_15 : decode cX9_isAsShown 15 = .ok (.aload_n 0, 1) := by decide +kernel
theorem dX9_isAsShown_16 : decode cX9_isAsShown 16 = .ok (.getfield 44, 3) := by decide +kernel
theorem dX9_isAsShown_19 : decode cX9_isAsShown 19 = .ok (.iload 4, 2) := by decide +kernel
theorem dX9_isAsShown_21 : decode cX9_isAsShown 21 = .ok (.iaload, 1) := by decide +kernel
theorem dX9_isAsShown_22 : decode cX9_isAsShown 22 = .ok (.isub, 1) := by decide +kernel
theorem dX9_isAsShown_23 : decode cX9_isAsShown 23 = .ok (.istore 5, 2) := by decide +kernel
theorem dX9_isAsShown_25 : decode cX9_isAsShown 25 = .ok (.iload_n 3, 1) := by decide +kernel
theorem dX9_isAsShown_26 : decode cX9_isAsShown 26 = .ok (.ifCond .eq 47, 3) := by decide +kernel
theorem dX9_isAsShown_29 : decode cX9_isAsShown 29 = .ok (.aload_n 0, 1) := by decide +kernel
theorem dX9_isAsShown_30 : decode cX9_isAsShown 30 = .ok (.getfield 41, 3) := by decide +kernel
theorem dX9_isAsShown_33 : decode cX9_isAsShown 33 = .ok (.iload 4, 2) := by decide +kernel
theorem dX9_isAsShown_35 : decode cX9_isAsShown 35 = .ok (.iaload, 1) := by decide +kernel
theorem dX9_isAsShown_36 : decode cX9_isAsShown 36 = .ok (.iload_n 1, 1) := by decide +kernel
theorem dX9_isAsShown_37 : decode cX9_isAsShown 37 = .ok (.if_icmp .ne 32, 3) := by decide +kernel
theorem dX9_isAsShown_40 : decode cX9_isAsShown 40 = .ok (.aload_n 0, 1) := by decide +kernel
theorem dX9_isAsShown_41 : decode cX9_isAsShown 41 = .ok (.getfield 47, 3) := by decide +kernel
theorem dX9_isAsShown_44 : decode cX9_isAsShown 44 = .ok (.iload 4, 2) := by decide +kernel
theorem dX9_isAsShown_46 : decode cX9_isAsShown 46 = .ok (.iaload, 1) := by decide +kernel
theorem dX9_isAsShown_47 : decode cX9_isAsShown 47 = .ok (.iload 5, 2) := by decide +kernel
theorem dX9_isAsShown_49 : decode cX9_isAsShown 49 = .ok (.ifCond .le 7, 3) := by decide +kernel
theorem dX9_isAsShown_52 : decode cX9_isAsShown 52 = .ok (.iconst 1, 1) := by decide +kernel
theorem dX9_isAsShown_53 : decode cX9_isAsShown 53 = .ok (.goto 13, 3) := by decide +kernel
theorem dX9_isAsShown_56 : decode cX9_isAsShown 56 = .ok (.iload 5, 2) := by decide +kernel
theorem dX9_isAsShown_58 : decode cX9_isAsShown 58 = .ok (.ifCond .ge 7, 3) := by decide +kernel
theorem dX9_isAsShown_61 : decode cX9_isAsShown 61 = .ok (.iconst 2, 1) := by decide +kernel
theorem dX9_isAsShown_62 : decode cX9_isAsShown 62 = .ok (.goto 4, 3) := by decide +kernel
theorem dX9_isAsShown_65 : decode cX9_isAsShown 65 = .ok (.iconst 0, 1) := by decide +kernel
theorem dX9_isAsShown_66 : decode cX9_isAsShown 66 = .ok (.if_icmp .ne 7, 3) := by decide +kernel
theorem dX9_isAsShown_69 : decode cX9_isAsShown 69 = .ok (.iconst 1, 1) := by decide +kernel
theorem dX9_isAsShown_70 : decode cX9_isAsShown 70 = .ok (.goto 4, 3) := by decide +kernel
theorem dX9_isAsShown_73 : decode cX9_isAsShown 73 = .ok (.iconst 0, 1) := by decide +kernel
theorem dX9_isAsShown_74 : decode cX9_isAsShown 74 = .ok (.istore_n 3, 1) := by decide +kernel
theorem dX9_isAsShown_75 : decode cX9_isAsShown 75 = .ok (.iinc 4 1, 3) := by decide +kernel
theorem dX9_isAsShown_78 : decode cX9_isAsShown 78 = .ok (.goto (-73), 3) := by decide +kernel
theorem dX9_isAsShown_81 : decode cX9_isAsShown 81 = .ok (.iload_n 3, 1) := by decide +kernel
theorem dX9_isAsShown_82 : decode cX9_isAsShown 82 = .ok (.ireturn, 1) := by decide +kernel
theorem dX9_can_0 : decode cX9_can 0 = .ok (.aload_n 0, 1) := by decide +kernel
theorem dX9_can_1 : decode cX9_can 1 = .ok (.iconst 0, 1) := by decide +kernel
theorem dX9_can_2 : decode cX9_can 2 = .ok (.putfield 77, 3) := by decide +kernel
theorem dX9_can_5 : decode cX9_can 5 = .ok (.aload_n 0, 1) := by decide +kernel
theorem dX9_can_6 : decode cX9_can 6 = .ok (.iload_n 1, 1) := by decide +kernel
theorem dX9_can_7 : decode cX9_can 7 = .ok (.invokevirtual 143, 3) := by decide +kernel
theorem dX9_can_10 : decode cX9_can 10 = .ok (.ifCond .eq 12, 3) := by decide +kernel
theorem dX9_can_13 : decode cX9_can 13 = .ok (.iload_n 2, 1) := by decide +kernel
theorem dX9_can_14 : decode cX9_can 14 = .ok (.iconst 0, 1) := by decide +kernel
theorem dX9_can_15 : decode cX9_can 15 = .ok (.iconst 2, 1) := by decide +kernel
theorem dX9_can_16 : decode cX9_can 16 = .ok (.invokestatic 81, 3) := by decide +kernel
theorem dX9_can_19 : decode cX9_can 19 = .ok (.ifCond .ne 5, 3) := by decide +kernel
theorem dX9_can_22 : decode cX9_can 22 = .ok (.iconst (-1), 1) := by decide +kernel
theorem dX9_can_23 : decode cX9_can 23 = .ok (.ireturn, 1) := by decide +kernel
theorem dX9_can_24 : decode cX9_can 24 = .ok (.iconst 0, 1) := by decide +kernel
theorem dX9_can_25 : decode cX9_can 25 = .ok (.istore_n 3, 1) := by decide +kernel
theorem dX9_can_26 : decode cX9_can 26 = .ok (.bipush (-9), 2) := by decide +kernel
theorem dX9_can_28 : decode cX9_can 28 = .ok (.istore 4, 2) := by decide +kernel
theorem dX9_can_30 : decode cX9_can 30 = .ok (.bipush (-9), 2) := by decide +kernel
theorem dX9_can_32 : decode cX9_can 32 = .ok (.istore 5, 2) := by decide +kernel
theorem dX9_can_34 : decode cX9_can 34 = .ok (.iconst 0, 1) := by decide +kernel
theorem dX9_can_35 : decode cX9_can 35 = .ok (.istore 6, 2) := by decide +kernel
theorem dX9_can_37 : decode cX9_can 37 = .ok (.iload 6, 2) := by decide +kernel
theorem dX9_can_39 : decode cX9_can 39 = .ok (.sipush 10000, 3) := by decide +kernel
theorem dX9_can_42 : decode cX9_can 42 = .ok (.if_icmp .ge 66, 3) := by decide +kernel
theorem dX9_can_45 : decode cX9_can 45 = .ok (.aload_n 0, 1) := by decide +kernel
theorem dX9_can_46 : decode cX9_can 46 = .ok (.iload 6, 2) := by decide +kernel
theorem dX9_can_48 : decode cX9_can 48 = .ok (.invokevirtual 206, 3) := by decide +kernel
theorem dX9_can_51 : decode cX9_can 51 = .ok (.istore 7, 2) := by decide +kernel
theorem dX9_can_53 : decode cX9_can 53 = .ok (.aload_n 0, 1) := by decide +kernel
theorem dX9_can_54 : decode cX9_can 54 = .ok (.iload_n 1, 1) := by decide +kernel
theorem dX9_can_55 : decode cX9_can 55 = .ok (.iload 7, 2) := by decide +kernel
theorem dX9_can_57 : decode cX9_can 57 = .ok (.invokevirtual 237, 3) := by decide +kernel
theorem dX9_can_60 : decode cX9_can 60 = .ok (.ifCond .eq 42, 3) := by decide +kernel
theorem dX9_can_63 : decode cX9_can 63 = .ok (.iload_n 3, 1) := by decide +kernel
theorem dX9_can_64 : decode cX9_can 64 = .ok (.ifCond .eq 10, 3) := by decide +kernel
theorem dX9_can_67 : decode cX9_can 67 = .ok (.iload 7, 2) := by decide +kernel
theorem dX9_can_69 : decode cX9_can 69 = .ok (.iload 4, 2) := by decide +kernel
theorem dX9_can_71 : decode cX9_can 71 = .ok (.if_icmp .ge 8, 3) := by decide +kernel
theorem dX9_can_74 : decode cX9_can 74 = .ok (.iload 7, 2) := by decide +kernel
theorem dX9_can_76 : decode cX9_can 76 = .ok (.goto 5, 3) := by decide +kernel
theorem dX9_can_79 : decode cX9_can 79 = .ok (.iload 4, 2) := by decide +kernel
theorem dX9_can_81 : decode cX9_can 81 = .ok (.istore 4, 2) := by decide +kernel
theorem dX9_can_83 : decode cX9_can 83 = .ok (.iload 7, 2) := by decide +kernel
theorem dX9_can_85 : decode cX9_can 85 = .ok (.iload 5, 2) := by decide +kernel
theorem dX9_can_87 : decode cX9_can 87 = .ok (.if_icmp .le 8, 3) := by decide +kernel
theorem dX9_can_90 : decode cX9_can 90 = .ok (.iload 7, 2) := by decide +kernel
theorem dX9_can_92 : decode cX9_can 92 = .ok (.goto 5, 3) := by decide +kernel
theorem dX9_can_95 : decode cX9_can 95 = .ok (.iload 5, 2) := by decide +kernel
theorem dX9_can_97 : decode cX9_can 97 = .ok (.istore 5, 2) := by decide +kernel
theorem dX9_can_99 : decode cX9_can 99 = .ok (.iinc 3 1, 3) := by decide +kernel
theorem dX9_can_102 : decode cX9_can 102 = .ok (.iinc 6 1, 3) := by decide +kernel
theorem dX9_can_105 : decode cX9_can 105 = .ok (.goto (-68), 3) := by decide +kernel
theorem dX9_can_108 : decode cX9_can 108 = .ok (.iload_n 2, 1) := by decide +kernel
theorem dX9_can_109 : decode cX9_can 109 = .ok (.ifCond .ne 7, 3) := by decide +kernel
theorem dX9_can_112 : decode cX9_can 112 = .ok (.iload_n 3, 1) := by decide +kernel
theorem dX9_can_113 : decode cX9_can 113 = .ok (.goto 15, 3) := by decide +kernel
theorem dX9_can_116 : decode cX9_can 116 = .ok (.iload_n 2, 1) := by decide +kernel
theorem dX9_can_117 : decode cX9_can 117 = .ok (.iconst 1, 1) := by decide +kernel
theorem dX9_can_118 : decode cX9_can 118 = .ok (.if_icmp .ne 8, 3) := by decide +kernel
theorem dX9_can_121 : decode cX9_can 121 = .ok (.iload 4, 2) := by decide +kernel
theorem dX9_can_123 : decode cX9_can 123 = .ok (.goto 5, 3) := by decide +kernel
theorem dX9_can_126 : decode cX9_can 126 = .ok (.iload 5, 2) := by decide +kernel
theorem dX9_can_128 : decode cX9_can 128 = .ok (.ireturn, 1) := by decide +kernel
theorem dX9_saw_0 : decode cX9_saw 0 = .ok (.aload_n 0, 1) := by decide +kernel
theorem dX9_saw_1 : decode cX9_saw 1 = .ok (.iconst 0, 1) := by decide +kernel
theorem dX9_saw_2 : decode cX9_saw 2 = .ok (.putfield 77, 3) := by decide +kernel
theorem dX9_saw_5 : decode cX9_saw 5 = .ok (.aload_n 0, 1) := by decide +kernel
theorem dX9_saw_6 : decode cX9_saw 6 = .ok (.iload_n 1, 1) := by decide +kernel
theorem dX9_saw_7 : decode cX9_saw 7 = .ok (.invokevirtual 143, 3) := by decide +kernel
theorem dX9_saw_10 : decode cX9_saw 10 = .ok (.ifCond .eq 14, 3) := by decide +kernel
theorem dX9_saw_13 : decode cX9_saw 13 = .ok (.iload_n 2, 1) := by decide +kernel
theorem dX9_saw_14 : decode cX9_saw 14 = .ok (.iconst 0, 1) := by decide +kernel
theorem dX9_saw_15 : decode cX9_saw 15 = .ok (.sipush 240, 3) := by decide +kernel
theorem dX9_saw_18 : decode cX9_saw 18 = .ok (.invokestatic 81, 3) := by decide +kernel
theorem dX9_saw_21 : decode cX9_saw 21 = .ok (.ifCond .ne 5, 3) := by decide +kernel
theorem dX9_saw_24 : decode cX9_saw 24 = .ok (.iconst (-1), 1) := by decide +kernel
theorem dX9_saw_25 : decode cX9_saw 25 = .ok (.ireturn, 1) := by decide +kernel
theorem dX9_saw_26 : decode cX9_saw 26 = .ok (.aload_n 0, 1) := by decide +kernel
theorem dX9_saw_27 : decode cX9_saw 27 = .ok (.getfield 132, 3) := by decide +kernel
theorem dX9_saw_30 : decode cX9_saw 30 = .ok (.bipush 6, 2) := by decide +kernel
theorem dX9_saw_32 : decode cX9_saw 32 = .ok (.if_icmp .ne 6, 3) := by decide +kernel
theorem dX9_saw_35 : decode cX9_saw 35 = .ok (.bipush (-3), 2) := by decide +kernel
theorem dX9_saw_37 : decode cX9_saw 37 = .ok (.ireturn, 1) := by decide +kernel
theorem dX9_saw_38 : decode cX9_saw 38 = .ok (.aload_n 0, 1) := by decide +kernel
theorem dX9_saw_39 : decode cX9_saw 39 = .ok (.getfield 50, 3) := by decide +kernel
theorem dX9_saw_42 : decode cX9_saw 42 = .ok (.aload_n 0, 1) := by decide +kernel
theorem dX9_saw_43 : decode cX9_saw 43 = .ok (.getfield 132, 3) := by decide +kernel
theorem dX9_saw_46 : decode cX9_saw 46 = .ok (.iload_n 1, 1) := by decide +kernel
theorem dX9_saw_47 : decode cX9_saw 47 = .ok (.iastore, 1) := by decide +kernel
theorem dX9_saw_48 : decode cX9_saw 48 = .ok (.aload_n 0, 1) := by decide +kernel
theorem dX9_saw_49 : decode cX9_saw 49 = .ok (.getfield 53, 3) := by decide +kernel
theorem dX9_saw_52 : decode cX9_saw 52 = .ok (.aload_n 0, 1) := by decide +kernel
theorem dX9_saw_53 : decode cX9_saw 53 = .ok (.getfield 132, 3) := by decide +kernel
theorem dX9_saw_56 : decode cX9_saw 56 = .ok (.iload_n 2, 1) := by decide +kernel
theorem dX9_saw_57 : decode cX9_saw 57 = .ok (.iastore, 1) := by decide +kernel
theorem dX9_saw_58 : decode cX9_saw 58 = .ok (.aload_n 0, 1) := by decide +kernel
theorem dX9_saw_59 : decode cX9_saw 59 = .ok (.dup, 1) := by decide +kernel
theorem dX9_saw_60 : decode cX9_saw 60 = .ok (.getfield 132, 3) := by decide +kernel
theorem dX9_saw_63 : decode cX9_saw 63 = .ok (.iconst 1, 1) := by decide +kernel
theorem dX9_saw_64 : decode cX9_saw 64 = .ok (.iadd, 1) := by decide +kernel
theorem dX9_saw_65 : decode cX9_saw 65 = .ok (.putfield 132, 3) := by decide +kernel
theorem dX9_saw_68 : decode cX9_saw 68 = .ok (.aload_n 0, 1) := by decide +kernel
theorem dX9_saw_69 : decode cX9_saw 69 = .ok (.getfield 132, 3) := by decide +kernel
theorem dX9_saw_72 : decode cX9_saw 72 = .ok (.ireturn, 1) := by decide +kernel
theorem dX9_laws_0 : decode cX9_laws 0 = .ok (.aload_n 0, 1) := by decide +kernel
theorem dX9_laws_1 : decode cX9_laws 1 = .ok (.iconst 0, 1) := by decide +kernel
theorem dX9_laws_2 : decode cX9_laws 2 = .ok (.putfield 77, 3) := by decide +kernel
theorem dX9_laws_5 : decode cX9_laws 5 = .ok (.aload_n 0, 1) := by decide +kernel
theorem dX9_laws_6 : decode cX9_laws 6 = .ok (.iload_n 1, 1) := by decide +kernel
theorem dX9_laws_7 : decode cX9_laws 7 = .ok (.invokevirtual 143, 3) := by decide +kernel
theorem dX9_laws_10 : decode cX9_laws 10 = .ok (.ifCond .eq 12, 3) := by decide +kernel
theorem dX9_laws_13 : decode cX9_laws 13 = .ok (.iload_n 2, 1) := by decide +kernel
theorem dX9_laws_14 : decode cX9_laws 14 = .ok (.iconst 0, 1) := by decide +kernel
theorem dX9_laws_15 : decode cX9_laws 15 = .ok (.iconst 1, 1) := by decide +kernel
theorem dX9_laws_16 : decode cX9_laws 16 = .ok (.invokestatic 81, 3) := by decide +kernel
theorem dX9_laws_19 : decode cX9_laws 19 = .ok (.ifCond .ne 5, 3) := by decide +kernel
theorem dX9_laws_22 : decode cX9_laws 22 = .ok (.iconst (-1), 1) := by decide +kernel
theorem dX9_laws_23 : decode cX9_laws 23 = .ok (.ireturn, 1) := by decide +kernel
theorem dX9_laws_24 : decode cX9_laws 24 = .ok (.iconst 0, 1) := by decide +kernel
theorem dX9_laws_25 : decode cX9_laws 25 = .ok (.istore_n 3, 1) := by decide +kernel
theorem dX9_laws_26 : decode cX9_laws 26 = .ok (.bipush (-9), 2) := by decide +kernel
theorem dX9_laws_28 : decode cX9_laws 28 = .ok (.istore 4, 2) := by decide +kernel
theorem dX9_laws_30 : decode cX9_laws 30 = .ok (.iconst 0, 1) := by decide +kernel
theorem dX9_laws_31 : decode cX9_laws 31 = .ok (.istore 5, 2) := by decide +kernel
theorem dX9_laws_33 : decode cX9_laws 33 = .ok (.iload 5, 2) := by decide +kernel
theorem dX9_laws_35 : decode cX9_laws 35 = .ok (.sipush 256, 3) := by decide +kernel
theorem dX9_laws_38 : decode cX9_laws 38 = .ok (.if_icmp .ge 136, 3) := by decide +kernel
theorem dX9_laws_41 : decode cX9_laws 41 = .ok (.sipush 1000, 3) := by decide +kernel
theorem dX9_laws_44 : decode cX9_laws 44 = .ok (.iload 5, 2) := by decide +kernel
theorem dX9_laws_46 : decode cX9_laws 46 = .ok (.bipush 6, 2) := by decide +kernel
theorem dX9_laws_48 : decode cX9_laws 48 = .ok (.ishr, 1) := by decide +kernel
theorem dX9_laws_49 : decode cX9_laws 49 = .ok (.imul, 1) := by decide +kernel
theorem dX9_laws_50 : decode cX9_laws 50 = .ok (.bipush 100, 2) := by decide +kernel
theorem dX9_laws_52 : decode cX9_laws 52 = .ok (.iload 5, 2) := by decide +kernel
theorem dX9_laws_54 : decode cX9_laws 54 = .ok (.iconst 4, 1) := by decide +kernel
theorem dX9_laws_55 : decode cX9_laws 55 = .ok (.ishr, 1) := by decide +kernel
theorem dX9_laws_56 : decode cX9_laws 56 = .ok (.iconst 3, 1) := by decide +kernel
theorem dX9_laws_57 : decode cX9_laws 57 = .ok (.iand, 1) := by decide +kernel
theorem dX9_laws_58 : decode cX9_laws 58 = .ok (.imul, 1) := by decide +kernel
theorem dX9_laws_59 : decode cX9_laws 59 = .ok (.iadd, 1) := by decide +kernel
theorem dX9_laws_60 : decode cX9_laws 60 = .ok (.bipush 10, 2) := by decide +kernel
theorem dX9_laws_62 : decode cX9_laws 62 = .ok (.iload 5, 2) := by decide +kernel
theorem dX9_laws_64 : decode cX9_laws 64 = .ok (.iconst 2, 1) := by decide +kernel
theorem dX9_laws_65 : decode cX9_laws 65 = .ok (.ishr, 1) := by decide +kernel
theorem dX9_laws_66 : decode cX9_laws 66 = .ok (.iconst 3, 1) := by decide +kernel
theorem dX9_laws_67 : decode cX9_laws 67 = .ok (.iand, 1) := by decide +kernel
theorem dX9_laws_68 : decode cX9_laws 68 = .ok (.imul, 1) := by decide +kernel
theorem dX9_laws_69 : decode cX9_laws 69 = .ok (.iadd, 1) := by decide +kernel
theorem dX9_laws_70 : decode cX9_laws 70 = .ok (.iload 5, 2) := by decide +kernel
theorem dX9_laws_72 : decode cX9_laws 72 = .ok (.iconst 3, 1) := by decide +kernel
theorem dX9_laws_73 : decode cX9_laws 73 = .ok (.iand, 1) := by decide +kernel
theorem dX9_laws_74 : decode cX9_laws 74 = .ok (.iadd, 1) := by decide +kernel
theorem dX9_laws_75 : decode cX9_laws 75 = .ok (.istore 6, 2) := by decide +kernel
theorem dX9_laws_77 : decode cX9_laws 77 = .ok (.iconst 1, 1) := by decide +kernel
theorem dX9_laws_78 : decode cX9_laws 78 = .ok (.istore 7, 2) := by decide +kernel
theorem dX9_laws_80 : decode cX9_laws 80 = .ok (.iconst 0, 1) := by decide +kernel
theorem dX9_laws_81 : decode cX9_laws 81 = .ok (.istore 8, 2) := by decide +kernel
theorem dX9_laws_83 : decode cX9_laws 83 = .ok (.iload 8, 2) := by decide +kernel
theorem dX9_laws_85 : decode cX9_laws 85 = .ok (.aload_n 0, 1) := by decide +kernel
theorem dX9_laws_86 : decode cX9_laws 86 = .ok (.getfield 132, 3) := by decide +kernel
theorem dX9_laws_89 : decode cX9_laws 89 = .ok (.if_icmp .ge 48, 3) := by decide +kernel
theorem dX9_laws_92 : decode cX9_laws 92 = .ok (.iload 7, 2) := by decide +kernel
theorem dX9_laws_94 : decode cX9_laws 94 = .ok (.ifCond .eq 34, 3) := by decide +kernel
theorem dX9_laws_97 : decode cX9_laws 97 = .ok (.aload_n 0, 1) := by decide +kernel
theorem dX9_laws_98 : decode cX9_laws 98 = .ok (.getfield 50, 3) := by decide +kernel
theorem dX9_laws_101 : decode cX9_laws 101 = .ok (.iload 8, 2) := by decide +kernel
theorem dX9_laws_103 : decode cX9_laws 103 = .ok (.iaload, 1) := by decide +kernel
theorem dX9_laws_104 : decode cX9_laws 104 = .ok (.iload_n 1, 1) := by decide +kernel
theorem dX9_laws_105 : decode cX9_laws 105 = .ok (.if_icmp .ne 19, 3) := by decide +kernel
theorem dX9_laws_108 : decode cX9_laws 108 = .ok (.aload_n 0, 1) := by decide +kernel
theorem dX9_laws_109 : decode cX9_laws 109 = .ok (.getfield 53, 3) := by decide +kernel
theorem dX9_laws_112 : decode cX9_laws 112 = .ok (.iload 8, 2) := by decide +kernel
theorem dX9_laws_114 : decode cX9_laws 114 = .ok (.iaload, 1) := by decide +kernel
theorem dX9_laws_115 : decode cX9_laws 115 = .ok (.aload_n 0, 1) := by decide +kernel
theorem dX9_laws_116 : decode cX9_laws 116 = .ok (.iload 6, 2) := by decide +kernel
theorem dX9_laws_118 : decode cX9_laws 118 = .ok (.invokevirtual 206, 3) := by decide +kernel
theorem dX9_laws_121 : decode cX9_laws 121 = .ok (.if_icmp .ne 7, 3) := by decide +kernel
theorem dX9_laws_124 : decode cX9_laws 124 = .ok (.iconst 1, 1) := by decide +kernel
theorem dX9_laws_125 : decode cX9_laws 125 = .ok (.goto 4, 3) := by decide +kernel
theorem dX9_laws_128 : decode cX9_laws 128 = .ok (.iconst 0, 1) := by decide +kernel
theorem dX9_laws_129 : decode cX9_laws 129 = .ok (.istore 7, 2) := by decide +kernel
theorem dX9_laws_131 : decode cX9_laws 131 = .ok (.iinc 8 1, 3) := by decide +kernel
theorem dX9_laws_134 : decode cX9_laws 134 = .ok (.goto (-51), 3) := by decide +kernel
theorem dX9_laws_137 : decode cX9_laws 137 = .ok (.iload 7, 2) := by decide +kernel
theorem dX9_laws_139 : decode cX9_laws 139 = .ok (.ifCond .eq 12, 3) := by decide +kernel
theorem dX9_laws_142 : decode cX9_laws 142 = .ok (.iload_n 3, 1) := by decide +kernel
theorem dX9_laws_143 : decode cX9_laws 143 = .ok (.ifCond .ne 8, 3) := by decide +kernel
theorem dX9_laws_146 : decode cX9_laws 146 = .ok (.iload 6, 2) := by decide +kernel
theorem dX9_laws_148 : decode cX9_laws 148 = .ok (.goto 5, 3) := by decide +kernel
theorem dX9_laws_151 : decode cX9_laws 151 = .ok (.iload 4, 2) := by decide +kernel
theorem dX9_laws_153 : decode cX9_laws 153 = .ok (.istore 4, 2) := by decide +kernel
theorem dX9_laws_155 : decode cX9_laws 155 = .ok (.iload_n 3, 1) := by decide +kernel
theorem dX9_laws_156 : decode cX9_laws 156 = .ok (.iload 7, 2) := by decide +kernel
theorem dX9_laws_158 : decode cX9_laws 158 = .ok (.ifCond .eq 7, 3) := by decide +kernel
theorem dX9_laws_161 : decode cX9_laws 161 = .ok (.iconst 1, 1) := by decide +kernel
theorem dX9_laws_162 : decode cX9_laws 162 = .ok (.goto 4, 3) := by decide +kernel
theorem dX9_laws_165 : decode cX9_laws 165 = .ok (.iconst 0, 1) := by decide +kernel
theorem dX9_laws_166 : decode cX9_laws 166 = .ok (.iadd, 1) := by decide +kernel
theorem dX9_laws_167 : decode cX9_laws 167 = .ok (.istore_n 3, 1) := by decide +kernel
theorem dX9_laws_168 : decode cX9_laws 168 = .ok (.iinc 5 1, 3) := by decide +kernel
theorem dX9_laws_171 : decode cX9_laws 171 = .ok (.goto (-138), 3) := by decide +kernel
theorem dX9_laws_174 : decode cX9_laws 174 = .ok (.iload_n 2, 1) := by decide +kernel
theorem dX9_laws_175 : decode cX9_laws 175 = .ok (.ifCond .ne 7, 3) := by decide +kernel
theorem dX9_laws_178 : decode cX9_laws 178 = .ok (.iload_n 3, 1) := by decide +kernel
theorem dX9_laws_179 : decode cX9_laws 179 = .ok (.goto 5, 3) := by decide +kernel
theorem dX9_laws_182 : decode cX9_laws 182 = .ok (.iload 4, 2) := by decide +kernel
theorem dX9_laws_184 : decode cX9_laws 184 = .ok (.ireturn, 1) := by decide +kernel
theorem dX9_clean_0 : decode cX9_clean 0 = .ok (.aload_n 0, 1) := by decide +kernel
theorem dX9_clean_1 : decode cX9_clean 1 = .ok (.iconst 0, 1) := by decide +kernel
theorem dX9_clean_2 : decode cX9_clean 2 = .ok (.putfield 77, 3) := by decide +kernel
theorem dX9_clean_5 : decode cX9_clean 5 = .ok (.aload_n 0, 1) := by decide +kernel
theorem dX9_clean_6 : decode cX9_clean 6 = .ok (.getfield 129, 3) := by decide +kernel
theorem dX9_clean_9 : decode cX9_clean 9 = .ok (.aload_n 0, 1) := by decide +kernel
theorem dX9_clean_10 : decode cX9_clean 10 = .ok (.getfield 132, 3) := by decide +kernel
theorem dX9_clean_13 : decode cX9_clean 13 = .ok (.iadd, 1) := by decide +kernel
theorem dX9_clean_14 : decode cX9_clean 14 = .ok (.istore_n 1, 1) := by decide +kernel
theorem dX9_clean_15 : decode cX9_clean 15 = .ok (.aload_n 0, 1) := by decide +kernel
theorem dX9_clean_16 : decode cX9_clean 16 = .ok (.iconst 0, 1) := by decide +kernel
theorem dX9_clean_17 : decode cX9_clean 17 = .ok (.putfield 129, 3) := by decide +kernel
theorem dX9_clean_20 : decode cX9_clean 20 = .ok (.aload_n 0, 1) := by decide +kernel
theorem dX9_clean_21 : decode cX9_clean 21 = .ok (.iconst 0, 1) := by decide +kernel
theorem dX9_clean_22 : decode cX9_clean 22 = .ok (.putfield 132, 3) := by decide +kernel
theorem dX9_clean_25 : decode cX9_clean 25 = .ok (.iload_n 1, 1) := by decide +kernel
theorem dX9_clean_26 : decode cX9_clean 26 = .ok (.ireturn, 1) := by decide +kernel
theorem dX9_rate_0 : decode cX9_rate 0 = .ok (.aload_n 0, 1) := by decide +kernel
theorem dX9_rate_1 : decode cX9_rate 1 = .ok (.iconst 0, 1) := by decide +kernel
theorem dX9_rate_2 : decode cX9_rate 2 = .ok (.putfield 77, 3) := by decide +kernel
theorem dX9_rate_5 : decode cX9_rate 5 = .ok (.iload_n 1, 1) := by decide +kernel
theorem dX9_rate_6 : decode cX9_rate 6 = .ok (.iconst 0, 1) := by decide +kernel
theorem dX9_rate_7 : decode cX9_rate 7 = .ok (.iconst 5, 1) := by decide +kernel
theorem dX9_rate_8 : decode cX9_rate 8 = .ok (.invokestatic 81, 3) := by decide +kernel
theorem dX9_rate_11 : decode cX9_rate 11 = .ok (.ifCond .eq 11, 3) := by decide +kernel
theorem dX9_rate_14 : decode cX9_rate 14 = .ok (.aload_n 0, 1) := by decide +kernel
theorem dX9_rate_15 : decode cX9_rate 15 = .ok (.iload_n 2, 1) := by decide +kernel
theorem dX9_rate_16 : decode cX9_rate 16 = .ok (.invokevirtual 143, 3) := by decide +kernel
theorem dX9_rate_19 : decode cX9_rate 19 = .ok (.ifCond .ne 6, 3) := by decide +kernel
theorem dX9_rate_22 : decode cX9_rate 22 = .ok (.ldc 202, 2) := by decide +kernel
theorem dX9_rate_24 : decode cX9_rate 24 = .ok (.ireturn, 1) := by decide +kernel
theorem dX9_rate_25 : decode cX9_rate 25 = .ok (.aload_n 0, 1) := by decide +kernel
theorem dX9_rate_26 : decode cX9_rate 26 = .ok (.iload_n 2, 1) := by decide +kernel
theorem dX9_rate_27 : decode cX9_rate 27 = .ok (.invokevirtual 150, 3) := by decide +kernel
theorem dX9_rate_30 : decode cX9_rate 30 = .ok (.istore_n 3, 1) := by decide +kernel
theorem dX9_rate_31 : decode cX9_rate 31 = .ok (.iload_n 3, 1) := by decide +kernel
theorem dX9_rate_32 : decode cX9_rate 32 = .ok (.istore 4, 2) := by decide +kernel
theorem dX9_rate_34 : decode cX9_rate 34 = .ok (.iload_n 3, 1) := by decide +kernel
theorem dX9_rate_35 : decode cX9_rate 35 = .ok (.istore 5, 2) := by decide +kernel
theorem dX9_rate_37 : decode cX9_rate 37 = .ok (.iconst 0, 1) := by decide +kernel
theorem dX9_rate_38 : decode cX9_rate 38 = .ok (.istore 6, 2) := by decide +kernel
theorem dX9_rate_40 : decode cX9_rate 40 = .ok (.iload 6, 2) := by decide +kernel
theorem dX9_rate_42 : decode cX9_rate 42 = .ok (.iconst 4, 1) := by decide +kernel
theorem dX9_rate_43 : decode cX9_rate 43 = .ok (.if_icmp .ge 43, 3) := by decide +kernel
theorem dX9_rate_46 : decode cX9_rate 46 = .ok (.iload 4, 2) := by decide +kernel
theorem dX9_rate_48 : decode cX9_rate 48 = .ok (.aload_n 0, 1) := by decide +kernel
theorem dX9_rate_49 : decode cX9_rate 49 = .ok (.getfield 28, 3) := by decide +kernel
theorem dX9_rate_52 : decode cX9_rate 52 = .ok (.iconst 1, 1) := by decide +kernel
theorem dX9_rate_53 : decode cX9_rate 53 = .ok (.iconst 4, 1) := by decide +kernel
theorem dX9_rate_54 : decode cX9_rate 54 = .ok (.iload_n 2, 1) := by decide +kernel
theorem dX9_rate_55 : decode cX9_rate 55 = .ok (.imul, 1) := by decide +kernel
theorem dX9_rate_56 : decode cX9_rate 56 = .ok (.iadd, 1) := by decide +kernel
theorem dX9_rate_57 : decode cX9_rate 57 = .ok (.iload 6, 2) := by decide +kernel
theorem dX9_rate_59 : decode cX9_rate 59 = .ok (.iadd, 1) := by decide +kernel
theorem dX9_rate_60 : decode cX9_rate 60 = .ok (.iaload, 1) := by decide +kernel
theorem dX9_rate_61 : decode cX9_rate 61 = .ok (.iadd, 1) := by decide +kernel
theorem dX9_rate_62 : decode cX9_rate 62 = .ok (.istore 4, 2) := by decide +kernel
theorem dX9_rate_64 : decode cX9_rate 64 = .ok (.iload 5, 2) := by decide +kernel
theorem dX9_rate_66 : decode cX9_rate 66 = .ok (.aload_n 0, 1) := by decide +kernel
theorem dX9_rate_67 : decode cX9_rate 67 = .ok (.getfield 22, 3) := by decide +kernel
theorem dX9_rate_70 : decode cX9_rate 70 = .ok (.iconst 4, 1) := by decide +kernel
theorem dX9_rate_71 : decode cX9_rate 71 = .ok (.iload_n 2, 1) := by decide +kernel
theorem dX9_rate_72 : decode cX9_rate 72 = .ok (.imul, 1) := by decide +kernel
theorem dX9_rate_73 : decode cX9_rate 73 = .ok (.iload 6, 2) := by decide +kernel
theorem dX9_rate_75 : decode cX9_rate 75 = .ok (.iadd, 1) := by decide +kernel
theorem dX9_rate_76 : decode cX9_rate 76 = .ok (.iaload, 1) := by decide +kernel
theorem dX9_rate_77 : decode cX9_rate 77 = .ok (.isub, 1) := by decide +kernel
theorem dX9_rate_78 : decode cX9_rate 78 = .ok (.istore 5, 2) := by decide +kernel
theorem dX9_rate_80 : decode cX9_rate 80 = .ok (.iinc 6 1, 3) := by decide +kernel
theorem dX9_rate_83 : decode cX9_rate 83 = .ok (.goto (-43), 3) := by decide +kernel
theorem dX9_rate_86 : decode cX9_rate 86 = .ok (.aload_n 0, 1) := by decide +kernel
theorem dX9_rate_87 : decode cX9_rate 87 = .ok (.dup, 1) := by decide +kernel
theorem dX9_rate_88 : decode cX9_rate 88 = .ok (.getfield 240, 3) := by decide +kernel
theorem dX9_rate_91 : decode cX9_rate 91 = .ok (.iload_n 1, 1) := by decide +kernel
theorem dX9_rate_92 : decode cX9_rate 92 = .ok (.ifCond .ne 7, 3) := by decide +kernel
theorem dX9_rate_95 : decode cX9_rate 95 = .ok (.lconst 1, 1) := by decide +kernel
theorem dX9_rate_96 : decode cX9_rate 96 = .ok (.goto 50, 3) := by decide +kernel
theorem dX9_rate_99 : decode cX9_rate 99 = .ok (.iload_n 1, 1) := by decide +kernel
theorem dX9_rate_100 : decode cX9_rate 100 = .ok (.iconst 1, 1) := by decide +kernel
theorem dX9_rate_101 : decode cX9_rate 101 = .ok (.if_icmp .ne 9, 3) := by decide +kernel
theorem dX9_rate_104 : decode cX9_rate 104 = .ok (.ldc2_w 244, 3) := by decide +kernel
theorem dX9_rate_107 : decode cX9_rate 107 = .ok (.goto 39, 3) := by decide +kernel
theorem dX9_rate_110 : decode cX9_rate 110 = .ok (.iload_n 1, 1) := by decide +kernel
theorem dX9_rate_111 : decode cX9_rate 111 = .ok (.iconst 2, 1) := by decide +kernel
theorem dX9_rate_112 : decode cX9_rate 112 = .ok (.if_icmp .ne 9, 3) := by decide +kernel
theorem dX9_rate_115 : decode cX9_rate 115 = .ok (.ldc2_w 246, 3) := by decide +kernel
theorem dX9_rate_118 : decode cX9_rate 118 = .ok (.goto 28, 3) := by decide +kernel
theorem dX9_rate_121 : decode cX9_rate 121 = .ok (.iload_n 1, 1) := by decide +kernel
theorem dX9_rate_122 : decode cX9_rate 122 = .ok (.iconst 3, 1) := by decide +kernel
theorem dX9_rate_123 : decode cX9_rate 123 = .ok (.if_icmp .ne 9, 3) := by decide +kernel
theorem dX9_rate_126 : decode cX9_rate 126 = .ok (.ldc2_w 248, 3) := by decide +kernel
theorem dX9_rate_129 : decode cX9_rate 129 = .ok (.goto 17, 3) := by decide +kernel
theorem dX9_rate_132 : decode cX9_rate 132 = .ok (.iload_n 1, 1) := by decide +kernel
theorem dX9_rate_133 : decode cX9_rate 133 = .ok (.iconst 4, 1) := by decide +kernel
theorem dX9_rate_134 : decode cX9_rate 134 = .ok (.if_icmp .ne 9, 3) := by decide +kernel
theorem dX9_rate_137 : decode cX9_rate 137 = .ok (.ldc2_w 250, 3) := by decide +kernel
theorem dX9_rate_140 : decode cX9_rate 140 = .ok (.goto 6, 3) := by decide +kernel
theorem dX9_rate_143 : decode cX9_rate 143 = .ok (.ldc2_w 252, 3) := by decide +kernel
theorem dX9_rate_146 : decode cX9_rate 146 = .ok (.ladd, 1) := by decide +kernel
theorem dX9_rate_147 : decode cX9_rate 147 = .ok (.putfield 240, 3) := by decide +kernel
theorem dX9_rate_150 : decode cX9_rate 150 = .ok (.iload_n 1, 1) := by decide +kernel
theorem dX9_rate_151 : decode cX9_rate 151 = .ok (.ifCond .ne 7, 3) := by decide +kernel
theorem dX9_rate_154 : decode cX9_rate 154 = .ok (.iload_n 3, 1) := by decide +kernel
theorem dX9_rate_155 : decode cX9_rate 155 = .ok (.goto 55, 3) := by decide +kernel
theorem dX9_rate_158 : decode cX9_rate 158 = .ok (.iload_n 1, 1) := by decide +kernel
theorem dX9_rate_159 : decode cX9_rate 159 = .ok (.iconst 1, 1) := by decide +kernel
theorem dX9_rate_160 : decode cX9_rate 160 = .ok (.if_icmp .ne 8, 3) := by decide +kernel
theorem dX9_rate_163 : decode cX9_rate 163 = .ok (.iload 4, 2) := by decide +kernel
theorem dX9_rate_165 : decode cX9_rate 165 = .ok (.goto 45, 3) := by decide +kernel
theorem dX9_rate_168 : decode cX9_rate 168 = .ok (.iload_n 1, 1) := by decide +kernel
theorem dX9_rate_169 : decode cX9_rate 169 = .ok (.iconst 2, 1) := by decide +kernel
theorem dX9_rate_170 : decode cX9_rate 170 = .ok (.if_icmp .ne 8, 3) := by decide +kernel
theorem dX9_rate_173 : decode cX9_rate 173 = .ok (.iload 5, 2) := by decide +kernel
theorem dX9_rate_175 : decode cX9_rate 175 = .ok (.goto 35, 3) := by decide +kernel
theorem dX9_rate_178 : decode cX9_rate 178 = .ok (.iload_n 1, 1) := by decide +kernel
theorem dX9_rate_179 : decode cX9_rate 179 = .ok (.iconst 3, 1) := by decide +kernel
theorem dX9_rate_180 : decode cX9_rate 180 = .ok (.if_icmp .ne 10, 3) := by decide +kernel
theorem dX9_rate_183 : decode cX9_rate 183 = .ok (.iconst 2, 1) := by decide +kernel
theorem dX9_rate_184 : decode cX9_rate 184 = .ok (.iload 4, 2) := by decide +kernel
theorem dX9_rate_186 : decode cX9_rate 186 = .ok (.imul, 1) := by decide +kernel
theorem dX9_rate_187 : decode cX9_rate 187 = .ok (.goto 23, 3) := by decide +kernel
theorem dX9_rate_190 : decode cX9_rate 190 = .ok (.iload_n 1, 1) := by decide +kernel
theorem dX9_rate_191 : decode cX9_rate 191 = .ok (.iconst 4, 1) := by decide +kernel
theorem dX9_rate_192 : decode cX9_rate 192 = .ok (.if_icmp .ne 10, 3) := by decide +kernel
theorem dX9_rate_195 : decode cX9_rate 195 = .ok (.iload 5, 2) := by decide +kernel
theorem dX9_rate_197 : decode cX9_rate 197 = .ok (.iload_n 2, 1) := by decide +kernel
theorem dX9_rate_198 : decode cX9_rate 198 = .ok (.iadd, 1) := by decide +kernel
theorem dX9_rate_199 : decode cX9_rate 199 = .ok (.goto 11, 3) := by decide +kernel
theorem dX9_rate_202 : decode cX9_rate 202 = .ok (.iload_n 3, 1) := by decide +kernel
theorem dX9_rate_203 : decode cX9_rate 203 = .ok (.aload_n 0, 1) := by decide +kernel
theorem dX9_rate_204 : decode cX9_rate 204 = .ok (.getfield 28, 3) := by decide +kernel
theorem dX9_rate_207 : decode cX9_rate 207 = .ok (.iconst 0, 1) := by decide +kernel
theorem dX9_rate_208 : decode cX9_rate 208 = .ok (.iaload, 1) := by decide +kernel
theorem dX9_rate_209 : decode cX9_rate 209 = .ok (.iadd, 1) := by decide +kernel
theorem dX9_rate_210 : decode cX9_rate 210 = .ok (.ireturn, 1) := by decide +kernel
theorem dX9_keep_0 : decode cX9_keep 0 = .ok (.aload_n 0, 1) := by decide +kernel
theorem dX9_keep_1 : decode cX9_keep 1 = .ok (.iconst 0, 1) := by decide +kernel
theorem dX9_keep_2 : decode cX9_keep 2 = .ok (.putfield 77, 3) := by decide +kernel
theorem dX9_keep_5 : decode cX9_keep 5 = .ok (.iload_n 1, 1) := by decide +kernel
theorem dX9_keep_6 : decode cX9_keep 6 = .ok (.iconst 0, 1) := by decide +kernel
theorem dX9_keep_7 : decode cX9_keep 7 = .ok (.iconst 1, 1) := by decide +kernel
theorem dX9_keep_8 : decode cX9_keep 8 = .ok (.invokestatic 81, 3) := by decide +kernel
theorem dX9_keep_11 : decode cX9_keep 11 = .ok (.ifCond .ne 5, 3) := by decide +kernel
theorem dX9_keep_14 : decode cX9_keep 14 = .ok (.iconst (-1), 1) := by decide +kernel
theorem dX9_keep_15 : decode cX9_keep 15 = .ok (.ireturn, 1) := by decide +kernel
theorem dX9_keep_16 : decode cX9_keep 16 = .ok (.iconst 0, 1) := by decide +kernel
theorem dX9_keep_17 : decode cX9_keep 17 = .ok (.istore_n 2, 1) := by decide +kernel
theorem dX9_keep_18 : decode cX9_keep 18 = .ok (.iload_n 2, 1) := by decide +kernel
theorem dX9_keep_19 : decode cX9_keep 19 = .ok (.bipush 23, 2) := by decide +kernel
theorem dX9_keep_21 : decode cX9_keep 21 = .ok (.if_icmp .ge 26, 3) := by decide +kernel
theorem dX9_keep_24 : decode cX9_keep 24 = .ok (.aload_n 0, 1) := by decide +kernel
theorem dX9_keep_25 : decode cX9_keep 25 = .ok (.getfield 31, 3) := by decide +kernel
theorem dX9_keep_28 : decode cX9_keep 28 = .ok (.bipush 23, 2) := by decide +kernel
theorem dX9_keep_30 : decode cX9_keep 30 = .ok (.iload_n 1, 1) := by decide +kernel
theorem dX9_keep_31 : decode cX9_keep 31 = .ok (.imul, 1) := by decide +kernel
theorem dX9_keep_32 : decode cX9_keep 32 = .ok (.iload_n 2, 1) := by decide +kernel
theorem dX9_keep_33 : decode cX9_keep 33 = .ok (.iadd, 1) := by decide +kernel
theorem dX9_keep_34 : decode cX9_keep 34 = .ok (.aload_n 0, 1) := by decide +kernel
theorem dX9_keep_35 : decode cX9_keep 35 = .ok (.getfield 28, 3) := by decide +kernel
theorem dX9_keep_38 : decode cX9_keep 38 = .ok (.iload_n 2, 1) := by decide +kernel
theorem dX9_keep_39 : decode cX9_keep 39 = .ok (.iaload, 1) := by decide +kernel
theorem dX9_keep_40 : decode cX9_keep 40 = .ok (.iastore, 1) := by decide +kernel
theorem dX9_keep_41 : decode cX9_keep 41 = .ok (.iinc 2 1, 3) := by decide +kernel
theorem dX9_keep_44 : decode cX9_keep 44 = .ok (.goto (-26), 3) := by decide +kernel
theorem dX9_keep_47 : decode cX9_keep 47 = .ok (.aload_n 0, 1) := by decide +kernel
theorem dX9_keep_48 : decode cX9_keep 48 = .ok (.getfield 34, 3) := by decide +kernel
theorem dX9_keep_51 : decode cX9_keep 51 = .ok (.iload_n 1, 1) := by decide +kernel
theorem dX9_keep_52 : decode cX9_keep 52 = .ok (.iconst 1, 1) := by decide +kernel
theorem dX9_keep_53 : decode cX9_keep 53 = .ok (.bastore, 1) := by decide +kernel
theorem dX9_keep_54 : decode cX9_keep 54 = .ok (.aload_n 0, 1) := by decide +kernel
theorem dX9_keep_55 : decode cX9_keep 55 = .ok (.getfield 28, 3) := by decide +kernel
theorem dX9_keep_58 : decode cX9_keep 58 = .ok (.iconst 0, 1) := by decide +kernel
theorem dX9_keep_59 : decode cX9_keep 59 = .ok (.iaload, 1) := by decide +kernel
theorem dX9_keep_60 : decode cX9_keep 60 = .ok (.ireturn, 1) := by decide +kernel
theorem dX9_back_0 : decode cX9_back 0 = .ok (.aload_n 0, 1) := by decide +kernel
theorem dX9_back_1 : decode cX9_back 1 = .ok (.iconst 0, 1) := by decide +kernel
theorem dX9_back_2 : decode cX9_back 2 = .ok (.putfield 77, 3) := by decide +kernel
theorem dX9_back_5 : decode cX9_back 5 = .ok (.iload_n 1, 1) := by decide +kernel
theorem dX9_back_6 : decode cX9_back 6 = .ok (.iconst 0, 1) := by decide +kernel
theorem dX9_back_7 : decode cX9_back 7 = .ok (.iconst 1, 1) := by decide +kernel
theorem dX9_back_8 : decode cX9_back 8 = .ok (.invokestatic 81, 3) := by decide +kernel
theorem dX9_back_11 : decode cX9_back 11 = .ok (.ifCond .ne 5, 3) := by decide +kernel
theorem dX9_back_14 : decode cX9_back 14 = .ok (.iconst (-1), 1) := by decide +kernel
theorem dX9_back_15 : decode cX9_back 15 = .ok (.ireturn, 1) := by decide +kernel
theorem dX9_back_16 : decode cX9_back 16 = .ok (.aload_n 0, 1) := by decide +kernel
theorem dX9_back_17 : decode cX9_back 17 = .ok (.getfield 34, 3) := by decide +kernel
theorem dX9_back_20 : decode cX9_back 20 = .ok (.iload_n 1, 1) := by decide +kernel
theorem dX9_back_21 : decode cX9_back 21 = .ok (.baload, 1) := by decide +kernel
theorem dX9_back_22 : decode cX9_back 22 = .ok (.ifCond .ne 6, 3) := by decide +kernel
theorem dX9_back_25 : decode cX9_back 25 = .ok (.bipush (-2), 2) := by decide +kernel
theorem dX9_back_27 : decode cX9_back 27 = .ok (.ireturn, 1) := by decide +kernel
theorem dX9_back_28 : decode cX9_back 28 = .ok (.iconst 0, 1) := by decide +kernel
theorem dX9_back_29 : decode cX9_back 29 = .ok (.istore_n 2, 1) := by decide +kernel
theorem dX9_back_30 : decode cX9_back 30 = .ok (.iload_n 2, 1) := by decide +kernel
theorem dX9_back_31 : decode cX9_back 31 = .ok (.bipush 23, 2) := by decide +kernel
theorem dX9_back_33 : decode cX9_back 33 = .ok (.if_icmp .ge 26, 3) := by decide +kernel
theorem dX9_back_36 : decode cX9_back 36 = .ok (.aload_n 0, 1) := by decide +kernel
theorem dX9_back_37 : decode cX9_back 37 = .ok (.getfield 28, 3) := by decide +kernel
theorem dX9_back_40 : decode cX9_back 40 = .ok (.iload_n 2, 1) := by decide +kernel
theorem dX9_back_41 : decode cX9_back 41 = .ok (.aload_n 0, 1) := by decide +kernel
theorem dX9_back_42 : decode cX9_back 42 = .ok (.getfield 31, 3) := by decide +kernel
theorem dX9_back_45 : decode cX9_back 45 = .ok (.bipush 23, 2) := by decide +kernel
theorem dX9_back_47 : decode cX9_back 47 = .ok (.iload_n 1, 1) := by decide +kernel
theorem dX9_back_48 : decode cX9_back 48 = .ok (.imul, 1) := by decide +kernel
theorem dX9_back_49 : decode cX9_back 49 = .ok (.iload_n 2, 1) := by decide +kernel
theorem dX9_back_50 : decode cX9_back 50 = .ok (.iadd, 1) := by decide +kernel
theorem dX9_back_51 : decode cX9_back 51 = .ok (.iaload, 1) := by decide +kernel
theorem dX9_back_52 : decode cX9_back 52 = .ok (.iastore, 1) := by decide +kernel
theorem dX9_back_53 : decode cX9_back 53 = .ok (.iinc 2 1, 3) := by decide +kernel
theorem dX9_back_56 : decode cX9_back 56 = .ok (.goto (-26), 3) := by decide +kernel
theorem dX9_back_59 : decode cX9_back 59 = .ok (.aload_n 0, 1) := by decide +kernel
theorem dX9_back_60 : decode cX9_back 60 = .ok (.iconst 0, 1) := by decide +kernel
theorem dX9_back_61 : decode cX9_back 61 = .ok (.putfield 135, 3) := by decide +kernel
theorem dX9_back_64 : decode cX9_back 64 = .ok (.aload_n 0, 1) := by decide +kernel
theorem dX9_back_65 : decode cX9_back 65 = .ok (.getfield 28, 3) := by decide +kernel
theorem dX9_back_68 : decode cX9_back 68 = .ok (.iconst 0, 1) := by decide +kernel
theorem dX9_back_69 : decode cX9_back 69 = .ok (.iaload, 1) := by decide +kernel
theorem dX9_back_70 : decode cX9_back 70 = .ok (.ireturn, 1) := by decide +kernel
theorem dX9_count_0 : decode cX9_count 0 = .ok (.aload_n 0, 1) := by decide +kernel
theorem dX9_count_1 : decode cX9_count 1 = .ok (.iconst 0, 1) := by decide +kernel
theorem dX9_count_2 : decode cX9_count 2 = .ok (.putfield 77, 3) := by decide +kernel
theorem dX9_count_5 : decode cX9_count 5 = .ok (.iload_n 1, 1) := by decide +kernel
theorem dX9_count_6 : decode cX9_count 6 = .ok (.iconst 0, 1) := by decide +kernel
theorem dX9_count_7 : decode cX9_count 7 = .ok (.iconst 1, 1) := by decide +kernel
theorem dX9_count_8 : decode cX9_count 8 = .ok (.invokestatic 81, 3) := by decide +kernel
theorem dX9_count_11 : decode cX9_count 11 = .ok (.ifCond .eq 12, 3) := by decide +kernel
theorem dX9_count_14 : decode cX9_count 14 = .ok (.aload_n 0, 1) := by decide +kernel
theorem dX9_count_15 : decode cX9_count 15 = .ok (.getfield 13, 3) := by decide +kernel
theorem dX9_count_18 : decode cX9_count 18 = .ok (.iload_n 1, 1) := by decide +kernel
theorem dX9_count_19 : decode cX9_count 19 = .ok (.iaload, 1) := by decide +kernel
theorem dX9_count_20 : decode cX9_count 20 = .ok (.goto 40, 3) := by decide +kernel
theorem dX9_count_23 : decode cX9_count 23 = .ok (.iload_n 1, 1) := by decide +kernel
theorem dX9_count_24 : decode cX9_count 24 = .ok (.iconst 2, 1) := by decide +kernel
theorem dX9_count_25 : decode cX9_count 25 = .ok (.if_icmp .ne 10, 3) := by decide +kernel
theorem dX9_count_28 : decode cX9_count 28 = .ok (.aload_n 0, 1) := by decide +kernel
theorem dX9_count_29 : decode cX9_count 29 = .ok (.getfield 129, 3) := by decide +kernel
theorem dX9_count_32 : decode cX9_count 32 = .ok (.goto 28, 3) := by decide +kernel
theorem dX9_count_35 : decode cX9_count 35 = .ok (.iload_n 1, 1) := by decide +kernel
theorem dX9_count_36 : decode cX9_count 36 = .ok (.iconst 3, 1) := by decide +kernel
theorem dX9_count_37 : decode cX9_count 37 = .ok (.if_icmp .ne 10, 3) := by decide +kernel
theorem dX9_count_40 : decode cX9_count 40 = .ok (.aload_n 0, 1) := by decide +kernel
theorem dX9_count_41 : decode cX9_count 41 = .ok (.getfield 132, 3) := by decide +kernel
theorem dX9_count_44 : decode cX9_count 44 = .ok (.goto 16, 3) := by decide +kernel
theorem dX9_count_47 : decode cX9_count 47 = .ok (.iload_n 1, 1) := by decide +kernel
theorem dX9_count_48 : decode cX9_count 48 = .ok (.iconst 4, 1) := by decide +kernel
theorem dX9_count_49 : decode cX9_count 49 = .ok (.if_icmp .ne 10, 3) := by decide +kernel
theorem dX9_count_52 : decode cX9_count 52 = .ok (.aload_n 0, 1) := by decide +kernel
theorem dX9_count_53 : decode cX9_count 53 = .ok (.getfield 85, 3) := by decide +kernel
theorem dX9_count_56 : decode cX9_count 56 = .ok (.goto 4, 3) := by decide +kernel
theorem dX9_count_59 : decode cX9_count 59 = .ok (.iconst (-1), 1) := by decide +kernel
theorem dX9_count_60 : decode cX9_count 60 = .ok (.ireturn, 1) := by decide +kernel
theorem dX9_trace_0 : decode cX9_trace 0 = .ok (.aload_n 0, 1) := by decide +kernel
theorem dX9_trace_1 : decode cX9_trace 1 = .ok (.iconst 0, 1) := by decide +kernel
theorem dX9_trace_2 : decode cX9_trace 2 = .ok (.putfield 77, 3) := by decide +kernel
theorem dX9_trace_5 : decode cX9_trace 5 = .ok (.aload_n 0, 1) := by decide +kernel
theorem dX9_trace_6 : decode cX9_trace 6 = .ok (.getfield 240, 3) := by decide +kernel
theorem dX9_trace_9 : decode cX9_trace 9 = .ok (.lreturn, 1) := by decide +kernel
theorem dJ6_bitCount_0f7a4_0 : decode cJ6_bitCount_0f7a4 0 = .ok (.iload_n 0, 1) := by decide +kernel
theorem dJ6_bitCount_0f7a4_1 : decode cJ6_bitCount_0f7a4 1 = .ok (.iload_n 0, 1) := by decide +kernel
theorem dJ6_bitCount_0f7a4_2 : decode cJ6_bitCount_0f7a4 2 = .ok (.iconst 1, 1) := by decide +kernel
theorem dJ6_bitCount_0f7a4_3 : decode cJ6_bitCount_0f7a4 3 = .ok (.iushr, 1) := by decide +kernel
theorem dJ6_bitCount_0f7a4_4 : decode cJ6_bitCount_0f7a4 4 = .ok (.ldc_w 265, 3) := by decide +kernel
theorem dJ6_bitCount_0f7a4_7 : decode cJ6_bitCount_0f7a4 7 = .ok (.iand, 1) := by decide +kernel
theorem dJ6_bitCount_0f7a4_8 : decode cJ6_bitCount_0f7a4 8 = .ok (.isub, 1) := by decide +kernel
theorem dJ6_bitCount_0f7a4_9 : decode cJ6_bitCount_0f7a4 9 = .ok (.istore_n 0, 1) := by decide +kernel
theorem dJ6_bitCount_0f7a4_10 : decode cJ6_bitCount_0f7a4 10 = .ok (.iload_n 0, 1) := by decide +kernel
theorem dJ6_bitCount_0f7a4_11 : decode cJ6_bitCount_0f7a4 11 = .ok (.ldc_w 266, 3) := by decide +kernel
theorem dJ6_bitCount_0f7a4_14 : decode cJ6_bitCount_0f7a4 14 = .ok (.iand, 1) := by decide +kernel
theorem dJ6_bitCount_0f7a4_15 : decode cJ6_bitCount_0f7a4 15 = .ok (.iload_n 0, 1) := by decide +kernel
theorem dJ6_bitCount_0f7a4_16 : decode cJ6_bitCount_0f7a4 16 = .ok (.iconst 2, 1) := by decide +kernel
theorem dJ6_bitCount_0f7a4_17 : decode cJ6_bitCount_0f7a4 17 = .ok (.iushr, 1) := by decide +kernel
theorem dJ6_bitCount_0f7a4_18 : decode cJ6_bitCount_0f7a4 18 = .ok (.ldc_w 266, 3) := by decide +kernel
theorem dJ6_bitCount_0f7a4_21 : decode cJ6_bitCount_0f7a4 21 = .ok (.iand, 1) := by decide +kernel
theorem dJ6_bitCount_0f7a4_22 : decode cJ6_bitCount_0f7a4 22 = .ok (.iadd, 1) := by decide +kernel
theorem dJ6_bitCount_0f7a4_23 : decode cJ6_bitCount_0f7a4 23 = .ok (.istore_n 0, 1) := by decide +kernel
theorem dJ6_bitCount_0f7a4_24 : decode cJ6_bitCount_0f7a4 24 = .ok (.iload_n 0, 1) := by decide +kernel
theorem dJ6_bitCount_0f7a4_25 : decode cJ6_bitCount_0f7a4 25 = .ok (.iload_n 0, 1) := by decide +kernel
theorem dJ6_bitCount_0f7a4_26 : decode cJ6_bitCount_0f7a4 26 = .ok (.iconst 4, 1) := by decide +kernel
theorem dJ6_bitCount_0f7a4_27 : decode cJ6_bitCount_0f7a4 27 = .ok (.iushr, 1) := by decide +kernel
theorem dJ6_bitCount_0f7a4_28 : decode cJ6_bitCount_0f7a4 28 = .ok (.iadd, 1) := by decide +kernel
theorem dJ6_bitCount_0f7a4_29 : decode cJ6_bitCount_0f7a4 29 = .ok (.ldc_w 267, 3) := by decide +kernel
theorem dJ6_bitCount_0f7a4_32 : decode cJ6_bitCount_0f7a4 32 = .ok (.iand, 1) := by decide +kernel
theorem dJ6_bitCount_0f7a4_33 : decode cJ6_bitCount_0f7a4 33 = .ok (.istore_n 0, 1) := by decide +kernel
theorem dJ6_bitCount_0f7a4_34 : decode cJ6_bitCount_0f7a4 34 = .ok (.iload_n 0, 1) := by decide +kernel
theorem dJ6_bitCount_0f7a4_35 : decode cJ6_bitCount_0f7a4 35 = .ok (.iload_n 0, 1) := by decide +kernel
theorem dJ6_bitCount_0f7a4_36 : decode cJ6_bitCount_0f7a4 36 = .ok (.bipush 8, 2) := by decide +kernel
theorem dJ6_bitCount_0f7a4_38 : decode cJ6_bitCount_0f7a4 38 = .ok (.iushr, 1) := by decide +kernel
theorem dJ6_bitCount_0f7a4_39 : decode cJ6_bitCount_0f7a4 39 = .ok (.iadd, 1) := by decide +kernel
theorem dJ6_bitCount_0f7a4_40 : decode cJ6_bitCount_0f7a4 40 = .ok (.istore_n 0, 1) := by decide +kernel
theorem dJ6_bitCount_0f7a4_41 : decode cJ6_bitCount_0f7a4 41 = .ok (.iload_n 0, 1) := by decide +kernel
theorem dJ6_bitCount_0f7a4_42 : decode cJ6_bitCount_0f7a4 42 = .ok (.iload_n 0, 1) := by decide +kernel
theorem dJ6_bitCount_0f7a4_43 : decode cJ6_bitCount_0f7a4 43 = .ok (.bipush 16, 2) := by decide +kernel
theorem dJ6_bitCount_0f7a4_45 : decode cJ6_bitCount_0f7a4 45 = .ok (.iushr, 1) := by decide +kernel
theorem dJ6_bitCount_0f7a4_46 : decode cJ6_bitCount_0f7a4 46 = .ok (.iadd, 1) := by decide +kernel
theorem dJ6_bitCount_0f7a4_47 : decode cJ6_bitCount_0f7a4 47 = .ok (.istore_n 0, 1) := by decide +kernel
theorem dJ6_bitCount_0f7a4_48 : decode cJ6_bitCount_0f7a4 48 = .ok (.iload_n 0, 1) := by decide +kernel
theorem dJ6_bitCount_0f7a4_49 : decode cJ6_bitCount_0f7a4 49 = .ok (.bipush 63, 2) := by decide +kernel
theorem dJ6_bitCount_0f7a4_51 : decode cJ6_bitCount_0f7a4 51 = .ok (.iand, 1) := by decide +kernel
theorem dJ6_bitCount_0f7a4_52 : decode cJ6_bitCount_0f7a4 52 = .ok (.ireturn, 1) := by decide +kernel
theorem dJ9_max_7cf53_0 : decode cJ9_max_7cf53 0 = .ok (.iload_n 0, 1) := by decide +kernel
theorem dJ9_max_7cf53_1 : decode cJ9_max_7cf53 1 = .ok (.iload_n 1, 1) := by decide +kernel
theorem dJ9_max_7cf53_2 : decode cJ9_max_7cf53 2 = .ok (.if_icmp .lt 7, 3) := by decide +kernel
theorem dJ9_max_7cf53_5 : decode cJ9_max_7cf53 5 = .ok (.iload_n 0, 1) := by decide +kernel
theorem dJ9_max_7cf53_6 : decode cJ9_max_7cf53 6 = .ok (.goto 4, 3) := by decide +kernel
theorem dJ9_max_7cf53_9 : decode cJ9_max_7cf53 9 = .ok (.iload_n 1, 1) := by decide +kernel
theorem dJ9_max_7cf53_10 : decode cJ9_max_7cf53 10 = .ok (.ireturn, 1) := by decide +kernel
theorem dJ9_min_7cf53_0 : decode cJ9_min_7cf53 0 = .ok (.iload_n 0, 1) := by decide +kernel
theorem dJ9_min_7cf53_1 : decode cJ9_min_7cf53 1 = .ok (.iload_n 1, 1) := by decide +kernel
theorem dJ9_min_7cf53_2 : decode cJ9_min_7cf53 2 = .ok (.if_icmp .gt 7, 3) := by decide +kernel
theorem dJ9_min_7cf53_5 : decode cJ9_min_7cf53 5 = .ok (.iload_n 0, 1) := by decide +kernel
theorem dJ9_min_7cf53_6 : decode cJ9_min_7cf53 6 = .ok (.goto 4, 3) := by decide +kernel
theorem dJ9_min_7cf53_9 : decode cJ9_min_7cf53 9 = .ok (.iload_n 1, 1) := by decide +kernel
theorem dJ9_min_7cf53_10 : decode cJ9_min_7cf53 10 = .ok (.ireturn, 1) := by decide +kernel
theorem dJ7_fill_53178_0 : decode cJ7_fill_53178 0 = .ok (.iconst 0, 1) := by decide +kernel
theorem dJ7_fill_53178_1 : decode cJ7_fill_53178 1 = .ok (.istore_n 2, 1) := by decide +kernel
theorem dJ7_fill_53178_2 : decode cJ7_fill_53178 2 = .ok (.aload_n 0, 1) := by decide +kernel
theorem dJ7_fill_53178_3 : decode cJ7_fill_53178 3 = .ok (.arraylength, 1) := by decide +kernel
theorem dJ7_fill_53178_4 : decode cJ7_fill_53178 4 = .ok (.istore_n 3, 1) := by decide +kernel
theorem dJ7_fill_53178_5 : decode cJ7_fill_53178 5 = .ok (.iload_n 2, 1) := by decide +kernel
theorem dJ7_fill_53178_6 : decode cJ7_fill_53178 6 = .ok (.iload_n 3, 1) := by decide +kernel
theorem dJ7_fill_53178_7 : decode cJ7_fill_53178 7 = .ok (.if_icmp .ge 13, 3) := by decide +kernel
theorem dJ7_fill_53178_10 : decode cJ7_fill_53178 10 = .ok (.aload_n 0, 1) := by decide +kernel
theorem dJ7_fill_53178_11 : decode cJ7_fill_53178 11 = .ok (.iload_n 2, 1) := by decide +kernel
theorem dJ7_fill_53178_12 : decode cJ7_fill_53178 12 = .ok (.iload_n 1, 1) := by decide +kernel
theorem dJ7_fill_53178_13 : decode cJ7_fill_53178 13 = .ok (.iastore, 1) := by decide +kernel
theorem dJ7_fill_53178_14 : decode cJ7_fill_53178 14 = .ok (.iinc 2 1, 3) := by decide +kernel
theorem dJ7_fill_53178_17 : decode cJ7_fill_53178 17 = .ok (.goto (-12), 3) := by decide +kernel
theorem dJ7_fill_53178_20 : decode cJ7_fill_53178 20 = .ok (.return_, 1) := by decide +kernel
