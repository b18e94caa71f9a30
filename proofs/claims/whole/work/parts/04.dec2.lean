theorem dX4_oddsIfThereIsOne_51 : decode cX4_oddsIfThereIsOne 51 = .ok (.getfield 18, 3) := by decide +kernel
theorem dX4_oddsIfThereIsOne_54 : decode cX4_oddsIfThereIsOne 54 = .ok (.iload 4, 2) := by decide +kernel
theorem dX4_oddsIfThereIsOne_56 : decode cX4_oddsIfThereIsOne 56 = .ok (.iaload, 1) := by decide +kernel
theorem dX4_oddsIfThereIsOne_57 : decode cX4_oddsIfThereIsOne 57 = .ok (.iconst 2, 1) := by decide +kernel
theorem dX4_oddsIfThereIsOne_58 : decode cX4_oddsIfThereIsOne 58 = .ok (.if_icmp .ne 17, 3) := by decide +kernel
theorem dX4_oddsIfThereIsOne_61 : decode cX4_oddsIfThereIsOne 61 = .ok (.lload_n 2, 1) := by decide +kernel
theorem dX4_oddsIfThereIsOne_62 : decode cX4_oddsIfThereIsOne 62 = .ok (.bipush 10, 2) := by decide +kernel
theorem dX4_oddsIfThereIsOne_64 : decode cX4_oddsIfThereIsOne 64 = .ok (.aload_n 0, 1) := by decide +kernel
theorem dX4_oddsIfThereIsOne_65 : decode cX4_oddsIfThereIsOne 65 = .ok (.getfield 11, 3) := by decide +kernel
theorem dX4_oddsIfThereIsOne_68 : decode cX4_oddsIfThereIsOne 68 = .ok (.iload 4, 2) := by decide +kernel
theorem dX4_oddsIfThereIsOne_70 : decode cX4_oddsIfThereIsOne 70 = .ok (.iaload, 1) := by decide +kernel
theorem dX4_oddsIfThereIsOne_71 : decode cX4_oddsIfThereIsOne 71 = .ok (.isub, 1) := by decide +kernel
theorem dX4_oddsIfThereIsOne_72 : decode cX4_oddsIfThereIsOne 72 = .ok (.i2l, 1) := by decide +kernel
theorem dX4_oddsIfThereIsOne_73 : decode cX4_oddsIfThereIsOne 73 = .ok (.lmul, 1) := by decide +kernel
theorem dX4_oddsIfThereIsOne_74 : decode cX4_oddsIfThereIsOne 74 = .ok (.lstore_n 2, 1) := by decide +kernel
theorem dX4_oddsIfThereIsOne_75 : decode cX4_oddsIfThereIsOne 75 = .ok (.iinc 4 1, 3) := by decide +kernel
theorem dX4_oddsIfThereIsOne_78 : decode cX4_oddsIfThereIsOne 78 = .ok (.goto (-73), 3) := by decide +kernel
theorem dX4_oddsIfThereIsOne_81 : decode cX4_oddsIfThereIsOne 81 = .ok (.lload_n 2, 1) := by decide +kernel
theorem dX4_oddsIfThereIsOne_82 : decode cX4_oddsIfThereIsOne 82 = .ok (.lreturn, 1) := by decide +kernel
theorem dX4_oddsIfThereIsNone_0 : decode cX4_oddsIfThereIsNone 0 = .ok (.lconst 1, 1) := by decide +kernel
theorem dX4_oddsIfThereIsNone_1 : decode cX4_oddsIfThereIsNone 1 = .ok (.lstore_n 1, 1) := by decide +kernel
theorem dX4_oddsIfThereIsNone_2 : decode cX4_oddsIfThereIsNone 2 = .ok (.iconst 0, 1) := by decide +kernel
theorem dX4_oddsIfThereIsNone_3 : decode cX4_oddsIfThereIsNone 3 = .ok (.istore_n 3, 1) := by decide +kernel
theorem dX4_oddsIfThereIsNone_4 : decode cX4_oddsIfThereIsNone 4 = .ok (.iload_n 3, 1) := by decide +kernel
theorem dX4_oddsIfThereIsNone_5 : decode cX4_oddsIfThereIsNone 5 = .ok (.aload_n 0, 1) := by decide +kernel
theorem dX4_oddsIfThereIsNone_6 : decode cX4_oddsIfThereIsNone 6 = .ok (.getfield 21, 3) := by decide +kernel
theorem dX4_oddsIfThereIsNone_9 : decode cX4_oddsIfThereIsNone 9 = .ok (.if_icmp .ge 55, 3) := by decide +kernel
theorem dX4_oddsIfThereIsNone_12 : decode cX4_oddsIfThereIsNone 12 = .ok (.aload_n 0, 1) := by decide +kernel
theorem dX4_oddsIfThereIsNone_13 : decode cX4_oddsIfThereIsNone 13 = .ok (.getfield 18, 3) := by decide +kernel
theorem dX4_oddsIfThereIsNone_16 : decode cX4_oddsIfThereIsNone 16 = .ok (.iload_n 3, 1) := by decide +kernel
theorem dX4_oddsIfThereIsNone_17 : decode cX4_oddsIfThereIsNone 17 = .ok (.iaload, 1) := by decide +kernel
theorem dX4_oddsIfThereIsNone_18 : decode cX4_oddsIfThereIsNone 18 = .ok (.iconst 1, 1) := by decide +kernel
theorem dX4_oddsIfThereIsNone_19 : decode cX4_oddsIfThereIsNone 19 = .ok (.if_icmp .ne 16, 3) := by decide +kernel
theorem dX4_oddsIfThereIsNone_22 : decode cX4_oddsIfThereIsNone 22 = .ok (.lload_n 1, 1) := by decide +kernel
theorem dX4_oddsIfThereIsNone_23 : decode cX4_oddsIfThereIsNone 23 = .ok (.aload_n 0, 1) := by decide +kernel
theorem dX4_oddsIfThereIsNone_24 : decode cX4_oddsIfThereIsNone 24 = .ok (.getfield 15, 3) := by decide +kernel
theorem dX4_oddsIfThereIsNone_27 : decode cX4_oddsIfThereIsNone 27 = .ok (.iload_n 3, 1) := by decide +kernel
theorem dX4_oddsIfThereIsNone_28 : decode cX4_oddsIfThereIsNone 28 = .ok (.iaload, 1) := by decide +kernel
theorem dX4_oddsIfThereIsNone_29 : decode cX4_oddsIfThereIsNone 29 = .ok (.i2l, 1) := by decide +kernel
theorem dX4_oddsIfThereIsNone_30 : decode cX4_oddsIfThereIsNone 30 = .ok (.lmul, 1) := by decide +kernel
theorem dX4_oddsIfThereIsNone_31 : decode cX4_oddsIfThereIsNone 31 = .ok (.lstore_n 1, 1) := by decide +kernel
theorem dX4_oddsIfThereIsNone_32 : decode cX4_oddsIfThereIsNone 32 = .ok (.goto 26, 3) := by decide +kernel
theorem dX4_oddsIfThereIsNone_35 : decode cX4_oddsIfThereIsNone 35 = .ok (.aload_n 0, 1) := by decide +kernel
theorem dX4_oddsIfThereIsNone_36 : decode cX4_oddsIfThereIsNone 36 = .ok (.getfield 18, 3) := by decide +kernel
theorem dX4_oddsIfThereIsNone_39 : decode cX4_oddsIfThereIsNone 39 = .ok (.iload_n 3, 1) := by decide +kernel
theorem dX4_oddsIfThereIsNone_40 : decode cX4_oddsIfThereIsNone 40 = .ok (.iaload, 1) := by decide +kernel
theorem dX4_oddsIfThereIsNone_41 : decode cX4_oddsIfThereIsNone 41 = .ok (.iconst 2, 1) := by decide +kernel
theorem dX4_oddsIfThereIsNone_42 : decode cX4_oddsIfThereIsNone 42 = .ok (.if_icmp .ne 16, 3) := by decide +kernel
theorem dX4_oddsIfThereIsNone_45 : decode cX4_oddsIfThereIsNone 45 = .ok (.lload_n 1, 1) := by decide +kernel
theorem dX4_oddsIfThereIsNone_46 : decode cX4_oddsIfThereIsNone 46 = .ok (.bipush 10, 2) := by decide +kernel
theorem dX4_oddsIfThereIsNone_48 : decode cX4_oddsIfThereIsNone 48 = .ok (.aload_n 0, 1) := by decide +kernel
theorem dX4_oddsIfThereIsNone_49 : decode cX4_oddsIfThereIsNone 49 = .ok (.getfield 15, 3) := by decide +kernel
theorem dX4_oddsIfThereIsNone_52 : decode cX4_oddsIfThereIsNone 52 = .ok (.iload_n 3, 1) := by decide +kernel
theorem dX4_oddsIfThereIsNone_53 : decode cX4_oddsIfThereIsNone 53 = .ok (.iaload, 1) := by decide +kernel
theorem dX4_oddsIfThereIsNone_54 : decode cX4_oddsIfThereIsNone 54 = .ok (.isub, 1) := by decide +kernel
theorem dX4_oddsIfThereIsNone_55 : decode cX4_oddsIfThereIsNone 55 = .ok (.i2l, 1) := by decide +kernel
theorem dX4_oddsIfThereIsNone_56 : decode cX4_oddsIfThereIsNone 56 = .ok (.lmul, 1) := by decide +kernel
theorem dX4_oddsIfThereIsNone_57 : decode cX4_oddsIfThereIsNone 57 = .ok (.lstore_n 1, 1) := by decide +kernel
theorem dX4_oddsIfThereIsNone_58 : decode cX4_oddsIfThereIsNone 58 = .ok (.iinc 3 1, 3) := by decide +kernel
theorem dX4_oddsIfThereIsNone_61 : decode cX4_oddsIfThereIsNone 61 = .ok (.goto (-57), 3) := by decide +kernel
theorem dX4_oddsIfThereIsNone_64 : decode cX4_oddsIfThereIsNone 64 = .ok (.lload_n 1, 1) := by decide +kernel
theorem dX4_oddsIfThereIsNone_65 : decode cX4_oddsIfThereIsNone 65 = .ok (.lreturn, 1) := by decide +kernel
theorem dX4_onTrail_0 : decode cX4_onTrail 0 = .ok (.iload_n 1, 1) := by decide +kernel
theorem dX4_onTrail_1 : decode cX4_onTrail 1 = .ok (.iload_n 0, 1) := by decide +kernel
theorem dX4_onTrail_2 : decode cX4_onTrail 2 = .ok (.isub, 1) := by decide +kernel
theorem dX4_onTrail_3 : decode cX4_onTrail 3 = .ok (.invokestatic 33, 3) := by decide +kernel
theorem dX4_onTrail_6 : decode cX4_onTrail 6 = .ok (.iload_n 2, 1) := by decide +kernel
theorem dX4_onTrail_7 : decode cX4_onTrail 7 = .ok (.imul, 1) := by decide +kernel
theorem dX4_onTrail_8 : decode cX4_onTrail 8 = .ok (.bipush 9, 2) := by decide +kernel
theorem dX4_onTrail_10 : decode cX4_onTrail 10 = .ok (.iadd, 1) := by decide +kernel
theorem dX4_onTrail_11 : decode cX4_onTrail 11 = .ok (.bipush 10, 2) := by decide +kernel
theorem dX4_onTrail_13 : decode cX4_onTrail 13 = .ok (.idiv, 1) := by decide +kernel
theorem dX4_onTrail_14 : decode cX4_onTrail 14 = .ok (.istore_n 3, 1) := by decide +kernel
theorem dX4_onTrail_15 : decode cX4_onTrail 15 = .ok (.iload_n 0, 1) := by decide +kernel
theorem dX4_onTrail_16 : decode cX4_onTrail 16 = .ok (.iload_n 1, 1) := by decide +kernel
theorem dX4_onTrail_17 : decode cX4_onTrail 17 = .ok (.if_icmp .ge 9, 3) := by decide +kernel
theorem dX4_onTrail_20 : decode cX4_onTrail 20 = .ok (.iload_n 0, 1) := by decide +kernel
theorem dX4_onTrail_21 : decode cX4_onTrail 21 = .ok (.iload_n 3, 1) := by decide +kernel
theorem dX4_onTrail_22 : decode cX4_onTrail 22 = .ok (.iadd, 1) := by decide +kernel
theorem dX4_onTrail_23 : decode cX4_onTrail 23 = .ok (.goto 6, 3) := by decide +kernel
theorem dX4_onTrail_26 : decode cX4_onTrail 26 = .ok (.iload_n 0, 1) := by decide +kernel
theorem dX4_onTrail_27 : decode cX4_onTrail 27 = .ok (.iload_n 3, 1) := by decide +kernel
theorem dX4_onTrail_28 : decode cX4_onTrail 28 = .ok (.isub, 1) := by decide +kernel
theorem dX4_onTrail_29 : decode cX4_onTrail 29 = .ok (.ireturn, 1) := by decide +kernel
theorem dX4_bestParting_0 : decode cX4_bestParting 0 = .ok (.aload_n 0, 1) := by decide +kernel
theorem dX4_bestParting_1 : decode cX4_bestParting 1 = .ok (.iconst 0, 1) := by decide +kernel
theorem dX4_bestParting_2 : decode cX4_bestParting 2 = .ok (.invokevirtual 39, 3) := by decide +kernel
theorem dX4_bestParting_5 : decode cX4_bestParting 5 = .ok (.lstore_n 1, 1) := by decide +kernel
theorem dX4_bestParting_6 : decode cX4_bestParting 6 = .ok (.aload_n 0, 1) := by decide +kernel
theorem dX4_bestParting_7 : decode cX4_bestParting 7 = .ok (.invokevirtual 43, 3) := by decide +kernel
theorem dX4_bestParting_10 : decode cX4_bestParting 10 = .ok (.lstore_n 3, 1) := by decide +kernel
theorem dX4_bestParting_11 : decode cX4_bestParting 11 = .ok (.lconst 0, 1) := by decide +kernel
theorem dX4_bestParting_12 : decode cX4_bestParting 12 = .ok (.lstore 5, 2) := by decide +kernel
theorem dX4_bestParting_14 : decode cX4_bestParting 14 = .ok (.iconst (-1), 1) := by decide +kernel
theorem dX4_bestParting_15 : decode cX4_bestParting 15 = .ok (.istore 7, 2) := by decide +kernel
theorem dX4_bestParting_17 : decode cX4_bestParting 17 = .ok (.iconst 0, 1) := by decide +kernel
theorem dX4_bestParting_18 : decode cX4_bestParting 18 = .ok (.istore 8, 2) := by decide +kernel
theorem dX4_bestParting_20 : decode cX4_bestParting 20 = .ok (.iload 8, 2) := by decide +kernel
theorem dX4_bestParting_22 : decode cX4_bestParting 22 = .ok (.aload_n 0, 1) := by decide +kernel
theorem dX4_bestParting_23 : decode cX4_bestParting 23 = .ok (.getfield 21, 3) := by decide +kernel
theorem dX4_bestParting_26 : decode cX4_bestParting 26 = .ok (.if_icmp .ge 96, 3) := by decide +kernel
theorem dX4_bestParting_29 : decode cX4_bestParting 29 = .ok (.aload_n 0, 1) := by decide +kernel
theorem dX4_bestParting_30 : decode cX4_bestParting 30 = .ok (.getfield 18, 3) := by decide +kernel
theorem dX4_bestParting_33 : decode cX4_bestParting 33 = .ok (.iload 8, 2) := by decide +kernel
theorem dX4_bestParting_35 : decode cX4_bestParting 35 = .ok (.iaload, 1) := by decide +kernel
theorem dX4_bestParting_36 : decode cX4_bestParting 36 = .ok (.ifCond .ne 80, 3) := by decide +kernel
theorem dX4_bestParting_39 : decode cX4_bestParting 39 = .ok (.lload_n 1, 1) := by decide +kernel
theorem dX4_bestParting_40 : decode cX4_bestParting 40 = .ok (.aload_n 0, 1) := by decide +kernel
theorem dX4_bestParting_41 : decode cX4_bestParting 41 = .ok (.getfield 11, 3) := by decide +kernel
theorem dX4_bestParting_44 : decode cX4_bestParting 44 = .ok (.iload 8, 2) := by decide +kernel
theorem dX4_bestParting_46 : decode cX4_bestParting 46 = .ok (.iaload, 1) := by decide +kernel
theorem dX4_bestParting_47 : decode cX4_bestParting 47 = .ok (.i2l, 1) := by decide +kernel
theorem dX4_bestParting_48 : decode cX4_bestParting 48 = .ok (.lmul, 1) := by decide +kernel
theorem dX4_bestParting_49 : decode cX4_bestParting 49 = .ok (.lload_n 3, 1) := by decide +kernel
theorem dX4_bestParting_50 : decode cX4_bestParting 50 = .ok (.aload_n 0, 1) := by decide +kernel
theorem dX4_bestParting_51 : decode cX4_bestParting 51 = .ok (.getfield 15, 3) := by decide +kernel
theorem dX4_bestParting_54 : decode cX4_bestParting 54 = .ok (.iload 8, 2) := by decide +kernel
theorem dX4_bestParting_56 : decode cX4_bestParting 56 = .ok (.iaload, 1) := by decide +kernel
theorem dX4_bestParting_57 : decode cX4_bestParting 57 = .ok (.i2l, 1) := by decide +kernel
theorem dX4_bestParting_58 : decode cX4_bestParting 58 = .ok (.lmul, 1) := by decide +kernel
theorem dX4_bestParting_59 : decode cX4_bestParting 59 = .ok (.invokestatic 47, 3) := by decide +kernel
theorem dX4_bestParting_62 : decode cX4_bestParting 62 = .ok (.lload_n 1, 1) := by decide +kernel
theorem dX4_bestParting_63 : decode cX4_bestParting 63 = .ok (.bipush 10, 2) := by decide +kernel
theorem dX4_bestParting_65 : decode cX4_bestParting 65 = .ok (.aload_n 0, 1) := by decide +kernel
theorem dX4_bestParting_66 : decode cX4_bestParting 66 = .ok (.getfield 11, 3) := by decide +kernel
theorem dX4_bestParting_69 : decode cX4_bestParting 69 = .ok (.iload 8, 2) := by decide +kernel
theorem dX4_bestParting_71 : decode cX4_bestParting 71 = .ok (.iaload, 1) := by decide +kernel
theorem dX4_bestParting_72 : decode cX4_bestParting 72 = .ok (.isub, 1) := by decide +kernel
theorem dX4_bestParting_73 : decode cX4_bestParting 73 = .ok (.i2l, 1) := by decide +kernel
theorem dX4_bestParting_74 : decode cX4_bestParting 74 = .ok (.lmul, 1) := by decide +kernel
theorem dX4_bestParting_75 : decode cX4_bestParting 75 = .ok (.lload_n 3, 1) := by decide +kernel
theorem dX4_bestParting_76 : decode cX4_bestParting 76 = .ok (.bipush 10, 2) := by decide +kernel
theorem dX4_bestParting_78 : decode cX4_bestParting 78 = .ok (.aload_n 0, 1) := by decide +kernel
theorem dX4_bestParting_79 : decode cX4_bestParting 79 = .ok (.getfield 15, 3) := by decide +kernel
theorem dX4_bestParting_82 : decode cX4_bestParting 82 = .ok (.iload 8, 2) := by decide +kernel
theorem dX4_bestParting_84 : decode cX4_bestParting 84 = .ok (.iaload, 1) := by decide +kernel
theorem dX4_bestParting_85 : decode cX4_bestParting 85 = .ok (.isub, 1) := by decide +kernel
theorem dX4_bestParting_86 : decode cX4_bestParting 86 = .ok (.i2l, 1) := by decide +kernel
theorem dX4_bestParting_87 : decode cX4_bestParting 87 = .ok (.lmul, 1) := by decide +kernel
theorem dX4_bestParting_88 : decode cX4_bestParting 88 = .ok (.invokestatic 47, 3) := by decide +kernel
theorem dX4_bestParting_91 : decode cX4_bestParting 91 = .ok (.ladd, 1) := by decide +kernel
theorem dX4_bestParting_92 : decode cX4_bestParting 92 = .ok (.lstore 9, 2) := by decide +kernel
theorem dX4_bestParting_94 : decode cX4_bestParting 94 = .ok (.iload 7, 2) := by decide +kernel
theorem dX4_bestParting_96 : decode cX4_bestParting 96 = .ok (.iconst (-1), 1) := by decide +kernel
theorem dX4_bestParting_97 : decode cX4_bestParting 97 = .ok (.if_icmp .eq 11, 3) := by decide +kernel
theorem dX4_bestParting_100 : decode cX4_bestParting 100 = .ok (.lload 9, 2) := by decide +kernel
theorem dX4_bestParting_102 : decode cX4_bestParting 102 = .ok (.lload 5, 2) := by decide +kernel
theorem dX4_bestParting_104 : decode cX4_bestParting 104 = .ok (.lcmp, 1) := by decide +kernel
theorem dX4_bestParting_105 : decode cX4_bestParting 105 = .ok (.ifCond .ge 11, 3) := by decide +kernel
theorem dX4_bestParting_108 : decode cX4_bestParting 108 = .ok (.lload 9, 2) := by decide +kernel
theorem dX4_bestParting_110 : decode cX4_bestParting 110 = .ok (.lstore 5, 2) := by decide +kernel
theorem dX4_bestParting_112 : decode cX4_bestParting 112 = .ok (.iload 8, 2) := by decide +kernel
theorem dX4_bestParting_114 : decode cX4_bestParting 114 = .ok (.istore 7, 2) := by decide +kernel
theorem dX4_bestParting_116 : decode cX4_bestParting 116 = .ok (.iinc 8 1, 3) := by decide +kernel
theorem dX4_bestParting_119 : decode cX4_bestParting 119 = .ok (.goto (-99), 3) := by decide +kernel
theorem dX4_bestParting_122 : decode cX4_bestParting 122 = .ok (.iload 7, 2) := by decide +kernel
theorem dX4_bestParting_124 : decode cX4_bestParting 124 = .ok (.ireturn, 1) := by decide +kernel
theorem dX5_init_0 : decode cX5_init 0 = .ok (.aload_n 0, 1) := by decide +kernel
theorem dX5_init_1 : decode cX5_init 1 = .ok (.invokespecial 3, 3) := by decide +kernel
theorem dX5_init_4 : decode cX5_init 4 = .ok (.aload_n 0, 1) := by decide +kernel
theorem dX5_init_5 : decode cX5_init 5 = .ok (.bipush 8, 2) := by decide +kernel
theorem dX5_init_7 : decode cX5_init 7 = .ok (.newarray .int, 2) := by decide +kernel
theorem dX5_init_9 : decode cX5_init 9 = .ok (.putfield 11, 3) := by decide +kernel
theorem dX5_init_12 : decode cX5_init 12 = .ok (.aload_n 0, 1) := by decide +kernel
theorem dX5_init_13 : decode cX5_init 13 = .ok (.bipush 8, 2) := by decide +kernel
theorem dX5_init_15 : decode cX5_init 15 = .ok (.newarray .int, 2) := by decide +kernel
theorem dX5_init_17 : decode cX5_init 17 = .ok (.putfield 15, 3) := by decide +kernel
theorem dX5_init_20 : decode cX5_init 20 = .ok (.aload_n 0, 1) := by decide +kernel
theorem dX5_init_21 : decode cX5_init 21 = .ok (.iconst 0, 1) := by decide +kernel
theorem dX5_init_22 : decode cX5_init 22 = .ok (.putfield 18, 3) := by decide +kernel
theorem dX5_init_25 : decode cX5_init 25 = .ok (.return_, 1) := by decide +kernel
theorem dX5_isSet_0 : decode cX5_isSet 0 = .ok (.iload_n 0, 1) := by decide +kernel
theorem dX5_isSet_1 : decode cX5_isSet 1 = .ok (.ifCond .lt 14, 3) := by decide +kernel
theorem dX5_isSet_4 : decode cX5_isSet 4 = .ok (.iload_n 0, 1) := by decide +kernel
theorem dX5_isSet_5 : decode cX5_isSet 5 = .ok (.sipush 512, 3) := by decide +kernel
theorem dX5_isSet_8 : decode cX5_isSet 8 = .ok (.if_icmp .ge 7, 3) := by decide +kernel
theorem dX5_isSet_11 : decode cX5_isSet 11 = .ok (.iconst 1, 1) := by decide +kernel
theorem dX5_isSet_12 : decode cX5_isSet 12 = .ok (.goto 4, 3) := by decide +kernel
theorem dX5_isSet_15 : decode cX5_isSet 15 = .ok (.iconst 0, 1) := by decide +kernel
theorem dX5_isSet_16 : decode cX5_isSet 16 = .ok (.ireturn, 1) := by decide +kernel
theorem dX5_size_0 : decode cX5_size 0 = .ok (.aload_n 0, 1) := by decide +kernel
theorem dX5_size_1 : decode cX5_size 1 = .ok (.getfield 18, 3) := by decide +kernel
theorem dX5_size_4 : decode cX5_size 4 = .ok (.ireturn, 1) := by decide +kernel
theorem dX5_has_0 : decode cX5_has 0 = .ok (.iload_n 1, 1) := by decide +kernel
theorem dX5_has_1 : decode cX5_has 1 = .ok (.ifCond .lt 15, 3) := by decide +kernel
theorem dX5_has_4 : decode cX5_has 4 = .ok (.iload_n 1, 1) := by decide +kernel
theorem dX5_has_5 : decode cX5_has 5 = .ok (.aload_n 0, 1) := by decide +kernel
theorem dX5_has_6 : decode cX5_has 6 = .ok (.getfield 18, 3) := by decide +kernel
theorem dX5_has_9 : decode cX5_has 9 = .ok (.if_icmp .ge 7, 3) := by decide +kernel
theorem dX5_has_12 : decode cX5_has 12 = .ok (.iconst 1, 1) := by decide +kernel
theorem dX5_has_13 : decode cX5_has 13 = .ok (.goto 4, 3) := by decide +kernel
theorem dX5_has_16 : decode cX5_has 16 = .ok (.iconst 0, 1) := by decide +kernel
theorem dX5_has_17 : decode cX5_has 17 = .ok (.ireturn, 1) := by decide +kernel
theorem dX5_add_0 : decode cX5_add 0 = .ok (.aload_n 0, 1) := by decide +kernel
theorem dX5_add_1 : decode cX5_add 1 = .ok (.getfield 18, 3) := by decide +kernel
theorem dX5_add_4 : decode cX5_add 4 = .ok (.bipush 8, 2) := by decide +kernel
theorem dX5_add_6 : decode cX5_add 6 = .ok (.if_icmp .lt 6, 3) := by decide +kernel
theorem dX5_add_9 : decode cX5_add 9 = .ok (.bipush (-104), 2) := by decide +kernel
theorem dX5_add_11 : decode cX5_add 11 = .ok (.ireturn, 1) := by decide +kernel
theorem dX5_add_12 : decode cX5_add 12 = .ok (.aload_n 0, 1) := by decide +kernel
theorem dX5_add_13 : decode cX5_add 13 = .ok (.getfield 11, 3) := by decide +kernel
theorem dX5_add_16 : decode cX5_add 16 = .ok (.aload_n 0, 1) := by decide +kernel
theorem dX5_add_17 : decode cX5_add 17 = .ok (.getfield 18, 3) := by decide +kernel
theorem dX5_add_20 : decode cX5_add 20 = .ok (.iload_n 1, 1) := by decide +kernel
theorem dX5_add_21 : decode cX5_add 21 = .ok (.iastore, 1) := by decide +kernel
theorem dX5_add_22 : decode cX5_add 22 = .ok (.aload_n 0, 1) := by decide +kernel
theorem dX5_add_23 : decode cX5_add 23 = .ok (.dup, 1) := by decide +kernel
theorem dX5_add_24 : decode cX5_add 24 = .ok (.getfield 18, 3) := by decide +kernel
theorem dX5_add_27 : decode cX5_add 27 = .ok (.iconst 1, 1) := by decide +kernel
theorem dX5_add_28 : decode cX5_add 28 = .ok (.iadd, 1) := by decide +kernel
theorem dX5_add_29 : decode cX5_add 29 = .ok (.putfield 18, 3) := by decide +kernel
theorem dX5_add_32 : decode cX5_add 32 = .ok (.aload_n 0, 1) := by decide +kernel
theorem dX5_add_33 : decode cX5_add 33 = .ok (.getfield 18, 3) := by decide +kernel
theorem dX5_add_36 : decode cX5_add 36 = .ok (.iconst 1, 1) := by decide +kernel
theorem dX5_add_37 : decode cX5_add 37 = .ok (.isub, 1) := by decide +kernel
theorem dX5_add_38 : decode cX5_add 38 = .ok (.ireturn, 1) := by decide +kernel
theorem dX5_clashesOf_0 : decode cX5_clashesOf 0 = .ok (.aload_n 0, 1) := by decide +kernel
theorem dX5_clashesOf_1 : decode cX5_clashesOf 1 = .ok (.iload_n 1, 1) := by decide +kernel
theorem dX5_clashesOf_2 : decode cX5_clashesOf 2 = .ok (.invokevirtual 24, 3) := by decide +kernel
theorem dX5_clashesOf_5 : decode cX5_clashesOf 5 = .ok (.ifCond .eq 12, 3) := by decide +kernel
theorem dX5_clashesOf_8 : decode cX5_clashesOf 8 = .ok (.aload_n 0, 1) := by decide +kernel
theorem dX5_clashesOf_9 : decode cX5_clashesOf 9 = .ok (.getfield 15, 3) := by decide +kernel
theorem dX5_clashesOf_12 : decode cX5_clashesOf 12 = .ok (.iload_n 1, 1) := by decide +kernel
theorem dX5_clashesOf_13 : decode cX5_clashesOf 13 = .ok (.iaload, 1) := by decide +kernel
theorem dX5_clashesOf_14 : decode cX5_clashesOf 14 = .ok (.goto 4, 3) := by decide +kernel
theorem dX5_clashesOf_17 : decode cX5_clashesOf 17 = .ok (.iconst 0, 1) := by decide +kernel
theorem dX5_clashesOf_18 : decode cX5_clashesOf 18 = .ok (.ireturn, 1) := by decide +kernel
theorem dX5_putClash_0 : decode cX5_putClash 0 = .ok (.aload_n 0, 1) := by decide +kernel
theorem dX5_putClash_1 : decode cX5_putClash 1 = .ok (.iload_n 1, 1) := by decide +kernel
theorem dX5_putClash_2 : decode cX5_putClash 2 = .ok (.invokevirtual 24, 3) := by decide +kernel
theorem dX5_putClash_5 : decode cX5_putClash 5 = .ok (.ifCond .eq 28, 3) := by decide +kernel
theorem dX5_putClash_8 : decode cX5_putClash 8 = .ok (.aload_n 0, 1) := by decide +kernel
theorem dX5_putClash_9 : decode cX5_putClash 9 = .ok (.iload_n 2, 1) := by decide +kernel
theorem dX5_putClash_10 : decode cX5_putClash 10 = .ok (.invokevirtual 24, 3) := by decide +kernel
theorem dX5_putClash_13 : decode cX5_putClash 13 = .ok (.ifCond .eq 20, 3) := by decide +kernel
theorem dX5_putClash_16 : decode cX5_putClash 16 = .ok (.aload_n 0, 1) := by decide +kernel
theorem dX5_putClash_17 : decode cX5_putClash 17 = .ok (.getfield 15, 3) := by decide +kernel
theorem dX5_putClash_20 : decode cX5_putClash 20 = .ok (.iload_n 1, 1) := by decide +kernel
theorem dX5_putClash_21 : decode cX5_putClash 21 = .ok (.aload_n 0, 1) := by decide +kernel
theorem dX5_putClash_22 : decode cX5_putClash 22 = .ok (.getfield 15, 3) := by decide +kernel
theorem dX5_putClash_25 : decode cX5_putClash 25 = .ok (.iload_n 1, 1) := by decide +kernel
theorem dX5_putClash_26 : decode cX5_putClash 26 = .ok (.iaload, 1) := by decide +kernel
theorem dX5_putClash_27 : decode cX5_putClash 27 = .ok (.iload_n 2, 1) := by decide +kernel
theorem dX5_putClash_28 : decode cX5_putClash 28 = .ok (.iload_n 3, 1) := by decide +kernel
theorem dX5_putClash_29 : decode cX5_putClash 29 = .ok (.invokestatic 28, 3) := by decide +kernel
theorem dX5_putClash_32 : decode cX5_putClash 32 = .ok (.iastore, 1) := by decide +kernel
theorem dX5_putClash_33 : decode cX5_putClash 33 = .ok (.return_, 1) := by decide +kernel
theorem dX5_fewestFor_0 : decode cX5_fewestFor 0 = .ok (.bipush 9, 2) := by decide +kernel
theorem dX5_fewestFor_2 : decode cX5_fewestFor 2 = .ok (.istore_n 2, 1) := by decide +kernel
theorem dX5_fewestFor_3 : decode cX5_fewestFor 3 = .ok (.iconst (-1), 1) := by decide +kernel
theorem dX5_fewestFor_4 : decode cX5_fewestFor 4 = .ok (.istore_n 3, 1) := by decide +kernel
theorem dX5_fewestFor_5 : decode cX5_fewestFor 5 = .ok (.iconst 0, 1) := by decide +kernel
theorem dX5_fewestFor_6 : decode cX5_fewestFor 6 = .ok (.istore 4, 2) := by decide +kernel
theorem dX5_fewestFor_8 : decode cX5_fewestFor 8 = .ok (.iload 4, 2) := by decide +kernel
theorem dX5_fewestFor_10 : decode cX5_fewestFor 10 = .ok (.iconst 1, 1) := by decide +kernel
theorem dX5_fewestFor_11 : decode cX5_fewestFor 11 = .ok (.aload_n 0, 1) := by decide +kernel
theorem dX5_fewestFor_12 : decode cX5_fewestFor 12 = .ok (.getfield 18, 3) := by decide +kernel
theorem dX5_fewestFor_15 : decode cX5_fewestFor 15 = .ok (.ishl, 1) := by decide +kernel
theorem dX5_fewestFor_16 : decode cX5_fewestFor 16 = .ok (.if_icmp .ge 38, 3) := by decide +kernel
theorem dX5_fewestFor_19 : decode cX5_fewestFor 19 = .ok (.iload 4, 2) := by decide +kernel
theorem dX5_fewestFor_21 : decode cX5_fewestFor 21 = .ok (.invokestatic 32, 3) := by decide +kernel
theorem dX5_fewestFor_24 : decode cX5_fewestFor 24 = .ok (.istore 5, 2) := by decide +kernel
theorem dX5_fewestFor_26 : decode cX5_fewestFor 26 = .ok (.iload 5, 2) := by decide +kernel
theorem dX5_fewestFor_28 : decode cX5_fewestFor 28 = .ok (.iload_n 2, 1) := by decide +kernel
theorem dX5_fewestFor_29 : decode cX5_fewestFor 29 = .ok (.if_icmp .ge 19, 3) := by decide +kernel
theorem dX5_fewestFor_32 : decode cX5_fewestFor 32 = .ok (.aload_n 0, 1) := by decide +kernel
theorem dX5_fewestFor_33 : decode cX5_fewestFor 33 = .ok (.iload 4, 2) := by decide +kernel
theorem dX5_fewestFor_35 : decode cX5_fewestFor 35 = .ok (.iload_n 1, 1) := by decide +kernel
theorem dX5_fewestFor_36 : decode cX5_fewestFor 36 = .ok (.invokevirtual 38, 3) := by decide +kernel
theorem dX5_fewestFor_39 : decode cX5_fewestFor 39 = .ok (.ifCond .eq 9, 3) := by decide +kernel
theorem dX5_fewestFor_42 : decode cX5_fewestFor 42 = .ok (.iload 5, 2) := by decide +kernel
theorem dX5_fewestFor_44 : decode cX5_fewestFor 44 = .ok (.istore_n 2, 1) := by decide +kernel
theorem dX5_fewestFor_45 : decode cX5_fewestFor 45 = .ok (.iload 4, 2) := by decide +kernel
theorem dX5_fewestFor_47 : decode cX5_fewestFor 47 = .ok (.istore_n 3, 1) := by decide +kernel
theorem dX5_fewestFor_48 : decode cX5_fewestFor 48 = .ok (.iinc 4 1, 3) := by decide +kernel
theorem dX5_fewestFor_51 : decode cX5_fewestFor 51 = .ok (.goto (-43), 3) := by decide +kernel
theorem dX5_fewestFor_54 : decode cX5_fewestFor 54 = .ok (.iload_n 3, 1) := by decide +kernel
theorem dX5_fewestFor_55 : decode cX5_fewestFor 55 = .ok (.ireturn, 1) := by decide +kernel
theorem dX5_canBeToldBy_0 : decode cX5_canBeToldBy 0 = .ok (.iconst 0, 1) := by decide +kernel
theorem dX5_canBeToldBy_1 : decode cX5_canBeToldBy 1 = .ok (.istore_n 3, 1) := by decide +kernel
theorem dX5_canBeToldBy_2 : decode cX5_canBeToldBy 2 = .ok (.iconst 0, 1) := by decide +kernel
theorem dX5_canBeToldBy_3 : decode cX5_canBeToldBy 3 = .ok (.istore 4, 2) := by decide +kernel
theorem dX5_canBeToldBy_5 : decode cX5_canBeToldBy 5 = .ok (.iload 4, 2) := by decide +kernel
theorem dX5_canBeToldBy_7 : decode cX5_canBeToldBy 7 = .ok (.aload_n 0, 1) := by decide +kernel
theorem dX5_canBeToldBy_8 : decode cX5_canBeToldBy 8 = .ok (.getfield 18, 3) := by decide +kernel
theorem dX5_canBeToldBy_11 : decode cX5_canBeToldBy 11 = .ok (.if_icmp .ge 43, 3) := by decide +kernel
theorem dX5_canBeToldBy_14 : decode cX5_canBeToldBy 14 = .ok (.iload_n 1, 1) := by decide +kernel
theorem dX5_canBeToldBy_15 : decode cX5_canBeToldBy 15 = .ok (.iload 4, 2) := by decide +kernel
theorem dX5_canBeToldBy_17 : decode cX5_canBeToldBy 17 = .ok (.invokestatic 42, 3) := by decide +kernel
theorem dX5_canBeToldBy_20 : decode cX5_canBeToldBy 20 = .ok (.iconst 1, 1) := by decide +kernel
theorem dX5_canBeToldBy_21 : decode cX5_canBeToldBy 21 = .ok (.if_icmp .ne 27, 3) := by decide +kernel
theorem dX5_canBeToldBy_24 : decode cX5_canBeToldBy 24 = .ok (.aload_n 0, 1) := by decide +kernel
theorem dX5_canBeToldBy_25 : decode cX5_canBeToldBy 25 = .ok (.getfield 15, 3) := by decide +kernel
theorem dX5_canBeToldBy_28 : decode cX5_canBeToldBy 28 = .ok (.iload 4, 2) := by decide +kernel
theorem dX5_canBeToldBy_30 : decode cX5_canBeToldBy 30 = .ok (.iaload, 1) := by decide +kernel
theorem dX5_canBeToldBy_31 : decode cX5_canBeToldBy 31 = .ok (.iload_n 1, 1) := by decide +kernel
theorem dX5_canBeToldBy_32 : decode cX5_canBeToldBy 32 = .ok (.iand, 1) := by decide +kernel
theorem dX5_canBeToldBy_33 : decode cX5_canBeToldBy 33 = .ok (.ifCond .eq 5, 3) := by decide +kernel
theorem dX5_canBeToldBy_36 : decode cX5_canBeToldBy 36 = .ok (.iconst 0, 1) := by decide +kernel
theorem dX5_canBeToldBy_37 : decode cX5_canBeToldBy 37 = .ok (.ireturn, 1) := by decide +kernel
theorem dX5_canBeToldBy_38 : decode cX5_canBeToldBy 38 = .ok (.iload_n 3, 1) := by decide +kernel
theorem dX5_canBeToldBy_39 : decode cX5_canBeToldBy 39 = .ok (.aload_n 0, 1) := by decide +kernel
theorem dX5_canBeToldBy_40 : decode cX5_canBeToldBy 40 = .ok (.getfield 11, 3) := by decide +kernel
theorem dX5_canBeToldBy_43 : decode cX5_canBeToldBy 43 = .ok (.iload 4, 2) := by decide +kernel
theorem dX5_canBeToldBy_45 : decode cX5_canBeToldBy 45 = .ok (.iaload, 1) := by decide +kernel
theorem dX5_canBeToldBy_46 : decode cX5_canBeToldBy 46 = .ok (.ior, 1) := by decide +kernel
theorem dX5_canBeToldBy_47 : decode cX5_canBeToldBy 47 = .ok (.istore_n 3, 1) := by decide +kernel
theorem dX5_canBeToldBy_48 : decode cX5_canBeToldBy 48 = .ok (.iinc 4 1, 3) := by decide +kernel
theorem dX5_canBeToldBy_51 : decode cX5_canBeToldBy 51 = .ok (.goto (-46), 3) := by decide +kernel
theorem dX5_canBeToldBy_54 : decode cX5_canBeToldBy 54 = .ok (.iload_n 3, 1) := by decide +kernel
theorem dX5_canBeToldBy_55 : decode cX5_canBeToldBy 55 = .ok (.iload_n 2, 1) := by decide +kernel
theorem dX5_canBeToldBy_56 : decode cX5_canBeToldBy 56 = .ok (.iand, 1) := by decide +kernel
theorem dX5_canBeToldBy_57 : decode cX5_canBeToldBy 57 = .ok (.iload_n 2, 1) := by decide +kernel
theorem dX5_canBeToldBy_58 : decode cX5_canBeToldBy 58 = .ok (.if_icmp .ne 7, 3) := by decide +kernel
theorem dX5_canBeToldBy_61 : decode cX5_canBeToldBy 61 = .ok (.iconst 1, 1) := by decide +kernel
theorem dX5_canBeToldBy_62 : decode cX5_canBeToldBy 62 = .ok (.goto 4, 3) := by decide +kernel
theorem dX5_canBeToldBy_65 : decode cX5_canBeToldBy 65 = .ok (.iconst 0, 1) := by decide +kernel
theorem dX5_canBeToldBy_66 : decode cX5_canBeToldBy 66 = .ok (.ireturn, 1) := by decide +kernel
theorem dX6_init_0 : decode cX6_init 0 = .ok (.aload_n 0, 1) := by decide +kernel
theorem dX6_init_1 : decode cX6_init 1 = .ok (.invokespecial 3, 3) := by decide +kernel
theorem dX6_init_4 : decode cX6_init 4 = .ok (.aload_n 0, 1) := by decide +kernel
theorem dX6_init_5 : decode cX6_init 5 = .ok (.bipush 10, 2) := by decide +kernel
theorem dX6_init_7 : decode cX6_init 7 = .ok (.newarray .int, 2) := by decide +kernel
theorem dX6_init_9 : decode cX6_init 9 = .ok (.putfield 9, 3) := by decide +kernel
theorem dX6_init_12 : decode cX6_init 12 = .ok (.return_, 1) := by decide +kernel
theorem dX6_follow_0 : decode cX6_follow 0 = .ok (.iconst 0, 1) := by decide +kernel
theorem dX6_follow_1 : decode cX6_follow 1 = .ok (.istore_n 3, 1) := by decide +kernel
theorem dX6_follow_2 : decode cX6_follow 2 = .ok (.iconst 1, 1) := by decide +kernel
theorem dX6_follow_3 : decode cX6_follow 3 = .ok (.istore 4, 2) := by decide +kernel
theorem dX6_follow_5 : decode cX6_follow 5 = .ok (.iload 4, 2) := by decide +kernel
theorem dX6_follow_7 : decode cX6_follow 7 = .ok (.bipush 8, 2) := by decide +kernel
theorem dX6_follow_9 : decode cX6_follow 9 = .ok (.if_icmp .gt 74, 3) := by decide +kernel
theorem dX6_follow_12 : decode cX6_follow 12 = .ok (.iconst 0, 1) := by decide +kernel
theorem dX6_follow_13 : decode cX6_follow 13 = .ok (.istore 5, 2) := by decide +kernel
theorem dX6_follow_15 : decode cX6_follow 15 = .ok (.iload 5, 2) := by decide +kernel
theorem dX6_follow_17 : decode cX6_follow 17 = .ok (.aload_n 1, 1) := by decide +kernel
theorem dX6_follow_18 : decode cX6_follow 18 = .ok (.invokevirtual 15, 3) := by decide +kernel
theorem dX6_follow_21 : decode cX6_follow 21 = .ok (.if_icmp .ge 33, 3) := by decide +kernel
theorem dX6_follow_24 : decode cX6_follow 24 = .ok (.iload 5, 2) := by decide +kernel
theorem dX6_follow_26 : decode cX6_follow 26 = .ok (.aload_n 2, 1) := by decide +kernel
theorem dX6_follow_27 : decode cX6_follow 27 = .ok (.arraylength, 1) := by decide +kernel
theorem dX6_follow_28 : decode cX6_follow 28 = .ok (.if_icmp .ge 26, 3) := by decide +kernel
theorem dX6_follow_31 : decode cX6_follow 31 = .ok (.aload_n 2, 1) := by decide +kernel
theorem dX6_follow_32 : decode cX6_follow 32 = .ok (.iload 5, 2) := by decide +kernel
theorem dX6_follow_34 : decode cX6_follow 34 = .ok (.iaload, 1) := by decide +kernel
theorem dX6_follow_35 : decode cX6_follow 35 = .ok (.iload 4, 2) := by decide +kernel
theorem dX6_follow_37 : decode cX6_follow 37 = .ok (.if_icmp .ne 11, 3) := by decide +kernel
theorem dX6_follow_40 : decode cX6_follow 40 = .ok (.iload_n 3, 1) := by decide +kernel
theorem dX6_follow_41 : decode cX6_follow 41 = .ok (.iload 5, 2) := by decide +kernel
theorem dX6_follow_43 : decode cX6_follow 43 = .ok (.iconst 1, 1) := by decide +kernel
theorem dX6_follow_44 : decode cX6_follow 44 = .ok (.invokestatic 21, 3) := by decide +kernel
theorem dX6_follow_47 : decode cX6_follow 47 = .ok (.istore_n 3, 1) := by decide +kernel
theorem dX6_follow_48 : decode cX6_follow 48 = .ok (.iinc 5 1, 3) := by decide +kernel
theorem dX6_follow_51 : decode cX6_follow 51 = .ok (.goto (-36), 3) := by decide +kernel
theorem dX6_follow_54 : decode cX6_follow 54 = .ok (.aload_n 0, 1) := by decide +kernel
theorem dX6_follow_55 : decode cX6_follow 55 = .ok (.getfield 9, 3) := by decide +kernel
theorem dX6_follow_58 : decode cX6_follow 58 = .ok (.iload 4, 2) := by decide +kernel
theorem dX6_follow_60 : decode cX6_follow 60 = .ok (.iload_n 3, 1) := by decide +kernel
theorem dX6_follow_61 : decode cX6_follow 61 = .ok (.iastore, 1) := by decide +kernel
theorem dX6_follow_62 : decode cX6_follow 62 = .ok (.iload_n 3, 1) := by decide +kernel
theorem dX6_follow_63 : decode cX6_follow 63 = .ok (.aload_n 1, 1) := by decide +kernel
theorem dX6_follow_64 : decode cX6_follow 64 = .ok (.iload_n 3, 1) := by decide +kernel
theorem dX6_follow_65 : decode cX6_follow 65 = .ok (.aload_n 1, 1) := by decide +kernel
theorem dX6_follow_66 : decode cX6_follow 66 = .ok (.invokevirtual 25, 3) := by decide +kernel
theorem dX6_follow_69 : decode cX6_follow 69 = .ok (.iand, 1) := by decide +kernel
theorem dX6_follow_70 : decode cX6_follow 70 = .ok (.iload 4, 2) := by decide +kernel
theorem dX6_follow_72 : decode cX6_follow 72 = .ok (.invokevirtual 28, 3) := by decide +kernel
theorem dX6_follow_75 : decode cX6_follow 75 = .ok (.ior, 1) := by decide +kernel
theorem dX6_follow_76 : decode cX6_follow 76 = .ok (.istore_n 3, 1) := by decide +kernel
theorem dX6_follow_77 : decode cX6_follow 77 = .ok (.iinc 4 1, 3) := by decide +kernel
theorem dX6_follow_80 : decode cX6_follow 80 = .ok (.goto (-75), 3) := by decide +kernel
theorem dX6_follow_83 : decode cX6_follow 83 = .ok (.aload_n 0, 1) := by decide +kernel
theorem dX6_follow_84 : decode cX6_follow 84 = .ok (.getfield 9, 3) := by decide +kernel
theorem dX6_follow_87 : decode cX6_follow 87 = .ok (.bipush 9, 2) := by decide +kernel
theorem dX6_follow_89 : decode cX6_follow 89 = .ok (.iload_n 3, 1) := by decide +kernel
theorem dX6_follow_90 : decode cX6_follow 90 = .ok (.iastore, 1) := by decide +kernel
theorem dX6_follow_91 : decode cX6_follow 91 = .ok (.return_, 1) := by decide +kernel
theorem dX6_on_0 : decode cX6_on 0 = .ok (.iload_n 1, 1) := by decide +kernel
theorem dX6_on_1 : decode cX6_on 1 = .ok (.iconst 1, 1) := by decide +kernel
theorem dX6_on_2 : decode cX6_on 2 = .ok (.if_icmp .lt 18, 3) := by decide +kernel
theorem dX6_on_5 : decode cX6_on 5 = .ok (.iload_n 1, 1) := by decide +kernel
theorem dX6_on_6 : decode cX6_on 6 = .ok (.bipush 9, 2) := by decide +kernel
theorem dX6_on_8 : decode cX6_on 8 = .ok (.if_icmp .gt 12, 3) := by decide +kernel
theorem dX6_on_11 : decode cX6_on 11 = .ok (.aload_n 0, 1) := by decide +kernel
theorem dX6_on_12 : decode cX6_on 12 = .ok (.getfield 9, 3) := by decide +kernel
theorem dX6_on_15 : decode cX6_on 15 = .ok (.iload_n 1, 1) := by decide +kernel
theorem dX6_on_16 : decode cX6_on 16 = .ok (.iaload, 1) := by decide +kernel
theorem dX6_on_17 : decode cX6_on 17 = .ok (.goto 4, 3) := by decide +kernel
theorem dX6_on_20 : decode cX6_on 20 = .ok (.iconst 0, 1) := by decide +kernel
theorem dX6_on_21 : decode cX6_on 21 = .ok (.ireturn, 1) := by decide +kernel
theorem dX6_knows_0 : decode cX6_knows 0 = .ok (.iload_n 2, 1) := by decide +kernel
theorem dX6_knows_1 : decode cX6_knows 1 = .ok (.iconst 1, 1) := by decide +kernel
theorem dX6_knows_2 : decode cX6_knows 2 = .ok (.if_icmp .lt 27, 3) := by decide +kernel
theorem dX6_knows_5 : decode cX6_knows 5 = .ok (.iload_n 2, 1) := by decide +kernel
theorem dX6_knows_6 : decode cX6_knows 6 = .ok (.bipush 9, 2) := by decide +kernel
theorem dX6_knows_8 : decode cX6_knows 8 = .ok (.if_icmp .gt 21, 3) := by decide +kernel
theorem dX6_knows_11 : decode cX6_knows 11 = .ok (.aload_n 0, 1) := by decide +kernel
theorem dX6_knows_12 : decode cX6_knows 12 = .ok (.getfield 9, 3) := by decide +kernel
theorem dX6_knows_15 : decode cX6_knows 15 = .ok (.iload_n 2, 1) := by decide +kernel
theorem dX6_knows_16 : decode cX6_knows 16 = .ok (.iaload, 1) := by decide +kernel
theorem dX6_knows_17 : decode cX6_knows 17 = .ok (.iload_n 1, 1) := by decide +kernel
theorem dX6_knows_18 : decode cX6_knows 18 = .ok (.ishr, 1) := by decide +kernel
theorem dX6_knows_19 : decode cX6_knows 19 = .ok (.iconst 1, 1) := by decide +kernel
theorem dX6_knows_20 : decode cX6_knows 20 = .ok (.iand, 1) := by decide +kernel
theorem dX6_knows_21 : decode cX6_knows 21 = .ok (.iconst 1, 1) := by decide +kernel
theorem dX6_knows_22 : decode cX6_knows 22 = .ok (.if_icmp .ne 7, 3) := by decide +kernel
theorem dX6_knows_25 : decode cX6_knows 25 = .ok (.iconst 1, 1) := by decide +kernel
theorem dX6_knows_26 : decode cX6_knows 26 = .ok (.goto 4, 3) := by decide +kernel
theorem dX6_knows_29 : decode cX6_knows 29 = .ok (.iconst 0, 1) := by decide +kernel
theorem dX6_knows_30 : decode cX6_knows 30 = .ok (.ireturn, 1) := by decide +kernel
theorem dX6_since_0 : decode cX6_since 0 = .ok (.iconst 1, 1) := by decide +kernel
theorem dX6_since_1 : decode cX6_since 1 = .ok (.istore_n 2, 1) := by decide +kernel
theorem dX6_since_2 : decode cX6_since 2 = .ok (.iload_n 2, 1) := by decide +kernel
theorem dX6_since_3 : decode cX6_since 3 = .ok (.bipush 9, 2) := by decide +kernel
theorem dX6_since_5 : decode cX6_since 5 = .ok (.if_icmp .gt 20, 3) := by decide +kernel
theorem dX6_since_8 : decode cX6_since 8 = .ok (.aload_n 0, 1) := by decide +kernel
theorem dX6_since_9 : decode cX6_since 9 = .ok (.iload_n 1, 1) := by decide +kernel
theorem dX6_since_10 : decode cX6_since 10 = .ok (.iload_n 2, 1) := by decide +kernel
theorem dX6_since_11 : decode cX6_since 11 = .ok (.invokevirtual 32, 3) := by decide +kernel
theorem dX6_since_14 : decode cX6_since 14 = .ok (.ifCond .eq 5, 3) := by decide +kernel
theorem dX6_since_17 : decode cX6_since 17 = .ok (.iload_n 2, 1) := by decide +kernel
theorem dX6_since_18 : decode cX6_since 18 = .ok (.ireturn, 1) := by decide +kernel
theorem dX6_since_19 : decode cX6_since 19 = .ok (.iinc 2 1, 3) := by decide +kernel
theorem dX6_since_22 : decode cX6_since 22 = .ok (.goto (-20), 3) := by decide +kernel
theorem dX6_since_25 : decode cX6_since 25 = .ok (.iconst (-1), 1) := by decide +kernel
theorem dX6_since_26 : decode cX6_since 26 = .ok (.ireturn, 1) := by decide +kernel
theorem dX6_howManyOn_0 : decode cX6_howManyOn 0 = .ok (.aload_n 0, 1) := by decide +kernel
theorem dX6_howManyOn_1 : decode cX6_howManyOn 1 = .ok (.iload_n 1, 1) := by decide +kernel
theorem dX6_howManyOn_2 : decode cX6_howManyOn 2 = .ok (.invokevirtual 36, 3) := by decide +kernel
theorem dX6_howManyOn_5 : decode cX6_howManyOn 5 = .ok (.invokestatic 40, 3) := by decide +kernel
theorem dX6_howManyOn_8 : decode cX6_howManyOn 8 = .ok (.ireturn, 1) := by decide +kernel
theorem dX7_init_0 : decode cX7_init 0 = .ok (.aload_n 0, 1) := by decide +kernel
theorem dX7_init_1 : decode cX7_init 1 = .ok (.invokespecial 1, 3) := by decide +kernel
theorem dX7_init_4 : decode cX7_init 4 = .ok (.aload_n 0, 1) := by decide +kernel
theorem dX7_init_5 : decode cX7_init 5 = .ok (.new 7, 3) := by decide +kernel
theorem dX7_init_8 : decode cX7_init 8 = .ok (.dup, 1) := by decide +kernel
theorem dX7_init_9 : decode cX7_init 9 = .ok (.invokespecial 9, 3) := by decide +kernel
theorem dX7_init_12 : decode cX7_init 12 = .ok (.putfield 10, 3) := by decide +kernel
theorem dX7_init_15 : decode cX7_init 15 = .ok (.aload_n 0, 1) := by decide +kernel
theorem dX7_init_16 : decode cX7_init 16 = .ok (.new 16, 3) := by decide +kernel
theorem dX7_init_19 : decode cX7_init 19 = .ok (.dup, 1) := by decide +kernel
theorem dX7_init_20 : decode cX7_init 20 = .ok (.invokespecial 18, 3) := by decide +kernel
theorem dX7_init_23 : decode cX7_init 23 = .ok (.putfield 19, 3) := by decide +kernel
theorem dX7_init_26 : decode cX7_init 26 = .ok (.aload_n 0, 1) := by decide +kernel
theorem dX7_init_27 : decode cX7_init 27 = .ok (.new 23, 3) := by decide +kernel
theorem dX7_init_30 : decode cX7_init 30 = .ok (.dup, 1) := by decide +kernel
theorem dX7_init_31 : decode cX7_init 31 = .ok (.invokespecial 25, 3) := by decide +kernel
theorem dX7_init_34 : decode cX7_init 34 = .ok (.putfield 26, 3) := by decide +kernel
theorem dX7_init_37 : decode cX7_init 37 = .ok (.aload_n 0, 1) := by decide +kernel
theorem dX7_init_38 : decode cX7_init 38 = .ok (.new 30, 3) := by decide +kernel
theorem dX7_init_41 : decode cX7_init 41 = .ok (.dup, 1) := by decide +kernel
theorem dX7_init_42 : decode cX7_init 42 = .ok (.invokespecial 32, 3) := by decide +kernel
theorem dX7_init_45 : decode cX7_init 45 = .ok (.putfield 33, 3) := by decide +kernel
theorem dX7_init_48 : decode cX7_init 48 = .ok (.aload_n 0, 1) := by decide +kernel
theorem dX7_init_49 : decode cX7_init 49 = .ok (.new 37, 3) := by decide +kernel
theorem dX7_init_52 : decode cX7_init 52 = .ok (.dup, 1) := by decide +kernel
theorem dX7_init_53 : decode cX7_init 53 = .ok (.invokespecial 39, 3) := by decide +kernel
theorem dX7_init_56 : decode cX7_init 56 = .ok (.putfield 40, 3) := by decide +kernel
theorem dX7_init_59 : decode cX7_init 59 = .ok (.aload_n 0, 1) := by decide +kernel
theorem dX7_init_60 : decode cX7_init 60 = .ok (.new 44, 3) := by decide +kernel
theorem dX7_init_63 : decode cX7_init 63 = .ok (.dup, 1) := by decide +kernel
theorem dX7_init_64 : decode cX7_init 64 = .ok (.invokespecial 46, 3) := by decide +kernel
theorem dX7_init_67 : decode cX7_init 67 = .ok (.putfield 47, 3) := by decide +kernel
theorem dX7_init_70 : decode cX7_init 70 = .ok (.aload_n 0, 1) := by decide +kernel
theorem dX7_init_71 : decode cX7_init 71 = .ok (.new 51, 3) := by decide +kernel
theorem dX7_init_74 : decode cX7_init 74 = .ok (.dup, 1) := by decide +kernel
theorem dX7_init_75 : decode cX7_init 75 = .ok (.invokespecial 53, 3) := by decide +kernel
theorem dX7_init_78 : decode cX7_init 78 = .ok (.putfield 54, 3) := by decide +kernel
theorem dX7_init_81 : decode cX7_init 81 = .ok (.aload_n 0, 1) := by decide +kernel
theorem dX7_init_82 : decode cX7_init 82 = .ok (.bipush 9, 2) := by decide +kernel
theorem dX7_init_84 : decode cX7_init 84 = .ok (.newarray .int, 2) := by decide +kernel
theorem dX7_init_86 : decode cX7_init 86 = .ok (.putfield 58, 3) := by decide +kernel
theorem dX7_init_89 : decode cX7_init 89 = .ok (.aload_n 0, 1) := by decide +kernel
theorem dX7_init_90 : decode cX7_init 90 = .ok (.new 16, 3) := by decide +kernel
theorem dX7_init_93 : decode cX7_init 93 = .ok (.dup, 1) := by decide +kernel
theorem dX7_init_94 : decode cX7_init 94 = .ok (.invokespecial 18, 3) := by decide +kernel
theorem dX7_init_97 : decode cX7_init 97 = .ok (.putfield 62, 3) := by decide +kernel
theorem dX7_init_100 : decode cX7_init 100 = .ok (.aload_n 0, 1) := by decide +kernel
theorem dX7_init_101 : decode cX7_init 101 = .ok (.iconst 0, 1) := by decide +kernel
theorem dX7_init_102 : decode cX7_init 102 = .ok (.putfield 65, 3) := by decide +kernel
theorem dX7_init_105 : decode cX7_init 105 = .ok (.aload_n 0, 1) := by decide +kernel
theorem dX7_init_106 : decode cX7_init 106 = .ok (.iconst 0, 1) := by decide +kernel
theorem dX7_init_107 : decode cX7_init 107 = .ok (.putfield 69, 3) := by decide +kernel
theorem dX7_init_110 : decode cX7_init 110 = .ok (.return_, 1) := by decide +kernel
theorem dX7_guest_0 : decode cX7_guest 0 = .ok (.iload_n 1, 1) := by decide +kernel
theorem dX7_guest_1 : decode cX7_guest 1 = .ok (.invokestatic 72, 3) := by decide +kernel
theorem dX7_guest_4 : decode cX7_guest 4 = .ok (.ifCond .eq 11, 3) := by decide +kernel
theorem dX7_guest_7 : decode cX7_guest 7 = .ok (.iload_n 1, 1) := by decide +kernel
theorem dX7_guest_8 : decode cX7_guest 8 = .ok (.iload_n 2, 1) := by decide +kernel
theorem dX7_guest_9 : decode cX7_guest 9 = .ok (.invokestatic 76, 3) := by decide +kernel
theorem dX7_guest_12 : decode cX7_guest 12 = .ok (.ifCond .ne 6, 3) := by decide +kernel
theorem dX7_guest_15 : decode cX7_guest 15 = .ok (.bipush (-102), 2) := by decide +kernel
theorem dX7_guest_17 : decode cX7_guest 17 = .ok (.ireturn, 1) := by decide +kernel
theorem dX7_guest_18 : decode cX7_guest 18 = .ok (.aload_n 0, 1) := by decide +kernel
theorem dX7_guest_19 : decode cX7_guest 19 = .ok (.getfield 10, 3) := by decide +kernel
theorem dX7_guest_22 : decode cX7_guest 22 = .ok (.iload_n 1, 1) := by decide +kernel
theorem dX7_guest_23 : decode cX7_guest 23 = .ok (.iload_n 2, 1) := by decide +kernel
theorem dX7_guest_24 : decode cX7_guest 24 = .ok (.invokevirtual 80, 3) := by decide +kernel
theorem dX7_guest_27 : decode cX7_guest 27 = .ok (.ireturn, 1) := by decide +kernel
theorem dX7_about_0 : decode cX7_about 0 = .ok (.aload_n 0, 1) := by decide +kernel
theorem dX7_about_1 : decode cX7_about 1 = .ok (.getfield 10, 3) := by decide +kernel
theorem dX7_about_4 : decode cX7_about 4 = .ok (.iload_n 1, 1) := by decide +kernel
theorem dX7_about_5 : decode cX7_about 5 = .ok (.invokevirtual 84, 3) := by decide +kernel
theorem dX7_about_8 : decode cX7_about 8 = .ok (.ifCond .ne 6, 3) := by decide +kernel
theorem dX7_about_11 : decode cX7_about 11 = .ok (.bipush (-101), 2) := by decide +kernel
theorem dX7_about_13 : decode cX7_about 13 = .ok (.ireturn, 1) := by decide +kernel
theorem dX7_about_14 : decode cX7_about 14 = .ok (.iload_n 2, 1) := by decide +kernel
theorem dX7_about_15 : decode cX7_about 15 = .ok (.tableswitch 65 0 3 #[29, 38, 47, 56], 29) := by decide +kernel
theorem dX7_about_44 : decode cX7_about 44 = .ok (.aload_n 0, 1) := by decide +kernel
theorem dX7_about_45 : decode cX7_about 45 = .ok (.getfield 10, 3) := by decide +kernel
theorem dX7_about_48 : decode cX7_about 48 = .ok (.iload_n 1, 1) := by decide +kernel
theorem dX7_about_49 : decode cX7_about 49 = .ok (.invokevirtual 87, 3) := by decide +kernel
theorem dX7_about_52 : decode cX7_about 52 = .ok (.ireturn, 1) := by decide +kernel
theorem dX7_about_53 : decode cX7_about 53 = .ok (.aload_n 0, 1) := by decide +kernel
theorem dX7_about_54 : decode cX7_about 54 = .ok (.getfield 10, 3) := by decide +kernel
theorem dX7_about_57 : decode cX7_about 57 = .ok (.iload_n 1, 1) := by decide +kernel
theorem dX7_about_58 : decode cX7_about 58 = .ok (.invokevirtual 91, 3) := by decide +kernel
theorem dX7_about_61 : decode cX7_about 61 = .ok (.ireturn, 1) := by decide +kernel
theorem dX7_about_62 : decode cX7_about 62 = .ok (.aload_n 0, 1) := by decide +kernel
theorem dX7_about_63 : decode cX7_about 63 = .ok (.getfield 10, 3) := by decide +kernel
theorem dX7_about_66 : decode cX7_about 66 = .ok (.iload_n 1, 1) := by decide +kernel
theorem dX7_about_67 : decode cX7_about 67 = .ok (.invokevirtual 94, 3) := by decide +kernel
theorem dX7_about_70 : decode cX7_about 70 = .ok (.ireturn, 1) := by decide +kernel
theorem dX7_about_71 : decode cX7_about 71 = .ok (.aload_n 0, 1) := by decide +kernel
theorem dX7_about_72 : decode cX7_about 72 = .ok (.getfield 19, 3) := by decide +kernel
theorem dX7_about_75 : decode cX7_about 75 = .ok (.iload_n 1, 1) := by decide +kernel
theorem dX7_about_76 : decode cX7_about 76 = .ok (.invokevirtual 97, 3) := by decide +kernel
theorem dX7_about_79 : decode cX7_about 79 = .ok (.ireturn, 1) := by decide +kernel
theorem dX7_about_80 : decode cX7_about 80 = .ok (.bipush (-102), 2) := by decide +kernel
theorem dX7_about_82 : decode cX7_about 82 = .ok (.ireturn, 1) := by decide +kernel
theorem dX7_as_0 : decode cX7_as 0 = .ok (.aload_n 0, 1) := by decide +kernel
theorem dX7_as_1 : decode cX7_as 1 = .ok (.getfield 10, 3) := by decide +kernel
theorem dX7_as_4 : decode cX7_as 4 = .ok (.iload_n 1, 1) := by decide +kernel
theorem dX7_as_5 : decode cX7_as 5 = .ok (.invokevirtual 84, 3) := by decide +kernel
theorem dX7_as_8 : decode cX7_as 8 = .ok (.ifCond .ne 6, 3) := by decide +kernel
theorem dX7_as_11 : decode cX7_as 11 = .ok (.bipush (-101), 2) := by decide +kernel
theorem dX7_as_13 : decode cX7_as 13 = .ok (.ireturn, 1) := by decide +kernel
theorem dX7_as_14 : decode cX7_as 14 = .ok (.iload_n 2, 1) := by decide +kernel
theorem dX7_as_15 : decode cX7_as 15 = .ok (.invokestatic 72, 3) := by decide +kernel
theorem dX7_as_18 : decode cX7_as 18 = .ok (.ifCond .ne 6, 3) := by decide +kernel
theorem dX7_as_21 : decode cX7_as 21 = .ok (.bipush (-102), 2) := by decide +kernel
theorem dX7_as_23 : decode cX7_as 23 = .ok (.ireturn, 1) := by decide +kernel
theorem dX7_as_24 : decode cX7_as 24 = .ok (.aload_n 0, 1) := by decide +kernel
theorem dX7_as_25 : decode cX7_as 25 = .ok (.getfield 10, 3) := by decide +kernel
theorem dX7_as_28 : decode cX7_as 28 = .ok (.iload_n 1, 1) := by decide +kernel
theorem dX7_as_29 : decode cX7_as 29 = .ok (.iload_n 2, 1) := by decide +kernel
theorem dX7_as_30 : decode cX7_as 30 = .ok (.invokevirtual 100, 3) := by decide +kernel
theorem dX7_as_33 : decode cX7_as 33 = .ok (.ifCond .eq 7, 3) := by decide +kernel
theorem dX7_as_36 : decode cX7_as 36 = .ok (.iload_n 1, 1) := by decide +kernel
theorem dX7_as_37 : decode cX7_as 37 = .ok (.goto 4, 3) := by decide +kernel
theorem dX7_as_40 : decode cX7_as 40 = .ok (.iconst (-1), 1) := by decide +kernel
theorem dX7_as_41 : decode cX7_as 41 = .ok (.ireturn, 1) := by decide +kernel
theorem dX7_sees_0 : decode cX7_sees 0 = .ok (.aload_n 0, 1) := by decide +kernel
theorem dX7_sees_1 : decode cX7_sees 1 = .ok (.getfield 10, 3) := by decide +kernel
theorem dX7_sees_4 : decode cX7_sees 4 = .ok (.iload_n 1, 1) := by decide +kernel
theorem dX7_sees_5 : decode cX7_sees 5 = .ok (.invokevirtual 84, 3) := by decide +kernel
theorem dX7_sees_8 : decode cX7_sees 8 = .ok (.ifCond .eq 19, 3) := by decide +kernel
theorem dX7_sees_11 : decode cX7_sees 11 = .ok (.aload_n 0, 1) := by decide +kernel
theorem dX7_sees_12 : decode cX7_sees 12 = .ok (.getfield 10, 3) := by decide +kernel
theorem dX7_sees_15 : decode cX7_sees 15 = .ok (.iload_n 2, 1) := by decide +kernel
theorem dX7_sees_16 : decode cX7_sees 16 = .ok (.invokevirtual 84, 3) := by decide +kernel
theorem dX7_sees_19 : decode cX7_sees 19 = .ok (.ifCond .eq 8, 3) := by decide +kernel
theorem dX7_sees_22 : decode cX7_sees 22 = .ok (.iload_n 1, 1) := by decide +kernel
theorem dX7_sees_23 : decode cX7_sees 23 = .ok (.iload_n 2, 1) := by decide +kernel
theorem dX7_sees_24 : decode cX7_sees 24 = .ok (.if_icmp .ne 6, 3) := by decide +kernel
theorem dX7_sees_27 : decode cX7_sees 27 = .ok (.bipush (-101), 2) := by decide +kernel
theorem dX7_sees_29 : decode cX7_sees 29 = .ok (.ireturn, 1) := by decide +kernel
theorem dX7_sees_30 : decode cX7_sees 30 = .ok (.iload_n 3, 1) := by decide +kernel
theorem dX7_sees_31 : decode cX7_sees 31 = .ok (.invokestatic 103, 3) := by decide +kernel
theorem dX7_sees_34 : decode cX7_sees 34 = .ok (.ifCond .ne 6, 3) := by decide +kernel
theorem dX7_sees_37 : decode cX7_sees 37 = .ok (.bipush (-102), 2) := by decide +kernel
theorem dX7_sees_39 : decode cX7_sees 39 = .ok (.ireturn, 1) := by decide +kernel
theorem dX7_sees_40 : decode cX7_sees 40 = .ok (.aload_n 0, 1) := by decide +kernel
theorem dX7_sees_41 : decode cX7_sees 41 = .ok (.getfield 10, 3) := by decide +kernel
theorem dX7_sees_44 : decode cX7_sees 44 = .ok (.iload_n 1, 1) := by decide +kernel
theorem dX7_sees_45 : decode cX7_sees 45 = .ok (.iload_n 3, 1) := by decide +kernel
theorem dX7_sees_46 : decode cX7_sees 46 = .ok (.invokevirtual 106, 3) := by decide +kernel
theorem dX7_sees_49 : decode cX7_sees 49 = .ok (.iload_n 2, 1) := by decide +kernel
theorem dX7_sees_50 : decode cX7_sees 50 = .ok (.invokestatic 109, 3) := by decide +kernel
theorem dX7_sees_53 : decode cX7_sees 53 = .ok (.istore 5, 2) := by decide +kernel
theorem dX7_sees_55 : decode cX7_sees 55 = .ok (.aload_n 0, 1) := by decide +kernel
theorem dX7_sees_56 : decode cX7_sees 56 = .ok (.getfield 10, 3) := by decide +kernel
theorem dX7_sees_59 : decode cX7_sees 59 = .ok (.iload_n 1, 1) := by decide +kernel
theorem dX7_sees_60 : decode cX7_sees 60 = .ok (.iload_n 2, 1) := by decide +kernel
theorem dX7_sees_61 : decode cX7_sees 61 = .ok (.iload_n 3, 1) := by decide +kernel
theorem dX7_sees_62 : decode cX7_sees 62 = .ok (.iload 4, 2) := by decide +kernel
theorem dX7_sees_64 : decode cX7_sees 64 = .ok (.invokevirtual 112, 3) := by decide +kernel
theorem dX7_sees_67 : decode cX7_sees 67 = .ok (.aload_n 0, 1) := by decide +kernel
theorem dX7_sees_68 : decode cX7_sees 68 = .ok (.getfield 10, 3) := by decide +kernel
theorem dX7_sees_71 : decode cX7_sees 71 = .ok (.iload_n 2, 1) := by decide +kernel
theorem dX7_sees_72 : decode cX7_sees 72 = .ok (.iload_n 1, 1) := by decide +kernel
theorem dX7_sees_73 : decode cX7_sees 73 = .ok (.iload_n 3, 1) := by decide +kernel
theorem dX7_sees_74 : decode cX7_sees 74 = .ok (.iload 4, 2) := by decide +kernel
theorem dX7_sees_76 : decode cX7_sees 76 = .ok (.invokevirtual 112, 3) := by decide +kernel
theorem dX7_sees_79 : decode cX7_sees 79 = .ok (.aload_n 0, 1) := by decide +kernel
theorem dX7_sees_80 : decode cX7_sees 80 = .ok (.invokevirtual 116, 3) := by decide +kernel
theorem dX7_sees_83 : decode cX7_sees 83 = .ok (.iload 5, 2) := by decide +kernel
theorem dX7_sees_85 : decode cX7_sees 85 = .ok (.ireturn, 1) := by decide +kernel
theorem dX7_tell_0 : decode cX7_tell 0 = .ok (.aload_n 0, 1) := by decide +kernel
theorem dX7_tell_1 : decode cX7_tell 1 = .ok (.getfield 10, 3) := by decide +kernel
theorem dX7_tell_4 : decode cX7_tell 4 = .ok (.iload_n 1, 1) := by decide +kernel
theorem dX7_tell_5 : decode cX7_tell 5 = .ok (.invokevirtual 84, 3) := by decide +kernel
theorem dX7_tell_8 : decode cX7_tell 8 = .ok (.ifCond .ne 6, 3) := by decide +kernel
theorem dX7_tell_11 : decode cX7_tell 11 = .ok (.bipush (-101), 2) := by decide +kernel
theorem dX7_tell_13 : decode cX7_tell 13 = .ok (.ireturn, 1) := by decide +kernel
theorem dX7_tell_14 : decode cX7_tell 14 = .ok (.iload_n 2, 1) := by decide +kernel
theorem dX7_tell_15 : decode cX7_tell 15 = .ok (.ifCond .eq 13, 3) := by decide +kernel
theorem dX7_tell_18 : decode cX7_tell 18 = .ok (.iload_n 2, 1) := by decide +kernel
theorem dX7_tell_19 : decode cX7_tell 19 = .ok (.invokestatic 103, 3) := by decide +kernel
theorem dX7_tell_22 : decode cX7_tell 22 = .ok (.ifCond .ne 6, 3) := by decide +kernel
theorem dX7_tell_25 : decode cX7_tell 25 = .ok (.bipush (-102), 2) := by decide +kernel
theorem dX7_tell_27 : decode cX7_tell 27 = .ok (.ireturn, 1) := by decide +kernel
theorem dX7_tell_28 : decode cX7_tell 28 = .ok (.aload_n 0, 1) := by decide +kernel
theorem dX7_tell_29 : decode cX7_tell 29 = .ok (.getfield 10, 3) := by decide +kernel
theorem dX7_tell_32 : decode cX7_tell 32 = .ok (.iload_n 1, 1) := by decide +kernel
theorem dX7_tell_33 : decode cX7_tell 33 = .ok (.invokevirtual 94, 3) := by decide +kernel
theorem dX7_tell_36 : decode cX7_tell 36 = .ok (.istore_n 3, 1) := by decide +kernel
theorem dX7_tell_37 : decode cX7_tell 37 = .ok (.aload_n 0, 1) := by decide +kernel
theorem dX7_tell_38 : decode cX7_tell 38 = .ok (.getfield 10, 3) := by decide +kernel
theorem dX7_tell_41 : decode cX7_tell 41 = .ok (.iload_n 1, 1) := by decide +kernel
theorem dX7_tell_42 : decode cX7_tell 42 = .ok (.iload_n 2, 1) := by decide +kernel
theorem dX7_tell_43 : decode cX7_tell 43 = .ok (.invokevirtual 119, 3) := by decide +kernel
theorem dX7_tell_46 : decode cX7_tell 46 = .ok (.aload_n 0, 1) := by decide +kernel
theorem dX7_tell_47 : decode cX7_tell 47 = .ok (.invokevirtual 116, 3) := by decide +kernel
theorem dX7_tell_50 : decode cX7_tell 50 = .ok (.iload_n 3, 1) := by decide +kernel
theorem dX7_tell_51 : decode cX7_tell 51 = .ok (.ireturn, 1) := by decide +kernel
theorem dX7_letters_0 : decode cX7_letters 0 = .ok (.lload_n 1, 1) := by decide +kernel
theorem dX7_letters_1 : decode cX7_letters 1 = .ok (.invokestatic 123, 3) := by decide +kernel
theorem dX7_letters_4 : decode cX7_letters 4 = .ok (.istore_n 3, 1) := by decide +kernel
theorem dX7_letters_5 : decode cX7_letters 5 = .ok (.iload_n 3, 1) := by decide +kernel
theorem dX7_letters_6 : decode cX7_letters 6 = .ok (.iconst (-1), 1) := by decide +kernel
theorem dX7_letters_7 : decode cX7_letters 7 = .ok (.if_icmp .ne 6, 3) := by decide +kernel
theorem dX7_letters_10 : decode cX7_letters 10 = .ok (.bipush (-102), 2) := by decide +kernel
theorem dX7_letters_12 : decode cX7_letters 12 = .ok (.ireturn, 1) := by decide +kernel
theorem dX7_letters_13 : decode cX7_letters 13 = .ok (.aload_n 0, 1) := by decide +kernel
theorem dX7_letters_14 : decode cX7_letters 14 = .ok (.getfield 26, 3) := by decide +kernel
theorem dX7_letters_17 : decode cX7_letters 17 = .ok (.invokevirtual 127, 3) := by decide +kernel
theorem dX7_letters_20 : decode cX7_letters 20 = .ok (.iload_n 3, 1) := by decide +kernel
theorem dX7_letters_21 : decode cX7_letters 21 = .ok (.iadd, 1) := by decide +kernel
theorem dX7_letters_22 : decode cX7_letters 22 = .ok (.bipush 60, 2) := by decide +kernel
theorem dX7_letters_24 : decode cX7_letters 24 = .ok (.if_icmp .le 6, 3) := by decide +kernel
theorem dX7_letters_27 : decode cX7_letters 27 = .ok (.bipush (-104), 2) := by decide +kernel
theorem dX7_letters_29 : decode cX7_letters 29 = .ok (.ireturn, 1) := by decide +kernel
theorem dX7_letters_30 : decode cX7_letters 30 = .ok (.aload_n 0, 1) := by decide +kernel
theorem dX7_letters_31 : decode cX7_letters 31 = .ok (.getfield 26, 3) := by decide +kernel
theorem dX7_letters_34 : decode cX7_letters 34 = .ok (.lload_n 1, 1) := by decide +kernel
theorem dX7_letters_35 : decode cX7_letters 35 = .ok (.iload_n 3, 1) := by decide +kernel
theorem dX7_letters_36 : decode cX7_letters 36 = .ok (.invokevirtual 131, 3) := by decide +kernel
theorem dX7_letters_39 : decode cX7_letters 39 = .ok (.aload_n 0, 1) := by decide +kernel
theorem dX7_letters_40 : decode cX7_letters 40 = .ok (.getfield 26, 3) := by decide +kernel
theorem dX7_letters_43 : decode cX7_letters 43 = .ok (.invokevirtual 127, 3) := by decide +kernel
theorem dX7_letters_46 : decode cX7_letters 46 = .ok (.ireturn, 1) := by decide +kernel
theorem dX7_blank_0 : decode cX7_blank 0 = .ok (.aload_n 0, 1) := by decide +kernel
theorem dX7_blank_1 : decode cX7_blank 1 = .ok (.getfield 26, 3) := by decide +kernel
theorem dX7_blank_4 : decode cX7_blank 4 = .ok (.invokevirtual 127, 3) := by decide +kernel
theorem dX7_blank_7 : decode cX7_blank 7 = .ok (.istore_n 1, 1) := by decide +kernel
theorem dX7_blank_8 : decode cX7_blank 8 = .ok (.aload_n 0, 1) := by decide +kernel
theorem dX7_blank_9 : decode cX7_blank 9 = .ok (.getfield 26, 3) := by decide +kernel
theorem dX7_blank_12 : decode cX7_blank 12 = .ok (.invokevirtual 135, 3) := by decide +kernel
theorem dX7_blank_15 : decode cX7_blank 15 = .ok (.iload_n 1, 1) := by decide +kernel
theorem dX7_blank_16 : decode cX7_blank 16 = .ok (.ireturn, 1) := by decide +kernel
theorem dX7_fault_0 : decode cX7_fault 0 = .ok (.aload_n 0, 1) := by decide +kernel
theorem dX7_fault_1 : decode cX7_fault 1 = .ok (.getfield 26, 3) := by decide +kernel
theorem dX7_fault_4 : decode cX7_fault 4 = .ok (.aload_n 0, 1) := by decide +kernel
theorem dX7_fault_5 : decode cX7_fault 5 = .ok (.getfield 10, 3) := by decide +kernel
theorem dX7_fault_8 : decode cX7_fault 8 = .ok (.invokevirtual 138, 3) := by decide +kernel
theorem dX7_fault_11 : decode cX7_fault 11 = .ok (.invokevirtual 139, 3) := by decide +kernel
theorem dX7_fault_14 : decode cX7_fault 14 = .ok (.ireturn, 1) := by decide +kernel
theorem dX7_list_0 : decode cX7_list 0 = .ok (.aload_n 0, 1) := by decide +kernel
theorem dX7_list_1 : decode cX7_list 1 = .ok (.getfield 26, 3) := by decide +kernel
theorem dX7_list_4 : decode cX7_list 4 = .ok (.aload_n 0, 1) := by decide +kernel
theorem dX7_list_5 : decode cX7_list 5 = .ok (.getfield 10, 3) := by decide +kernel
theorem dX7_list_8 : decode cX7_list 8 = .ok (.invokevirtual 138, 3) := by decide +kernel
theorem dX7_list_11 : decode cX7_list 11 = .ok (.invokevirtual 142, 3) := by decide +kernel
theorem dX7_list_14 : decode cX7_list 14 = .ok (.ifCond .ne 6, 3) := by decide +kernel
theorem dX7_list_17 : decode cX7_list 17 = .ok (.bipush (-103), 2) := by decide +kernel
theorem dX7_list_19 : decode cX7_list 19 = .ok (.ireturn, 1) := by decide +kernel
theorem dX7_list_20 : decode cX7_list 20 = .ok (.aload_n 0, 1) := by decide +kernel
theorem dX7_list_21 : decode cX7_list 21 = .ok (.getfield 33, 3) := by decide +kernel
theorem dX7_list_24 : decode cX7_list 24 = .ok (.invokevirtual 145, 3) := by decide +kernel
theorem dX7_list_27 : decode cX7_list 27 = .ok (.iconst 0, 1) := by decide +kernel
theorem dX7_list_28 : decode cX7_list 28 = .ok (.istore_n 1, 1) := by decide +kernel
theorem dX7_list_29 : decode cX7_list 29 = .ok (.iload_n 1, 1) := by decide +kernel
theorem dX7_list_30 : decode cX7_list 30 = .ok (.aload_n 0, 1) := by decide +kernel
theorem dX7_list_31 : decode cX7_list 31 = .ok (.getfield 26, 3) := by decide +kernel
theorem dX7_list_34 : decode cX7_list 34 = .ok (.invokevirtual 127, 3) := by decide +kernel
theorem dX7_list_37 : decode cX7_list 37 = .ok (.if_icmp .ge 70, 3) := by decide +kernel
theorem dX7_list_40 : decode cX7_list 40 = .ok (.aload_n 0, 1) := by decide +kernel
theorem dX7_list_41 : decode cX7_list 41 = .ok (.getfield 26, 3) := by decide +kernel
theorem dX7_list_44 : decode cX7_list 44 = .ok (.iload_n 1, 1) := by decide +kernel
theorem dX7_list_45 : decode cX7_list 45 = .ok (.invokevirtual 146, 3) := by decide +kernel
theorem dX7_list_48 : decode cX7_list 48 = .ok (.istore_n 2, 1) := by decide +kernel
theorem dX7_list_49 : decode cX7_list 49 = .ok (.aload_n 0, 1) := by decide +kernel
theorem dX7_list_50 : decode cX7_list 50 = .ok (.getfield 26, 3) := by decide +kernel
theorem dX7_list_53 : decode cX7_list 53 = .ok (.iload_n 1, 1) := by decide +kernel
theorem dX7_list_54 : decode cX7_list 54 = .ok (.iconst 2, 1) := by decide +kernel
theorem dX7_list_55 : decode cX7_list 55 = .ok (.iadd, 1) := by decide +kernel
theorem dX7_list_56 : decode cX7_list 56 = .ok (.invokevirtual 146, 3) := by decide +kernel
theorem dX7_list_59 : decode cX7_list 59 = .ok (.istore_n 3, 1) := by decide +kernel
theorem dX7_list_60 : decode cX7_list 60 = .ok (.aload_n 0, 1) := by decide +kernel
theorem dX7_list_61 : decode cX7_list 61 = .ok (.getfield 10, 3) := by decide +kernel
theorem dX7_list_64 : decode cX7_list 64 = .ok (.iload_n 2, 1) := by decide +kernel
theorem dX7_list_65 : decode cX7_list 65 = .ok (.invokevirtual 149, 3) := by decide +kernel
theorem dX7_list_68 : decode cX7_list 68 = .ok (.ifCond .eq 9, 3) := by decide +kernel
theorem dX7_list_71 : decode cX7_list 71 = .ok (.iload_n 3, 1) := by decide +kernel
theorem dX7_list_72 : decode cX7_list 72 = .ok (.iconst 2, 1) := by decide +kernel
theorem dX7_list_73 : decode cX7_list 73 = .ok (.idiv, 1) := by decide +kernel
theorem dX7_list_74 : decode cX7_list 74 = .ok (.goto 4, 3) := by decide +kernel
theorem dX7_list_77 : decode cX7_list 77 = .ok (.iload_n 3, 1) := by decide +kernel
theorem dX7_list_78 : decode cX7_list 78 = .ok (.istore 4, 2) := by decide +kernel
theorem dX7_list_80 : decode cX7_list 80 = .ok (.aload_n 0, 1) := by decide +kernel
theorem dX7_list_81 : decode cX7_list 81 = .ok (.getfield 33, 3) := by decide +kernel
theorem dX7_list_84 : decode cX7_list 84 = .ok (.iload_n 2, 1) := by decide +kernel
theorem dX7_list_85 : decode cX7_list 85 = .ok (.aload_n 0, 1) := by decide +kernel
theorem dX7_list_86 : decode cX7_list 86 = .ok (.getfield 26, 3) := by decide +kernel
theorem dX7_list_89 : decode cX7_list 89 = .ok (.iload_n 1, 1) := by decide +kernel
theorem dX7_list_90 : decode cX7_list 90 = .ok (.iconst 1, 1) := by decide +kernel
theorem dX7_list_91 : decode cX7_list 91 = .ok (.iadd, 1) := by decide +kernel
theorem dX7_list_92 : decode cX7_list 92 = .ok (.invokevirtual 146, 3) := by decide +kernel
theorem dX7_list_95 : decode cX7_list 95 = .ok (.iload_n 3, 1) := by decide +kernel
theorem dX7_list_96 : decode cX7_list 96 = .ok (.iload 4, 2) := by decide +kernel
theorem dX7_list_98 : decode cX7_list 98 = .ok (.invokevirtual 152, 3) := by decide +kernel
theorem dX7_list_101 : decode cX7_list 101 = .ok (.iinc 1 4, 3) := by decide +kernel
theorem dX7_list_104 : decode cX7_list 104 = .ok (.goto (-75), 3) := by decide +kernel
theorem dX7_list_107 : decode cX7_list 107 = .ok (.aload_n 0, 1) := by decide +kernel
theorem dX7_list_108 : decode cX7_list 108 = .ok (.getfield 26, 3) := by decide +kernel
theorem dX7_list_111 : decode cX7_list 111 = .ok (.invokevirtual 135, 3) := by decide +kernel
theorem dX7_list_114 : decode cX7_list 114 = .ok (.aload_n 0, 1) := by decide +kernel
theorem dX7_list_115 : decode cX7_list 115 = .ok (.dup, 1) := by decide +kernel
theorem dX7_list_116 : decode cX7_list 116 = .ok (.getfield 65, 3) := by decide +kernel
theorem dX7_list_119 : decode cX7_list 119 = .ok (.iconst 1, 1) := by decide +kernel
theorem dX7_list_120 : decode cX7_list 120 = .ok (.iadd, 1) := by decide +kernel
theorem dX7_list_121 : decode cX7_list 121 = .ok (.putfield 65, 3) := by decide +kernel
theorem dX7_list_124 : decode cX7_list 124 = .ok (.aload_n 0, 1) := by decide +kernel
theorem dX7_list_125 : decode cX7_list 125 = .ok (.getfield 33, 3) := by decide +kernel
theorem dX7_list_128 : decode cX7_list 128 = .ok (.invokevirtual 155, 3) := by decide +kernel
theorem dX7_list_131 : decode cX7_list 131 = .ok (.ireturn, 1) := by decide +kernel
theorem dX7_meeting_0 : decode cX7_meeting 0 = .ok (.aload_n 0, 1) := by decide +kernel
theorem dX7_meeting_1 : decode cX7_meeting 1 = .ok (.getfield 33, 3) := by decide +kernel
theorem dX7_meeting_4 : decode cX7_meeting 4 = .ok (.iload_n 1, 1) := by decide +kernel
theorem dX7_meeting_5 : decode cX7_meeting 5 = .ok (.invokevirtual 156, 3) := by decide +kernel
theorem dX7_meeting_8 : decode cX7_meeting 8 = .ok (.ifCond .ne 6, 3) := by decide +kernel
theorem dX7_meeting_11 : decode cX7_meeting 11 = .ok (.bipush (-101), 2) := by decide +kernel
theorem dX7_meeting_13 : decode cX7_meeting 13 = .ok (.ireturn, 1) := by decide +kernel
theorem dX7_meeting_14 : decode cX7_meeting 14 = .ok (.iload_n 2, 1) := by decide +kernel
theorem dX7_meeting_15 : decode cX7_meeting 15 = .ok (.tableswitch 69 0 3 #[29, 38, 47, 56], 29) := by decide +kernel
theorem dX7_meeting_44 : decode cX7_meeting 44 = .ok (.aload_n 0, 1) := by decide +kernel
theorem dX7_meeting_45 : decode cX7_meeting 45 = .ok (.getfield 33, 3) := by decide +kernel
theorem dX7_meeting_48 : decode cX7_meeting 48 = .ok (.iload_n 1, 1) := by decide +kernel
theorem dX7_meeting_49 : decode cX7_meeting 49 = .ok (.invokevirtual 157, 3) := by decide +kernel
theorem dX7_meeting_52 : decode cX7_meeting 52 = .ok (.ireturn, 1) := by decide +kernel
theorem dX7_meeting_53 : decode cX7_meeting 53 = .ok (.aload_n 0, 1) := by decide +kernel
theorem dX7_meeting_54 : decode cX7_meeting 54 = .ok (.getfield 33, 3) := by decide +kernel
theorem dX7_meeting_57 : decode cX7_meeting 57 = .ok (.iload_n 1, 1) := by decide +kernel
theorem dX7_meeting_58 : decode cX7_meeting 58 = .ok (.invokevirtual 160, 3) := by decide +kernel
theorem dX7_meeting_61 : decode cX7_meeting 61 = .ok (.ireturn, 1) := by decide +kernel
theorem dX7_meeting_62 : decode cX7_meeting 62 = .ok (.aload_n 0, 1) := by decide +kernel
theorem dX7_meeting_63 : decode cX7_meeting 63 = .ok (.getfield 33, 3) := by decide +kernel
theorem dX7_meeting_66 : decode cX7_meeting 66 = .ok (.iload_n 1, 1) := by decide +kernel
theorem dX7_meeting_67 : decode cX7_meeting 67 = .ok (.invokevirtual 163, 3) := by decide +kernel
theorem dX7_meeting_70 : decode cX7_meeting 70 = .ok (.ireturn, 1) := by decide +kernel
theorem dX7_meeting_71 : decode cX7_meeting 71 = .ok (.aload_n 0, 1) := by decide +kernel
theorem dX7_meeting_72 : decode cX7_meeting 72 = .ok (.getfield 33, 3) := by decide +kernel
theorem dX7_meeting_75 : decode cX7_meeting 75 = .ok (.iload_n 1, 1) := by decide +kernel
theorem dX7_meeting_76 : decode cX7_meeting 76 = .ok (.aload_n 0, 1) := by decide +kernel
theorem dX7_meeting_77 : decode cX7_meeting 77 = .ok (.getfield 19, 3) := by decide +kernel
theorem dX7_meeting_80 : decode cX7_meeting 80 = .ok (.invokevirtual 166, 3) := by decide +kernel
theorem dX7_meeting_83 : decode cX7_meeting 83 = .ok (.ireturn, 1) := by decide +kernel
theorem dX7_meeting_84 : decode cX7_meeting 84 = .ok (.bipush (-102), 2) := by decide +kernel
theorem dX7_meeting_86 : decode cX7_meeting 86 = .ok (.ireturn, 1) := by decide +kernel
theorem dX7_known_0 : decode cX7_known 0 = .ok (.iload_n 1, 1) := by decide +kernel
theorem dX7_known_1 : decode cX7_known 1 = .ok (.invokestatic 170, 3) := by decide +kernel
theorem dX7_known_4 : decode cX7_known 4 = .ok (.ifCond .ne 7, 3) := by decide +kernel
theorem dX7_known_7 : decode cX7_known 7 = .ok (.ldc2_w 173, 3) := by decide +kernel
theorem dX7_known_10 : decode cX7_known 10 = .ok (.lreturn, 1) := by decide +kernel
theorem dX7_known_11 : decode cX7_known 11 = .ok (.aload_n 0, 1) := by decide +kernel
theorem dX7_known_12 : decode cX7_known 12 = .ok (.aload_n 0, 1) := by decide +kernel
theorem dX7_known_13 : decode cX7_known 13 = .ok (.getfield 33, 3) := by decide +kernel
theorem dX7_known_16 : decode cX7_known 16 = .ok (.aload_n 0, 1) := by decide +kernel
theorem dX7_known_17 : decode cX7_known 17 = .ok (.getfield 19, 3) := by decide +kernel
theorem dX7_known_20 : decode cX7_known 20 = .ok (.invokevirtual 175, 3) := by decide +kernel
theorem dX7_known_23 : decode cX7_known 23 = .ok (.iload_n 1, 1) := by decide +kernel
theorem dX7_known_24 : decode cX7_known 24 = .ok (.invokevirtual 179, 3) := by decide +kernel
theorem dX7_known_27 : decode cX7_known 27 = .ok (.lreturn, 1) := by decide +kernel
theorem dX7_whose_0 : decode cX7_whose 0 = .ok (.aload_n 0, 1) := by decide +kernel
theorem dX7_whose_1 : decode cX7_whose 1 = .ok (.getfield 10, 3) := by decide +kernel
theorem dX7_whose_4 : decode cX7_whose 4 = .ok (.iload_n 1, 1) := by decide +kernel
theorem dX7_whose_5 : decode cX7_whose 5 = .ok (.invokevirtual 84, 3) := by decide +kernel
theorem dX7_whose_8 : decode cX7_whose 8 = .ok (.ifCond .ne 7, 3) := by decide +kernel
theorem dX7_whose_11 : decode cX7_whose 11 = .ok (.ldc2_w 183, 3) := by decide +kernel
theorem dX7_whose_14 : decode cX7_whose 14 = .ok (.lreturn, 1) := by decide +kernel
theorem dX7_whose_15 : decode cX7_whose 15 = .ok (.iload_n 2, 1) := by decide +kernel
theorem dX7_whose_16 : decode cX7_whose 16 = .ok (.invokestatic 170, 3) := by decide +kernel
theorem dX7_whose_19 : decode cX7_whose 19 = .ok (.ifCond .ne 7, 3) := by decide +kernel
theorem dX7_whose_22 : decode cX7_whose 22 = .ok (.ldc2_w 173, 3) := by decide +kernel
theorem dX7_whose_25 : decode cX7_whose 25 = .ok (.lreturn, 1) := by decide +kernel
theorem dX7_whose_26 : decode cX7_whose 26 = .ok (.aload_n 0, 1) := by decide +kernel
theorem dX7_whose_27 : decode cX7_whose 27 = .ok (.getfield 33, 3) := by decide +kernel
theorem dX7_whose_30 : decode cX7_whose 30 = .ok (.invokevirtual 185, 3) := by decide +kernel
theorem dX7_whose_33 : decode cX7_whose 33 = .ok (.aload_n 0, 1) := by decide +kernel
theorem dX7_whose_34 : decode cX7_whose 34 = .ok (.getfield 33, 3) := by decide +kernel
theorem dX7_whose_37 : decode cX7_whose 37 = .ok (.aload_n 0, 1) := by decide +kernel
theorem dX7_whose_38 : decode cX7_whose 38 = .ok (.getfield 19, 3) := by decide +kernel
theorem dX7_whose_41 : decode cX7_whose 41 = .ok (.invokevirtual 175, 3) := by decide +kernel
theorem dX7_whose_44 : decode cX7_whose 44 = .ok (.lsub, 1) := by decide +kernel
theorem dX7_whose_45 : decode cX7_whose 45 = .ok (.lstore_n 3, 1) := by decide +kernel
theorem dX7_whose_46 : decode cX7_whose 46 = .ok (.lload_n 3, 1) := by decide +kernel
theorem dX7_whose_47 : decode cX7_whose 47 = .ok (.lconst 0, 1) := by decide +kernel
theorem dX7_whose_48 : decode cX7_whose 48 = .ok (.lcmp, 1) := by decide +kernel
theorem dX7_whose_49 : decode cX7_whose 49 = .ok (.ifCond .ne 7, 3) := by decide +kernel
theorem dX7_whose_52 : decode cX7_whose 52 = .ok (.ldc2_w 189, 3) := by decide +kernel
theorem dX7_whose_55 : decode cX7_whose 55 = .ok (.lreturn, 1) := by decide +kernel
theorem dX7_whose_56 : decode cX7_whose 56 = .ok (.aload_n 0, 1) := by decide +kernel
theorem dX7_whose_57 : decode cX7_whose 57 = .ok (.getfield 33, 3) := by decide +kernel
theorem dX7_whose_60 : decode cX7_whose 60 = .ok (.iload_n 1, 1) := by decide +kernel
theorem dX7_whose_61 : decode cX7_whose 61 = .ok (.aload_n 0, 1) := by decide +kernel
theorem dX7_whose_62 : decode cX7_whose 62 = .ok (.getfield 19, 3) := by decide +kernel
theorem dX7_whose_65 : decode cX7_whose 65 = .ok (.invokevirtual 191, 3) := by decide +kernel
theorem dX7_whose_68 : decode cX7_whose 68 = .ok (.lload_n 3, 1) := by decide +kernel
theorem dX7_whose_69 : decode cX7_whose 69 = .ok (.iload_n 2, 1) := by decide +kernel
theorem dX7_whose_70 : decode cX7_whose 70 = .ok (.invokestatic 195, 3) := by decide +kernel
theorem dX7_whose_73 : decode cX7_whose 73 = .ok (.lreturn, 1) := by decide +kernel
theorem dX7_right_0 : decode cX7_right 0 = .ok (.iconst 0, 1) := by decide +kernel
theorem dX7_right_1 : decode cX7_right 1 = .ok (.istore_n 1, 1) := by decide +kernel
theorem dX7_right_2 : decode cX7_right 2 = .ok (.iload_n 1, 1) := by decide +kernel
theorem dX7_right_3 : decode cX7_right 3 = .ok (.aload_n 0, 1) := by decide +kernel
theorem dX7_right_4 : decode cX7_right 4 = .ok (.getfield 10, 3) := by decide +kernel
theorem dX7_right_7 : decode cX7_right 7 = .ok (.invokevirtual 138, 3) := by decide +kernel
theorem dX7_right_10 : decode cX7_right 10 = .ok (.if_icmp .ge 42, 3) := by decide +kernel
theorem dX7_right_13 : decode cX7_right 13 = .ok (.aload_n 0, 1) := by decide +kernel
theorem dX7_right_14 : decode cX7_right 14 = .ok (.getfield 10, 3) := by decide +kernel
theorem dX7_right_17 : decode cX7_right 17 = .ok (.iload_n 1, 1) := by decide +kernel
theorem dX7_right_18 : decode cX7_right 18 = .ok (.iconst 2, 1) := by decide +kernel
theorem dX7_right_19 : decode cX7_right 19 = .ok (.invokevirtual 100, 3) := by decide +kernel
theorem dX7_right_22 : decode cX7_right 22 = .ok (.ifCond .eq 24, 3) := by decide +kernel
theorem dX7_right_25 : decode cX7_right 25 = .ok (.aload_n 0, 1) := by decide +kernel
theorem dX7_right_26 : decode cX7_right 26 = .ok (.getfield 19, 3) := by decide +kernel
theorem dX7_right_29 : decode cX7_right 29 = .ok (.iload_n 1, 1) := by decide +kernel
theorem dX7_right_30 : decode cX7_right 30 = .ok (.aload_n 0, 1) := by decide +kernel
theorem dX7_right_31 : decode cX7_right 31 = .ok (.getfield 10, 3) := by decide +kernel
theorem dX7_right_34 : decode cX7_right 34 = .ok (.iload_n 1, 1) := by decide +kernel
theorem dX7_right_35 : decode cX7_right 35 = .ok (.invokevirtual 91, 3) := by decide +kernel
theorem dX7_right_38 : decode cX7_right 38 = .ok (.invokevirtual 199, 3) := by decide +kernel
theorem dX7_right_41 : decode cX7_right 41 = .ok (.ifCond .ne 5, 3) := by decide +kernel
theorem dX7_right_44 : decode cX7_right 44 = .ok (.iconst 0, 1) := by decide +kernel
theorem dX7_right_45 : decode cX7_right 45 = .ok (.ireturn, 1) := by decide +kernel
theorem dX7_right_46 : decode cX7_right 46 = .ok (.iinc 1 1, 3) := by decide +kernel
theorem dX7_right_49 : decode cX7_right 49 = .ok (.goto (-47), 3) := by decide +kernel
theorem dX7_right_52 : decode cX7_right 52 = .ok (.iconst 1, 1) := by decide +kernel
theorem dX7_right_53 : decode cX7_right 53 = .ok (.ireturn, 1) := by decide +kernel
theorem dX7_best_0 : decode cX7_best 0 = .ok (.iload_n 1, 1) := by decide +kernel
theorem dX7_best_1 : decode cX7_best 1 = .ok (.bipush 10, 2) := by decide +kernel
theorem dX7_best_3 : decode cX7_best 3 = .ok (.if_icmp .lt 13, 3) := by decide +kernel
theorem dX7_best_6 : decode cX7_best 6 = .ok (.iload_n 1, 1) := by decide +kernel
theorem dX7_best_7 : decode cX7_best 7 = .ok (.bipush 19, 2) := by decide +kernel
theorem dX7_best_9 : decode cX7_best 9 = .ok (.if_icmp .ge 7, 3) := by decide +kernel
theorem dX7_best_12 : decode cX7_best 12 = .ok (.iconst 1, 1) := by decide +kernel
theorem dX7_best_13 : decode cX7_best 13 = .ok (.goto 4, 3) := by decide +kernel
theorem dX7_best_16 : decode cX7_best 16 = .ok (.iconst 0, 1) := by decide +kernel
theorem dX7_best_17 : decode cX7_best 17 = .ok (.istore_n 2, 1) := by decide +kernel
theorem dX7_best_18 : decode cX7_best 18 = .ok (.iload_n 1, 1) := by decide +kernel
theorem dX7_best_19 : decode cX7_best 19 = .ok (.invokestatic 170, 3) := by decide +kernel
theorem dX7_best_22 : decode cX7_best 22 = .ok (.ifCond .ne 11, 3) := by decide +kernel
theorem dX7_best_25 : decode cX7_best 25 = .ok (.iload_n 2, 1) := by decide +kernel
theorem dX7_best_26 : decode cX7_best 26 = .ok (.ifCond .ne 7, 3) := by decide +kernel
theorem dX7_best_29 : decode cX7_best 29 = .ok (.ldc2_w 173, 3) := by decide +kernel
theorem dX7_best_32 : decode cX7_best 32 = .ok (.lreturn, 1) := by decide +kernel
theorem dX7_best_33 : decode cX7_best 33 = .ok (.aload_n 0, 1) := by decide +kernel
theorem dX7_best_34 : decode cX7_best 34 = .ok (.getfield 10, 3) := by decide +kernel
theorem dX7_best_37 : decode cX7_best 37 = .ok (.iconst 2, 1) := by decide +kernel
theorem dX7_best_38 : decode cX7_best 38 = .ok (.invokevirtual 202, 3) := by decide +kernel
theorem dX7_best_41 : decode cX7_best 41 = .ok (.iconst 4, 1) := by decide +kernel
theorem dX7_best_42 : decode cX7_best 42 = .ok (.if_icmp .gt 12, 3) := by decide +kernel
theorem dX7_best_45 : decode cX7_best 45 = .ok (.aload_n 0, 1) := by decide +kernel
theorem dX7_best_46 : decode cX7_best 46 = .ok (.getfield 69, 3) := by decide +kernel
theorem dX7_best_49 : decode cX7_best 49 = .ok (.bipush 40, 2) := by decide +kernel
theorem dX7_best_51 : decode cX7_best 51 = .ok (.if_icmp .lt 7, 3) := by decide +kernel
theorem dX7_best_54 : decode cX7_best 54 = .ok (.ldc2_w 205, 3) := by decide +kernel
theorem dX7_best_57 : decode cX7_best 57 = .ok (.lreturn, 1) := by decide +kernel
theorem dX7_best_58 : decode cX7_best 58 = .ok (.aload_n 0, 1) := by decide +kernel
theorem dX7_best_59 : decode cX7_best 59 = .ok (.dup, 1) := by decide +kernel
theorem dX7_best_60 : decode cX7_best 60 = .ok (.getfield 69, 3) := by decide +kernel
theorem dX7_best_63 : decode cX7_best 63 = .ok (.iconst 1, 1) := by decide +kernel
theorem dX7_best_64 : decode cX7_best 64 = .ok (.iadd, 1) := by decide +kernel
theorem dX7_best_65 : decode cX7_best 65 = .ok (.putfield 69, 3) := by decide +kernel
theorem dX7_best_68 : decode cX7_best 68 = .ok (.aload_n 0, 1) := by decide +kernel
theorem dX7_best_69 : decode cX7_best 69 = .ok (.invokevirtual 207, 3) := by decide +kernel
theorem dX7_best_72 : decode cX7_best 72 = .ok (.iload_n 2, 1) := by decide +kernel
theorem dX7_best_73 : decode cX7_best 73 = .ok (.ifCond .eq 33, 3) := by decide +kernel
theorem dX7_best_76 : decode cX7_best 76 = .ok (.iload_n 1, 1) := by decide +kernel
theorem dX7_best_77 : decode cX7_best 77 = .ok (.bipush 10, 2) := by decide +kernel
theorem dX7_best_79 : decode cX7_best 79 = .ok (.isub, 1) := by decide +kernel
theorem dX7_best_80 : decode cX7_best 80 = .ok (.istore_n 3, 1) := by decide +kernel
theorem dX7_best_81 : decode cX7_best 81 = .ok (.aload_n 0, 1) := by decide +kernel
theorem dX7_best_82 : decode cX7_best 82 = .ok (.getfield 10, 3) := by decide +kernel
theorem dX7_best_85 : decode cX7_best 85 = .ok (.iload_n 3, 1) := by decide +kernel
theorem dX7_best_86 : decode cX7_best 86 = .ok (.invokevirtual 84, 3) := by decide +kernel
theorem dX7_best_89 : decode cX7_best 89 = .ok (.ifCond .eq 13, 3) := by decide +kernel
theorem dX7_best_92 : decode cX7_best 92 = .ok (.aload_n 0, 1) := by decide +kernel
theorem dX7_best_93 : decode cX7_best 93 = .ok (.getfield 58, 3) := by decide +kernel
theorem dX7_best_96 : decode cX7_best 96 = .ok (.iload_n 3, 1) := by decide +kernel
theorem dX7_best_97 : decode cX7_best 97 = .ok (.iaload, 1) := by decide +kernel
theorem dX7_best_98 : decode cX7_best 98 = .ok (.i2l, 1) := by decide +kernel
theorem dX7_best_99 : decode cX7_best 99 = .ok (.goto 6, 3) := by decide +kernel
theorem dX7_best_102 : decode cX7_best 102 = .ok (.ldc2_w 189, 3) := by decide +kernel
theorem dX7_best_105 : decode cX7_best 105 = .ok (.lreturn, 1) := by decide +kernel
theorem dX7_best_106 : decode cX7_best 106 = .ok (.aload_n 0, 1) := by decide +kernel
theorem dX7_best_107 : decode cX7_best 107 = .ok (.aload_n 0, 1) := by decide +kernel
theorem dX7_best_108 : decode cX7_best 108 = .ok (.invokevirtual 210, 3) := by decide +kernel
theorem dX7_best_111 : decode cX7_best 111 = .ok (.iload_n 1, 1) := by decide +kernel
theorem dX7_best_112 : decode cX7_best 112 = .ok (.invokevirtual 179, 3) := by decide +kernel
theorem dX7_best_115 : decode cX7_best 115 = .ok (.lreturn, 1) := by decide +kernel
theorem dX7_hole_0 : decode cX7_hole 0 = .ok (.aload_n 0, 1) := by decide +kernel
theorem dX7_hole_1 : decode cX7_hole 1 = .ok (.getfield 33, 3) := by decide +kernel
theorem dX7_hole_4 : decode cX7_hole 4 = .ok (.aload_n 0, 1) := by decide +kernel
theorem dX7_hole_5 : decode cX7_hole 5 = .ok (.getfield 19, 3) := by decide +kernel
theorem dX7_hole_8 : decode cX7_hole 8 = .ok (.invokevirtual 175, 3) := by decide +kernel
theorem dX7_hole_11 : decode cX7_hole 11 = .ok (.lstore_n 1, 1) := by decide +kernel
theorem dX7_hole_12 : decode cX7_hole 12 = .ok (.iconst (-1), 1) := by decide +kernel
theorem dX7_hole_13 : decode cX7_hole 13 = .ok (.istore_n 3, 1) := by decide +kernel
theorem dX7_hole_14 : decode cX7_hole 14 = .ok (.iconst 0, 1) := by decide +kernel
theorem dX7_hole_15 : decode cX7_hole 15 = .ok (.istore 4, 2) := by decide +kernel
theorem dX7_hole_17 : decode cX7_hole 17 = .ok (.iload 4, 2) := by decide +kernel
theorem dX7_hole_19 : decode cX7_hole 19 = .ok (.aload_n 0, 1) := by decide +kernel
theorem dX7_hole_20 : decode cX7_hole 20 = .ok (.getfield 10, 3) := by decide +kernel
theorem dX7_hole_23 : decode cX7_hole 23 = .ok (.invokevirtual 138, 3) := by decide +kernel
theorem dX7_hole_26 : decode cX7_hole 26 = .ok (.if_icmp .ge 59, 3) := by decide +kernel
theorem dX7_hole_29 : decode cX7_hole 29 = .ok (.aload_n 0, 1) := by decide +kernel
theorem dX7_hole_30 : decode cX7_hole 30 = .ok (.getfield 10, 3) := by decide +kernel
theorem dX7_hole_33 : decode cX7_hole 33 = .ok (.iload 4, 2) := by decide +kernel
theorem dX7_hole_35 : decode cX7_hole 35 = .ok (.invokevirtual 94, 3) := by decide +kernel
theorem dX7_hole_38 : decode cX7_hole 38 = .ok (.ifCond .eq 41, 3) := by decide +kernel
theorem dX7_hole_41 : decode cX7_hole 41 = .ok (.aload_n 0, 1) := by decide +kernel
theorem dX7_hole_42 : decode cX7_hole 42 = .ok (.getfield 10, 3) := by decide +kernel
theorem dX7_hole_45 : decode cX7_hole 45 = .ok (.aload_n 0, 1) := by decide +kernel
theorem dX7_hole_46 : decode cX7_hole 46 = .ok (.getfield 58, 3) := by decide +kernel
theorem dX7_hole_49 : decode cX7_hole 49 = .ok (.invokevirtual 213, 3) := by decide +kernel
theorem dX7_hole_52 : decode cX7_hole 52 = .ok (.aload_n 0, 1) := by decide +kernel
theorem dX7_hole_53 : decode cX7_hole 53 = .ok (.getfield 58, 3) := by decide +kernel
theorem dX7_hole_56 : decode cX7_hole 56 = .ok (.iload 4, 2) := by decide +kernel
theorem dX7_hole_58 : decode cX7_hole 58 = .ok (.iconst 0, 1) := by decide +kernel
theorem dX7_hole_59 : decode cX7_hole 59 = .ok (.iastore, 1) := by decide +kernel
theorem dX7_hole_60 : decode cX7_hole 60 = .ok (.aload_n 0, 1) := by decide +kernel
theorem dX7_hole_61 : decode cX7_hole 61 = .ok (.invokevirtual 210, 3) := by decide +kernel
theorem dX7_hole_64 : decode cX7_hole 64 = .ok (.lstore 5, 2) := by decide +kernel
theorem dX7_hole_66 : decode cX7_hole 66 = .ok (.lload 5, 2) := by decide +kernel
theorem dX7_hole_68 : decode cX7_hole 68 = .ok (.lload_n 1, 1) := by decide +kernel
theorem dX7_hole_69 : decode cX7_hole 69 = .ok (.lcmp, 1) := by decide +kernel
theorem dX7_hole_70 : decode cX7_hole 70 = .ok (.ifCond .le 9, 3) := by decide +kernel
theorem dX7_hole_73 : decode cX7_hole 73 = .ok (.lload 5, 2) := by decide +kernel
theorem dX7_hole_75 : decode cX7_hole 75 = .ok (.lstore_n 1, 1) := by decide +kernel
theorem dX7_hole_76 : decode cX7_hole 76 = .ok (.iload 4, 2) := by decide +kernel
theorem dX7_hole_78 : decode cX7_hole 78 = .ok (.istore_n 3, 1) := by decide +kernel
theorem dX7_hole_79 : decode cX7_hole 79 = .ok (.iinc 4 1, 3) := by decide +kernel
theorem dX7_hole_82 : decode cX7_hole 82 = .ok (.goto (-65), 3) := by decide +kernel
theorem dX7_hole_85 : decode cX7_hole 85 = .ok (.iload_n 3, 1) := by decide +kernel
theorem dX7_hole_86 : decode cX7_hole 86 = .ok (.ireturn, 1) := by decide +kernel
theorem dX7_latest_0 : decode cX7_latest 0 = .ok (.aload_n 0, 1) := by decide +kernel
theorem dX7_latest_1 : decode cX7_latest 1 = .ok (.getfield 10, 3) := by decide +kernel
theorem dX7_latest_4 : decode cX7_latest 4 = .ok (.iload_n 1, 1) := by decide +kernel
theorem dX7_latest_5 : decode cX7_latest 5 = .ok (.invokevirtual 84, 3) := by decide +kernel
theorem dX7_latest_8 : decode cX7_latest 8 = .ok (.ifCond .ne 6, 3) := by decide +kernel
theorem dX7_latest_11 : decode cX7_latest 11 = .ok (.bipush (-101), 2) := by decide +kernel
theorem dX7_latest_13 : decode cX7_latest 13 = .ok (.ireturn, 1) := by decide +kernel
theorem dX7_latest_14 : decode cX7_latest 14 = .ok (.bipush 8, 2) := by decide +kernel
theorem dX7_latest_16 : decode cX7_latest 16 = .ok (.istore_n 2, 1) := by decide +kernel
theorem dX7_latest_17 : decode cX7_latest 17 = .ok (.iload_n 2, 1) := by decide +kernel
theorem dX7_latest_18 : decode cX7_latest 18 = .ok (.iconst 1, 1) := by decide +kernel
theorem dX7_latest_19 : decode cX7_latest 19 = .ok (.if_icmp .lt 51, 3) := by decide +kernel
theorem dX7_latest_22 : decode cX7_latest 22 = .ok (.iconst 1, 1) := by decide +kernel
theorem dX7_latest_23 : decode cX7_latest 23 = .ok (.istore_n 3, 1) := by decide +kernel
theorem dX7_latest_24 : decode cX7_latest 24 = .ok (.iload_n 2, 1) := by decide +kernel
theorem dX7_latest_25 : decode cX7_latest 25 = .ok (.istore 4, 2) := by decide +kernel
theorem dX7_latest_27 : decode cX7_latest 27 = .ok (.iload 4, 2) := by decide +kernel
theorem dX7_latest_29 : decode cX7_latest 29 = .ok (.bipush 8, 2) := by decide +kernel
theorem dX7_latest_31 : decode cX7_latest 31 = .ok (.if_icmp .gt 22, 3) := by decide +kernel
theorem dX7_latest_34 : decode cX7_latest 34 = .ok (.iload_n 3, 1) := by decide +kernel
theorem dX7_latest_35 : decode cX7_latest 35 = .ok (.aload_n 0, 1) := by decide +kernel
theorem dX7_latest_36 : decode cX7_latest 36 = .ok (.getfield 10, 3) := by decide +kernel
theorem dX7_latest_39 : decode cX7_latest 39 = .ok (.iload_n 3, 1) := by decide +kernel
theorem dX7_latest_40 : decode cX7_latest 40 = .ok (.iload 4, 2) := by decide +kernel
theorem dX7_latest_42 : decode cX7_latest 42 = .ok (.invokevirtual 217, 3) := by decide +kernel
theorem dX7_latest_45 : decode cX7_latest 45 = .ok (.ior, 1) := by decide +kernel
theorem dX7_latest_46 : decode cX7_latest 46 = .ok (.istore_n 3, 1) := by decide +kernel
theorem dX7_latest_47 : decode cX7_latest 47 = .ok (.iinc 4 1, 3) := by decide +kernel
theorem dX7_latest_50 : decode cX7_latest 50 = .ok (.goto (-23), 3) := by decide +kernel
theorem dX7_latest_53 : decode cX7_latest 53 = .ok (.iload_n 3, 1) := by decide +kernel
theorem dX7_latest_54 : decode cX7_latest 54 = .ok (.iload_n 1, 1) := by decide +kernel
theorem dX7_latest_55 : decode cX7_latest 55 = .ok (.invokestatic 109, 3) := by decide +kernel
theorem dX7_latest_58 : decode cX7_latest 58 = .ok (.iconst 1, 1) := by decide +kernel
theorem dX7_latest_59 : decode cX7_latest 59 = .ok (.if_icmp .ne 5, 3) := by decide +kernel
theorem dX7_latest_62 : decode cX7_latest 62 = .ok (.iload_n 2, 1) := by decide +kernel
theorem dX7_latest_63 : decode cX7_latest 63 = .ok (.ireturn, 1) := by decide +kernel
theorem dX7_latest_64 : decode cX7_latest 64 = .ok (.iinc 2 (-1), 3) := by decide +kernel
theorem dX7_latest_67 : decode cX7_latest 67 = .ok (.goto (-50), 3) := by decide +kernel
theorem dX7_latest_70 : decode cX7_latest 70 = .ok (.iconst (-1), 1) := by decide +kernel
theorem dX7_latest_71 : decode cX7_latest 71 = .ok (.ireturn, 1) := by decide +kernel
theorem dX7_story_0 : decode cX7_story 0 = .ok (.iload_n 1, 1) := by decide +kernel
theorem dX7_story_1 : decode cX7_story 1 = .ok (.invokestatic 220, 3) := by decide +kernel
theorem dX7_story_4 : decode cX7_story 4 = .ok (.ifCond .ne 6, 3) := by decide +kernel
