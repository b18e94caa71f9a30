theorem dX8_layKnows_21 : decode cX8_layKnows 21 = .ok (.bipush 10, 2) := by decide +kernel
theorem dX8_layKnows_23 : decode cX8_layKnows 23 = .ok (.goto 6, 3) := by decide +kernel
theorem dX8_layKnows_26 : decode cX8_layKnows 26 = .ok (.aload_n 1, 1) := by decide +kernel
theorem dX8_layKnows_27 : decode cX8_layKnows 27 = .ok (.iload_n 2, 1) := by decide +kernel
theorem dX8_layKnows_28 : decode cX8_layKnows 28 = .ok (.iaload, 1) := by decide +kernel
theorem dX8_layKnows_29 : decode cX8_layKnows 29 = .ok (.iastore, 1) := by decide +kernel
theorem dX8_layKnows_30 : decode cX8_layKnows 30 = .ok (.iinc 2 1, 3) := by decide +kernel
theorem dX8_layKnows_33 : decode cX8_layKnows 33 = .ok (.goto (-31), 3) := by decide +kernel
theorem dX8_layKnows_36 : decode cX8_layKnows 36 = .ok (.aload_n 0, 1) := by decide +kernel
theorem dX8_layKnows_37 : decode cX8_layKnows 37 = .ok (.iconst 0, 1) := by decide +kernel
theorem dX8_layKnows_38 : decode cX8_layKnows 38 = .ok (.invokevirtual 77, 3) := by decide +kernel
theorem dX8_layKnows_41 : decode cX8_layKnows 41 = .ok (.return_, 1) := by decide +kernel
theorem dX8_reckon_0 : decode cX8_reckon 0 = .ok (.aload_n 0, 1) := by decide +kernel
theorem dX8_reckon_1 : decode cX8_reckon 1 = .ok (.aload_n 0, 1) := by decide +kernel
theorem dX8_reckon_2 : decode cX8_reckon 2 = .ok (.getfield 16, 3) := by decide +kernel
theorem dX8_reckon_5 : decode cX8_reckon 5 = .ok (.invokevirtual 81, 3) := by decide +kernel
theorem dX8_reckon_8 : decode cX8_reckon 8 = .ok (.return_, 1) := by decide +kernel
theorem dX8_knowMany_0 : decode cX8_knowMany 0 = .ok (.aload_n 0, 1) := by decide +kernel
theorem dX8_knowMany_1 : decode cX8_knowMany 1 = .ok (.invokevirtual 85, 3) := by decide +kernel
theorem dX8_knowMany_4 : decode cX8_knowMany 4 = .ok (.iconst 0, 1) := by decide +kernel
theorem dX8_knowMany_5 : decode cX8_knowMany 5 = .ok (.istore_n 1, 1) := by decide +kernel
theorem dX8_knowMany_6 : decode cX8_knowMany 6 = .ok (.iconst 0, 1) := by decide +kernel
theorem dX8_knowMany_7 : decode cX8_knowMany 7 = .ok (.istore_n 2, 1) := by decide +kernel
theorem dX8_knowMany_8 : decode cX8_knowMany 8 = .ok (.iload_n 2, 1) := by decide +kernel
theorem dX8_knowMany_9 : decode cX8_knowMany 9 = .ok (.aload_n 0, 1) := by decide +kernel
theorem dX8_knowMany_10 : decode cX8_knowMany 10 = .ok (.getfield 62, 3) := by decide +kernel
theorem dX8_knowMany_13 : decode cX8_knowMany 13 = .ok (.if_icmp .ge 28, 3) := by decide +kernel
theorem dX8_knowMany_16 : decode cX8_knowMany 16 = .ok (.iload_n 1, 1) := by decide +kernel
theorem dX8_knowMany_17 : decode cX8_knowMany 17 = .ok (.aload_n 0, 1) := by decide +kernel
theorem dX8_knowMany_18 : decode cX8_knowMany 18 = .ok (.getfield 22, 3) := by decide +kernel
theorem dX8_knowMany_21 : decode cX8_knowMany 21 = .ok (.iload_n 2, 1) := by decide +kernel
theorem dX8_knowMany_22 : decode cX8_knowMany 22 = .ok (.iaload, 1) := by decide +kernel
theorem dX8_knowMany_23 : decode cX8_knowMany 23 = .ok (.bipush 10, 2) := by decide +kernel
theorem dX8_knowMany_25 : decode cX8_knowMany 25 = .ok (.if_icmp .ge 7, 3) := by decide +kernel
theorem dX8_knowMany_28 : decode cX8_knowMany 28 = .ok (.iconst 1, 1) := by decide +kernel
theorem dX8_knowMany_29 : decode cX8_knowMany 29 = .ok (.goto 4, 3) := by decide +kernel
theorem dX8_knowMany_32 : decode cX8_knowMany 32 = .ok (.iconst 0, 1) := by decide +kernel
theorem dX8_knowMany_33 : decode cX8_knowMany 33 = .ok (.iadd, 1) := by decide +kernel
theorem dX8_knowMany_34 : decode cX8_knowMany 34 = .ok (.istore_n 1, 1) := by decide +kernel
theorem dX8_knowMany_35 : decode cX8_knowMany 35 = .ok (.iinc 2 1, 3) := by decide +kernel
theorem dX8_knowMany_38 : decode cX8_knowMany 38 = .ok (.goto (-30), 3) := by decide +kernel
theorem dX8_knowMany_41 : decode cX8_knowMany 41 = .ok (.iload_n 1, 1) := by decide +kernel
theorem dX8_knowMany_42 : decode cX8_knowMany 42 = .ok (.ireturn, 1) := by decide +kernel
theorem dX8_tellGuest_0 : decode cX8_tellGuest 0 = .ok (.iload_n 2, 1) := by decide +kernel
theorem dX8_tellGuest_1 : decode cX8_tellGuest 1 = .ok (.tableswitch 78 0 3 #[31, 38, 45, 52], 31) := by decide +kernel
theorem dX8_tellGuest_32 : decode cX8_tellGuest 32 = .ok (.aload_n 0, 1) := by decide +kernel
theorem dX8_tellGuest_33 : decode cX8_tellGuest 33 = .ok (.getfield 7, 3) := by decide +kernel
theorem dX8_tellGuest_36 : decode cX8_tellGuest 36 = .ok (.iload_n 1, 1) := by decide +kernel
theorem dX8_tellGuest_37 : decode cX8_tellGuest 37 = .ok (.iaload, 1) := by decide +kernel
theorem dX8_tellGuest_38 : decode cX8_tellGuest 38 = .ok (.ireturn, 1) := by decide +kernel
theorem dX8_tellGuest_39 : decode cX8_tellGuest 39 = .ok (.aload_n 0, 1) := by decide +kernel
theorem dX8_tellGuest_40 : decode cX8_tellGuest 40 = .ok (.getfield 13, 3) := by decide +kernel
theorem dX8_tellGuest_43 : decode cX8_tellGuest 43 = .ok (.iload_n 1, 1) := by decide +kernel
theorem dX8_tellGuest_44 : decode cX8_tellGuest 44 = .ok (.iaload, 1) := by decide +kernel
theorem dX8_tellGuest_45 : decode cX8_tellGuest 45 = .ok (.ireturn, 1) := by decide +kernel
theorem dX8_tellGuest_46 : decode cX8_tellGuest 46 = .ok (.aload_n 0, 1) := by decide +kernel
theorem dX8_tellGuest_47 : decode cX8_tellGuest 47 = .ok (.getfield 16, 3) := by decide +kernel
theorem dX8_tellGuest_50 : decode cX8_tellGuest 50 = .ok (.iload_n 1, 1) := by decide +kernel
theorem dX8_tellGuest_51 : decode cX8_tellGuest 51 = .ok (.iaload, 1) := by decide +kernel
theorem dX8_tellGuest_52 : decode cX8_tellGuest 52 = .ok (.ireturn, 1) := by decide +kernel
theorem dX8_tellGuest_53 : decode cX8_tellGuest 53 = .ok (.aload_n 0, 1) := by decide +kernel
theorem dX8_tellGuest_54 : decode cX8_tellGuest 54 = .ok (.invokevirtual 85, 3) := by decide +kernel
theorem dX8_tellGuest_57 : decode cX8_tellGuest 57 = .ok (.aload_n 0, 1) := by decide +kernel
theorem dX8_tellGuest_58 : decode cX8_tellGuest 58 = .ok (.getfield 22, 3) := by decide +kernel
theorem dX8_tellGuest_61 : decode cX8_tellGuest 61 = .ok (.iload_n 1, 1) := by decide +kernel
theorem dX8_tellGuest_62 : decode cX8_tellGuest 62 = .ok (.iaload, 1) := by decide +kernel
theorem dX8_tellGuest_63 : decode cX8_tellGuest 63 = .ok (.bipush 10, 2) := by decide +kernel
theorem dX8_tellGuest_65 : decode cX8_tellGuest 65 = .ok (.if_icmp .ne 7, 3) := by decide +kernel
theorem dX8_tellGuest_68 : decode cX8_tellGuest 68 = .ok (.iconst (-1), 1) := by decide +kernel
theorem dX8_tellGuest_69 : decode cX8_tellGuest 69 = .ok (.goto 9, 3) := by decide +kernel
theorem dX8_tellGuest_72 : decode cX8_tellGuest 72 = .ok (.aload_n 0, 1) := by decide +kernel
theorem dX8_tellGuest_73 : decode cX8_tellGuest 73 = .ok (.getfield 22, 3) := by decide +kernel
theorem dX8_tellGuest_76 : decode cX8_tellGuest 76 = .ok (.iload_n 1, 1) := by decide +kernel
theorem dX8_tellGuest_77 : decode cX8_tellGuest 77 = .ok (.iaload, 1) := by decide +kernel
theorem dX8_tellGuest_78 : decode cX8_tellGuest 78 = .ok (.ireturn, 1) := by decide +kernel
theorem dX8_tellGuest_79 : decode cX8_tellGuest 79 = .ok (.bipush (-102), 2) := by decide +kernel
theorem dX8_tellGuest_81 : decode cX8_tellGuest 81 = .ok (.ireturn, 1) := by decide +kernel
theorem dX8_about_0 : decode cX8_about 0 = .ok (.aload_n 0, 1) := by decide +kernel
theorem dX8_about_1 : decode cX8_about 1 = .ok (.iload_n 1, 1) := by decide +kernel
theorem dX8_about_2 : decode cX8_about 2 = .ok (.invokevirtual 88, 3) := by decide +kernel
theorem dX8_about_5 : decode cX8_about 5 = .ok (.ifCond .eq 12, 3) := by decide +kernel
theorem dX8_about_8 : decode cX8_about 8 = .ok (.aload_n 0, 1) := by decide +kernel
theorem dX8_about_9 : decode cX8_about 9 = .ok (.iload_n 1, 1) := by decide +kernel
theorem dX8_about_10 : decode cX8_about 10 = .ok (.iload_n 2, 1) := by decide +kernel
theorem dX8_about_11 : decode cX8_about 11 = .ok (.invokevirtual 91, 3) := by decide +kernel
theorem dX8_about_14 : decode cX8_about 14 = .ok (.goto 5, 3) := by decide +kernel
theorem dX8_about_17 : decode cX8_about 17 = .ok (.bipush (-101), 2) := by decide +kernel
theorem dX8_about_19 : decode cX8_about 19 = .ok (.ireturn, 1) := by decide +kernel
theorem dX8_as_0 : decode cX8_as 0 = .ok (.aload_n 0, 1) := by decide +kernel
theorem dX8_as_1 : decode cX8_as 1 = .ok (.iload_n 1, 1) := by decide +kernel
theorem dX8_as_2 : decode cX8_as 2 = .ok (.invokevirtual 88, 3) := by decide +kernel
theorem dX8_as_5 : decode cX8_as 5 = .ok (.ifCond .ne 6, 3) := by decide +kernel
theorem dX8_as_8 : decode cX8_as 8 = .ok (.bipush (-101), 2) := by decide +kernel
theorem dX8_as_10 : decode cX8_as 10 = .ok (.ireturn, 1) := by decide +kernel
theorem dX8_as_11 : decode cX8_as 11 = .ok (.iload_n 2, 1) := by decide +kernel
theorem dX8_as_12 : decode cX8_as 12 = .ok (.i2l, 1) := by decide +kernel
theorem dX8_as_13 : decode cX8_as 13 = .ok (.lconst 0, 1) := by decide +kernel
theorem dX8_as_14 : decode cX8_as 14 = .ok (.ldc2_w 69, 3) := by decide +kernel
theorem dX8_as_17 : decode cX8_as 17 = .ok (.invokestatic 65, 3) := by decide +kernel
theorem dX8_as_20 : decode cX8_as 20 = .ok (.ifCond .ne 6, 3) := by decide +kernel
theorem dX8_as_23 : decode cX8_as 23 = .ok (.bipush (-102), 2) := by decide +kernel
theorem dX8_as_25 : decode cX8_as 25 = .ok (.ireturn, 1) := by decide +kernel
theorem dX8_as_26 : decode cX8_as 26 = .ok (.iload_n 2, 1) := by decide +kernel
theorem dX8_as_27 : decode cX8_as 27 = .ok (.ifCond .eq 28, 3) := by decide +kernel
theorem dX8_as_30 : decode cX8_as 30 = .ok (.iload_n 2, 1) := by decide +kernel
theorem dX8_as_31 : decode cX8_as 31 = .ok (.aload_n 0, 1) := by decide +kernel
theorem dX8_as_32 : decode cX8_as 32 = .ok (.getfield 7, 3) := by decide +kernel
theorem dX8_as_35 : decode cX8_as 35 = .ok (.iload_n 1, 1) := by decide +kernel
theorem dX8_as_36 : decode cX8_as 36 = .ok (.iaload, 1) := by decide +kernel
theorem dX8_as_37 : decode cX8_as 37 = .ok (.if_icmp .eq 18, 3) := by decide +kernel
theorem dX8_as_40 : decode cX8_as 40 = .ok (.iload_n 2, 1) := by decide +kernel
theorem dX8_as_41 : decode cX8_as 41 = .ok (.iconst 2, 1) := by decide +kernel
theorem dX8_as_42 : decode cX8_as 42 = .ok (.if_icmp .ne 17, 3) := by decide +kernel
theorem dX8_as_45 : decode cX8_as 45 = .ok (.aload_n 0, 1) := by decide +kernel
theorem dX8_as_46 : decode cX8_as 46 = .ok (.getfield 7, 3) := by decide +kernel
theorem dX8_as_49 : decode cX8_as 49 = .ok (.iload_n 1, 1) := by decide +kernel
theorem dX8_as_50 : decode cX8_as 50 = .ok (.iaload, 1) := by decide +kernel
theorem dX8_as_51 : decode cX8_as 51 = .ok (.iconst 4, 1) := by decide +kernel
theorem dX8_as_52 : decode cX8_as 52 = .ok (.if_icmp .ne 7, 3) := by decide +kernel
theorem dX8_as_55 : decode cX8_as 55 = .ok (.iconst 1, 1) := by decide +kernel
theorem dX8_as_56 : decode cX8_as 56 = .ok (.goto 4, 3) := by decide +kernel
theorem dX8_as_59 : decode cX8_as 59 = .ok (.iconst 0, 1) := by decide +kernel
theorem dX8_as_60 : decode cX8_as 60 = .ok (.istore_n 3, 1) := by decide +kernel
theorem dX8_as_61 : decode cX8_as 61 = .ok (.iload_n 3, 1) := by decide +kernel
theorem dX8_as_62 : decode cX8_as 62 = .ok (.ifCond .eq 7, 3) := by decide +kernel
theorem dX8_as_65 : decode cX8_as 65 = .ok (.iload_n 1, 1) := by decide +kernel
theorem dX8_as_66 : decode cX8_as 66 = .ok (.goto 4, 3) := by decide +kernel
theorem dX8_as_69 : decode cX8_as 69 = .ok (.iconst (-1), 1) := by decide +kernel
theorem dX8_as_70 : decode cX8_as 70 = .ok (.ireturn, 1) := by decide +kernel
theorem dX8_sees_0 : decode cX8_sees 0 = .ok (.aload_n 0, 1) := by decide +kernel
theorem dX8_sees_1 : decode cX8_sees 1 = .ok (.iload_n 1, 1) := by decide +kernel
theorem dX8_sees_2 : decode cX8_sees 2 = .ok (.invokevirtual 88, 3) := by decide +kernel
theorem dX8_sees_5 : decode cX8_sees 5 = .ok (.ifCond .eq 16, 3) := by decide +kernel
theorem dX8_sees_8 : decode cX8_sees 8 = .ok (.aload_n 0, 1) := by decide +kernel
theorem dX8_sees_9 : decode cX8_sees 9 = .ok (.iload_n 2, 1) := by decide +kernel
theorem dX8_sees_10 : decode cX8_sees 10 = .ok (.invokevirtual 88, 3) := by decide +kernel
theorem dX8_sees_13 : decode cX8_sees 13 = .ok (.ifCond .eq 8, 3) := by decide +kernel
theorem dX8_sees_16 : decode cX8_sees 16 = .ok (.iload_n 1, 1) := by decide +kernel
theorem dX8_sees_17 : decode cX8_sees 17 = .ok (.iload_n 2, 1) := by decide +kernel
theorem dX8_sees_18 : decode cX8_sees 18 = .ok (.if_icmp .ne 6, 3) := by decide +kernel
theorem dX8_sees_21 : decode cX8_sees 21 = .ok (.bipush (-101), 2) := by decide +kernel
theorem dX8_sees_23 : decode cX8_sees 23 = .ok (.ireturn, 1) := by decide +kernel
theorem dX8_sees_24 : decode cX8_sees 24 = .ok (.iload_n 3, 1) := by decide +kernel
theorem dX8_sees_25 : decode cX8_sees 25 = .ok (.i2l, 1) := by decide +kernel
theorem dX8_sees_26 : decode cX8_sees 26 = .ok (.lconst 1, 1) := by decide +kernel
theorem dX8_sees_27 : decode cX8_sees 27 = .ok (.ldc2_w 75, 3) := by decide +kernel
theorem dX8_sees_30 : decode cX8_sees 30 = .ok (.invokestatic 65, 3) := by decide +kernel
theorem dX8_sees_33 : decode cX8_sees 33 = .ok (.ifCond .ne 6, 3) := by decide +kernel
theorem dX8_sees_36 : decode cX8_sees 36 = .ok (.bipush (-102), 2) := by decide +kernel
theorem dX8_sees_38 : decode cX8_sees 38 = .ok (.ireturn, 1) := by decide +kernel
theorem dX8_sees_39 : decode cX8_sees 39 = .ok (.aload_n 0, 1) := by decide +kernel
theorem dX8_sees_40 : decode cX8_sees 40 = .ok (.getfield 19, 3) := by decide +kernel
theorem dX8_sees_43 : decode cX8_sees 43 = .ok (.bipush 9, 2) := by decide +kernel
theorem dX8_sees_45 : decode cX8_sees 45 = .ok (.iload_n 1, 1) := by decide +kernel
theorem dX8_sees_46 : decode cX8_sees 46 = .ok (.imul, 1) := by decide +kernel
theorem dX8_sees_47 : decode cX8_sees 47 = .ok (.iload_n 2, 1) := by decide +kernel
theorem dX8_sees_48 : decode cX8_sees 48 = .ok (.iadd, 1) := by decide +kernel
theorem dX8_sees_49 : decode cX8_sees 49 = .ok (.iaload, 1) := by decide +kernel
theorem dX8_sees_50 : decode cX8_sees 50 = .ok (.iload_n 3, 1) := by decide +kernel
theorem dX8_sees_51 : decode cX8_sees 51 = .ok (.ishr, 1) := by decide +kernel
theorem dX8_sees_52 : decode cX8_sees 52 = .ok (.iconst 1, 1) := by decide +kernel
theorem dX8_sees_53 : decode cX8_sees 53 = .ok (.iand, 1) := by decide +kernel
theorem dX8_sees_54 : decode cX8_sees 54 = .ok (.istore 5, 2) := by decide +kernel
theorem dX8_sees_56 : decode cX8_sees 56 = .ok (.iload 4, 2) := by decide +kernel
theorem dX8_sees_58 : decode cX8_sees 58 = .ok (.ifCond .eq 9, 3) := by decide +kernel
theorem dX8_sees_61 : decode cX8_sees 61 = .ok (.iconst 1, 1) := by decide +kernel
theorem dX8_sees_62 : decode cX8_sees 62 = .ok (.iload_n 3, 1) := by decide +kernel
theorem dX8_sees_63 : decode cX8_sees 63 = .ok (.ishl, 1) := by decide +kernel
theorem dX8_sees_64 : decode cX8_sees 64 = .ok (.goto 4, 3) := by decide +kernel
theorem dX8_sees_67 : decode cX8_sees 67 = .ok (.iconst 0, 1) := by decide +kernel
theorem dX8_sees_68 : decode cX8_sees 68 = .ok (.istore 6, 2) := by decide +kernel
theorem dX8_sees_70 : decode cX8_sees 70 = .ok (.aload_n 0, 1) := by decide +kernel
theorem dX8_sees_71 : decode cX8_sees 71 = .ok (.getfield 19, 3) := by decide +kernel
theorem dX8_sees_74 : decode cX8_sees 74 = .ok (.bipush 9, 2) := by decide +kernel
theorem dX8_sees_76 : decode cX8_sees 76 = .ok (.iload_n 1, 1) := by decide +kernel
theorem dX8_sees_77 : decode cX8_sees 77 = .ok (.imul, 1) := by decide +kernel
theorem dX8_sees_78 : decode cX8_sees 78 = .ok (.iload_n 2, 1) := by decide +kernel
theorem dX8_sees_79 : decode cX8_sees 79 = .ok (.iadd, 1) := by decide +kernel
theorem dX8_sees_80 : decode cX8_sees 80 = .ok (.aload_n 0, 1) := by decide +kernel
theorem dX8_sees_81 : decode cX8_sees 81 = .ok (.getfield 19, 3) := by decide +kernel
theorem dX8_sees_84 : decode cX8_sees 84 = .ok (.bipush 9, 2) := by decide +kernel
theorem dX8_sees_86 : decode cX8_sees 86 = .ok (.iload_n 1, 1) := by decide +kernel
theorem dX8_sees_87 : decode cX8_sees 87 = .ok (.imul, 1) := by decide +kernel
theorem dX8_sees_88 : decode cX8_sees 88 = .ok (.iload_n 2, 1) := by decide +kernel
theorem dX8_sees_89 : decode cX8_sees 89 = .ok (.iadd, 1) := by decide +kernel
theorem dX8_sees_90 : decode cX8_sees 90 = .ok (.iaload, 1) := by decide +kernel
theorem dX8_sees_91 : decode cX8_sees 91 = .ok (.iconst 1, 1) := by decide +kernel
theorem dX8_sees_92 : decode cX8_sees 92 = .ok (.iload_n 3, 1) := by decide +kernel
theorem dX8_sees_93 : decode cX8_sees 93 = .ok (.ishl, 1) := by decide +kernel
theorem dX8_sees_94 : decode cX8_sees 94 = .ok (.iconst (-1), 1) := by decide +kernel
theorem dX8_sees_95 : decode cX8_sees 95 = .ok (.ixor, 1) := by decide +kernel
theorem dX8_sees_96 : decode cX8_sees 96 = .ok (.iand, 1) := by decide +kernel
theorem dX8_sees_97 : decode cX8_sees 97 = .ok (.iload 6, 2) := by decide +kernel
theorem dX8_sees_99 : decode cX8_sees 99 = .ok (.ior, 1) := by decide +kernel
theorem dX8_sees_100 : decode cX8_sees 100 = .ok (.iastore, 1) := by decide +kernel
theorem dX8_sees_101 : decode cX8_sees 101 = .ok (.aload_n 0, 1) := by decide +kernel
theorem dX8_sees_102 : decode cX8_sees 102 = .ok (.getfield 19, 3) := by decide +kernel
theorem dX8_sees_105 : decode cX8_sees 105 = .ok (.bipush 9, 2) := by decide +kernel
theorem dX8_sees_107 : decode cX8_sees 107 = .ok (.iload_n 2, 1) := by decide +kernel
theorem dX8_sees_108 : decode cX8_sees 108 = .ok (.imul, 1) := by decide +kernel
theorem dX8_sees_109 : decode cX8_sees 109 = .ok (.iload_n 1, 1) := by decide +kernel
theorem dX8_sees_110 : decode cX8_sees 110 = .ok (.iadd, 1) := by decide +kernel
theorem dX8_sees_111 : decode cX8_sees 111 = .ok (.aload_n 0, 1) := by decide +kernel
theorem dX8_sees_112 : decode cX8_sees 112 = .ok (.getfield 19, 3) := by decide +kernel
theorem dX8_sees_115 : decode cX8_sees 115 = .ok (.bipush 9, 2) := by decide +kernel
theorem dX8_sees_117 : decode cX8_sees 117 = .ok (.iload_n 1, 1) := by decide +kernel
theorem dX8_sees_118 : decode cX8_sees 118 = .ok (.imul, 1) := by decide +kernel
theorem dX8_sees_119 : decode cX8_sees 119 = .ok (.iload_n 2, 1) := by decide +kernel
theorem dX8_sees_120 : decode cX8_sees 120 = .ok (.iadd, 1) := by decide +kernel
theorem dX8_sees_121 : decode cX8_sees 121 = .ok (.iaload, 1) := by decide +kernel
theorem dX8_sees_122 : decode cX8_sees 122 = .ok (.iastore, 1) := by decide +kernel
theorem dX8_sees_123 : decode cX8_sees 123 = .ok (.iload 5, 2) := by decide +kernel
theorem dX8_sees_125 : decode cX8_sees 125 = .ok (.ireturn, 1) := by decide +kernel
theorem dX8_tell_0 : decode cX8_tell 0 = .ok (.aload_n 0, 1) := by decide +kernel
theorem dX8_tell_1 : decode cX8_tell 1 = .ok (.iload_n 1, 1) := by decide +kernel
theorem dX8_tell_2 : decode cX8_tell 2 = .ok (.invokevirtual 88, 3) := by decide +kernel
theorem dX8_tell_5 : decode cX8_tell 5 = .ok (.ifCond .ne 6, 3) := by decide +kernel
theorem dX8_tell_8 : decode cX8_tell 8 = .ok (.bipush (-101), 2) := by decide +kernel
theorem dX8_tell_10 : decode cX8_tell 10 = .ok (.ireturn, 1) := by decide +kernel
theorem dX8_tell_11 : decode cX8_tell 11 = .ok (.iload_n 2, 1) := by decide +kernel
theorem dX8_tell_12 : decode cX8_tell 12 = .ok (.i2l, 1) := by decide +kernel
theorem dX8_tell_13 : decode cX8_tell 13 = .ok (.lconst 0, 1) := by decide +kernel
theorem dX8_tell_14 : decode cX8_tell 14 = .ok (.ldc2_w 75, 3) := by decide +kernel
theorem dX8_tell_17 : decode cX8_tell 17 = .ok (.invokestatic 65, 3) := by decide +kernel
theorem dX8_tell_20 : decode cX8_tell 20 = .ok (.ifCond .ne 6, 3) := by decide +kernel
theorem dX8_tell_23 : decode cX8_tell 23 = .ok (.bipush (-102), 2) := by decide +kernel
theorem dX8_tell_25 : decode cX8_tell 25 = .ok (.ireturn, 1) := by decide +kernel
theorem dX8_tell_26 : decode cX8_tell 26 = .ok (.aload_n 0, 1) := by decide +kernel
theorem dX8_tell_27 : decode cX8_tell 27 = .ok (.getfield 16, 3) := by decide +kernel
theorem dX8_tell_30 : decode cX8_tell 30 = .ok (.iload_n 1, 1) := by decide +kernel
theorem dX8_tell_31 : decode cX8_tell 31 = .ok (.iaload, 1) := by decide +kernel
theorem dX8_tell_32 : decode cX8_tell 32 = .ok (.istore_n 3, 1) := by decide +kernel
theorem dX8_tell_33 : decode cX8_tell 33 = .ok (.aload_n 0, 1) := by decide +kernel
theorem dX8_tell_34 : decode cX8_tell 34 = .ok (.getfield 16, 3) := by decide +kernel
theorem dX8_tell_37 : decode cX8_tell 37 = .ok (.iload_n 1, 1) := by decide +kernel
theorem dX8_tell_38 : decode cX8_tell 38 = .ok (.iload_n 2, 1) := by decide +kernel
theorem dX8_tell_39 : decode cX8_tell 39 = .ok (.iastore, 1) := by decide +kernel
theorem dX8_tell_40 : decode cX8_tell 40 = .ok (.iload_n 3, 1) := by decide +kernel
theorem dX8_tell_41 : decode cX8_tell 41 = .ok (.ireturn, 1) := by decide +kernel
theorem dX8_letters_0 : decode cX8_letters 0 = .ok (.iconst 0, 1) := by decide +kernel
theorem dX8_letters_1 : decode cX8_letters 1 = .ok (.istore_n 3, 1) := by decide +kernel
theorem dX8_letters_2 : decode cX8_letters 2 = .ok (.iconst 1, 1) := by decide +kernel
theorem dX8_letters_3 : decode cX8_letters 3 = .ok (.istore 4, 2) := by decide +kernel
theorem dX8_letters_5 : decode cX8_letters 5 = .ok (.lload_n 1, 1) := by decide +kernel
theorem dX8_letters_6 : decode cX8_letters 6 = .ok (.lstore 5, 2) := by decide +kernel
theorem dX8_letters_8 : decode cX8_letters 8 = .ok (.iconst 0, 1) := by decide +kernel
theorem dX8_letters_9 : decode cX8_letters 9 = .ok (.istore 7, 2) := by decide +kernel
theorem dX8_letters_11 : decode cX8_letters 11 = .ok (.iload 7, 2) := by decide +kernel
theorem dX8_letters_13 : decode cX8_letters 13 = .ok (.bipush 8, 2) := by decide +kernel
theorem dX8_letters_15 : decode cX8_letters 15 = .ok (.if_icmp .ge 68, 3) := by decide +kernel
theorem dX8_letters_18 : decode cX8_letters 18 = .ok (.lload 5, 2) := by decide +kernel
theorem dX8_letters_20 : decode cX8_letters 20 = .ok (.ldc2_w 95, 3) := by decide +kernel
theorem dX8_letters_23 : decode cX8_letters 23 = .ok (.land, 1) := by decide +kernel
theorem dX8_letters_24 : decode cX8_letters 24 = .ok (.l2i, 1) := by decide +kernel
theorem dX8_letters_25 : decode cX8_letters 25 = .ok (.istore 8, 2) := by decide +kernel
theorem dX8_letters_27 : decode cX8_letters 27 = .ok (.lload 5, 2) := by decide +kernel
theorem dX8_letters_29 : decode cX8_letters 29 = .ok (.bipush 8, 2) := by decide +kernel
theorem dX8_letters_31 : decode cX8_letters 31 = .ok (.lushr, 1) := by decide +kernel
theorem dX8_letters_32 : decode cX8_letters 32 = .ok (.lstore 5, 2) := by decide +kernel
theorem dX8_letters_34 : decode cX8_letters 34 = .ok (.iload 4, 2) := by decide +kernel
theorem dX8_letters_36 : decode cX8_letters 36 = .ok (.ifCond .eq 25, 3) := by decide +kernel
theorem dX8_letters_39 : decode cX8_letters 39 = .ok (.iload 8, 2) := by decide +kernel
theorem dX8_letters_41 : decode cX8_letters 41 = .ok (.bipush 126, 2) := by decide +kernel
theorem dX8_letters_43 : decode cX8_letters 43 = .ok (.if_icmp .gt 18, 3) := by decide +kernel
theorem dX8_letters_46 : decode cX8_letters 46 = .ok (.iload 8, 2) := by decide +kernel
theorem dX8_letters_48 : decode cX8_letters 48 = .ok (.ifCond .eq 9, 3) := by decide +kernel
theorem dX8_letters_51 : decode cX8_letters 51 = .ok (.iload_n 3, 1) := by decide +kernel
theorem dX8_letters_52 : decode cX8_letters 52 = .ok (.iload 7, 2) := by decide +kernel
theorem dX8_letters_54 : decode cX8_letters 54 = .ok (.if_icmp .ne 7, 3) := by decide +kernel
theorem dX8_letters_57 : decode cX8_letters 57 = .ok (.iconst 1, 1) := by decide +kernel
theorem dX8_letters_58 : decode cX8_letters 58 = .ok (.goto 4, 3) := by decide +kernel
theorem dX8_letters_61 : decode cX8_letters 61 = .ok (.iconst 0, 1) := by decide +kernel
theorem dX8_letters_62 : decode cX8_letters 62 = .ok (.istore 4, 2) := by decide +kernel
theorem dX8_letters_64 : decode cX8_letters 64 = .ok (.iload_n 3, 1) := by decide +kernel
theorem dX8_letters_65 : decode cX8_letters 65 = .ok (.iload 8, 2) := by decide +kernel
theorem dX8_letters_67 : decode cX8_letters 67 = .ok (.ifCond .le 7, 3) := by decide +kernel
theorem dX8_letters_70 : decode cX8_letters 70 = .ok (.iconst 1, 1) := by decide +kernel
theorem dX8_letters_71 : decode cX8_letters 71 = .ok (.goto 4, 3) := by decide +kernel
theorem dX8_letters_74 : decode cX8_letters 74 = .ok (.iconst 0, 1) := by decide +kernel
theorem dX8_letters_75 : decode cX8_letters 75 = .ok (.iadd, 1) := by decide +kernel
theorem dX8_letters_76 : decode cX8_letters 76 = .ok (.istore_n 3, 1) := by decide +kernel
theorem dX8_letters_77 : decode cX8_letters 77 = .ok (.iinc 7 1, 3) := by decide +kernel
theorem dX8_letters_80 : decode cX8_letters 80 = .ok (.goto (-69), 3) := by decide +kernel
theorem dX8_letters_83 : decode cX8_letters 83 = .ok (.iload 4, 2) := by decide +kernel
theorem dX8_letters_85 : decode cX8_letters 85 = .ok (.ifCond .ne 6, 3) := by decide +kernel
theorem dX8_letters_88 : decode cX8_letters 88 = .ok (.bipush (-102), 2) := by decide +kernel
theorem dX8_letters_90 : decode cX8_letters 90 = .ok (.ireturn, 1) := by decide +kernel
theorem dX8_letters_91 : decode cX8_letters 91 = .ok (.aload_n 0, 1) := by decide +kernel
theorem dX8_letters_92 : decode cX8_letters 92 = .ok (.getfield 97, 3) := by decide +kernel
theorem dX8_letters_95 : decode cX8_letters 95 = .ok (.iload_n 3, 1) := by decide +kernel
theorem dX8_letters_96 : decode cX8_letters 96 = .ok (.iadd, 1) := by decide +kernel
theorem dX8_letters_97 : decode cX8_letters 97 = .ok (.bipush 60, 2) := by decide +kernel
theorem dX8_letters_99 : decode cX8_letters 99 = .ok (.if_icmp .le 6, 3) := by decide +kernel
theorem dX8_letters_102 : decode cX8_letters 102 = .ok (.bipush (-104), 2) := by decide +kernel
theorem dX8_letters_104 : decode cX8_letters 104 = .ok (.ireturn, 1) := by decide +kernel
theorem dX8_letters_105 : decode cX8_letters 105 = .ok (.iconst 0, 1) := by decide +kernel
theorem dX8_letters_106 : decode cX8_letters 106 = .ok (.istore 7, 2) := by decide +kernel
theorem dX8_letters_108 : decode cX8_letters 108 = .ok (.iload 7, 2) := by decide +kernel
theorem dX8_letters_110 : decode cX8_letters 110 = .ok (.iload_n 3, 1) := by decide +kernel
theorem dX8_letters_111 : decode cX8_letters 111 = .ok (.if_icmp .ge 40, 3) := by decide +kernel
theorem dX8_letters_114 : decode cX8_letters 114 = .ok (.aload_n 0, 1) := by decide +kernel
theorem dX8_letters_115 : decode cX8_letters 115 = .ok (.getfield 25, 3) := by decide +kernel
theorem dX8_letters_118 : decode cX8_letters 118 = .ok (.aload_n 0, 1) := by decide +kernel
theorem dX8_letters_119 : decode cX8_letters 119 = .ok (.getfield 97, 3) := by decide +kernel
theorem dX8_letters_122 : decode cX8_letters 122 = .ok (.lload_n 1, 1) := by decide +kernel
theorem dX8_letters_123 : decode cX8_letters 123 = .ok (.bipush 8, 2) := by decide +kernel
theorem dX8_letters_125 : decode cX8_letters 125 = .ok (.iload 7, 2) := by decide +kernel
theorem dX8_letters_127 : decode cX8_letters 127 = .ok (.imul, 1) := by decide +kernel
theorem dX8_letters_128 : decode cX8_letters 128 = .ok (.lushr, 1) := by decide +kernel
theorem dX8_letters_129 : decode cX8_letters 129 = .ok (.ldc2_w 95, 3) := by decide +kernel
theorem dX8_letters_132 : decode cX8_letters 132 = .ok (.land, 1) := by decide +kernel
theorem dX8_letters_133 : decode cX8_letters 133 = .ok (.l2i, 1) := by decide +kernel
theorem dX8_letters_134 : decode cX8_letters 134 = .ok (.iastore, 1) := by decide +kernel
theorem dX8_letters_135 : decode cX8_letters 135 = .ok (.aload_n 0, 1) := by decide +kernel
theorem dX8_letters_136 : decode cX8_letters 136 = .ok (.dup, 1) := by decide +kernel
theorem dX8_letters_137 : decode cX8_letters 137 = .ok (.getfield 97, 3) := by decide +kernel
theorem dX8_letters_140 : decode cX8_letters 140 = .ok (.iconst 1, 1) := by decide +kernel
theorem dX8_letters_141 : decode cX8_letters 141 = .ok (.iadd, 1) := by decide +kernel
theorem dX8_letters_142 : decode cX8_letters 142 = .ok (.putfield 97, 3) := by decide +kernel
theorem dX8_letters_145 : decode cX8_letters 145 = .ok (.iinc 7 1, 3) := by decide +kernel
theorem dX8_letters_148 : decode cX8_letters 148 = .ok (.goto (-40), 3) := by decide +kernel
theorem dX8_letters_151 : decode cX8_letters 151 = .ok (.aload_n 0, 1) := by decide +kernel
theorem dX8_letters_152 : decode cX8_letters 152 = .ok (.getfield 97, 3) := by decide +kernel
theorem dX8_letters_155 : decode cX8_letters 155 = .ok (.ireturn, 1) := by decide +kernel
theorem dX8_blank_0 : decode cX8_blank 0 = .ok (.aload_n 0, 1) := by decide +kernel
theorem dX8_blank_1 : decode cX8_blank 1 = .ok (.getfield 97, 3) := by decide +kernel
theorem dX8_blank_4 : decode cX8_blank 4 = .ok (.istore_n 1, 1) := by decide +kernel
theorem dX8_blank_5 : decode cX8_blank 5 = .ok (.aload_n 0, 1) := by decide +kernel
theorem dX8_blank_6 : decode cX8_blank 6 = .ok (.iconst 0, 1) := by decide +kernel
theorem dX8_blank_7 : decode cX8_blank 7 = .ok (.putfield 97, 3) := by decide +kernel
theorem dX8_blank_10 : decode cX8_blank 10 = .ok (.iload_n 1, 1) := by decide +kernel
theorem dX8_blank_11 : decode cX8_blank 11 = .ok (.ireturn, 1) := by decide +kernel
theorem dX8_mayStand_0 : decode cX8_mayStand 0 = .ok (.aload_n 0, 1) := by decide +kernel
theorem dX8_mayStand_1 : decode cX8_mayStand 1 = .ok (.getfield 25, 3) := by decide +kernel
theorem dX8_mayStand_4 : decode cX8_mayStand 4 = .ok (.iload_n 1, 1) := by decide +kernel
theorem dX8_mayStand_5 : decode cX8_mayStand 5 = .ok (.iaload, 1) := by decide +kernel
theorem dX8_mayStand_6 : decode cX8_mayStand 6 = .ok (.bipush 48, 2) := by decide +kernel
theorem dX8_mayStand_8 : decode cX8_mayStand 8 = .ok (.isub, 1) := by decide +kernel
theorem dX8_mayStand_9 : decode cX8_mayStand 9 = .ok (.istore_n 2, 1) := by decide +kernel
theorem dX8_mayStand_10 : decode cX8_mayStand 10 = .ok (.iload_n 1, 1) := by decide +kernel
theorem dX8_mayStand_11 : decode cX8_mayStand 11 = .ok (.iconst 4, 1) := by decide +kernel
theorem dX8_mayStand_12 : decode cX8_mayStand 12 = .ok (.irem, 1) := by decide +kernel
theorem dX8_mayStand_13 : decode cX8_mayStand 13 = .ok (.tableswitch 53 0 2 #[27, 33, 43], 27) := by decide +kernel
theorem dX8_mayStand_40 : decode cX8_mayStand 40 = .ok (.aload_n 0, 1) := by decide +kernel
theorem dX8_mayStand_41 : decode cX8_mayStand 41 = .ok (.iload_n 2, 1) := by decide +kernel
theorem dX8_mayStand_42 : decode cX8_mayStand 42 = .ok (.invokevirtual 88, 3) := by decide +kernel
theorem dX8_mayStand_45 : decode cX8_mayStand 45 = .ok (.ireturn, 1) := by decide +kernel
theorem dX8_mayStand_46 : decode cX8_mayStand 46 = .ok (.iload_n 2, 1) := by decide +kernel
theorem dX8_mayStand_47 : decode cX8_mayStand 47 = .ok (.i2l, 1) := by decide +kernel
theorem dX8_mayStand_48 : decode cX8_mayStand 48 = .ok (.lconst 1, 1) := by decide +kernel
theorem dX8_mayStand_49 : decode cX8_mayStand 49 = .ok (.ldc2_w 75, 3) := by decide +kernel
theorem dX8_mayStand_52 : decode cX8_mayStand 52 = .ok (.invokestatic 65, 3) := by decide +kernel
theorem dX8_mayStand_55 : decode cX8_mayStand 55 = .ok (.ireturn, 1) := by decide +kernel
theorem dX8_mayStand_56 : decode cX8_mayStand 56 = .ok (.iload_n 2, 1) := by decide +kernel
theorem dX8_mayStand_57 : decode cX8_mayStand 57 = .ok (.i2l, 1) := by decide +kernel
theorem dX8_mayStand_58 : decode cX8_mayStand 58 = .ok (.lconst 1, 1) := by decide +kernel
theorem dX8_mayStand_59 : decode cX8_mayStand 59 = .ok (.ldc2_w 100, 3) := by decide +kernel
theorem dX8_mayStand_62 : decode cX8_mayStand 62 = .ok (.invokestatic 65, 3) := by decide +kernel
theorem dX8_mayStand_65 : decode cX8_mayStand 65 = .ok (.ireturn, 1) := by decide +kernel
theorem dX8_mayStand_66 : decode cX8_mayStand 66 = .ok (.aload_n 0, 1) := by decide +kernel
theorem dX8_mayStand_67 : decode cX8_mayStand 67 = .ok (.getfield 25, 3) := by decide +kernel
theorem dX8_mayStand_70 : decode cX8_mayStand 70 = .ok (.iload_n 1, 1) := by decide +kernel
theorem dX8_mayStand_71 : decode cX8_mayStand 71 = .ok (.iaload, 1) := by decide +kernel
theorem dX8_mayStand_72 : decode cX8_mayStand 72 = .ok (.bipush 44, 2) := by decide +kernel
theorem dX8_mayStand_74 : decode cX8_mayStand 74 = .ok (.if_icmp .ne 13, 3) := by decide +kernel
theorem dX8_mayStand_77 : decode cX8_mayStand 77 = .ok (.iload_n 1, 1) := by decide +kernel
theorem dX8_mayStand_78 : decode cX8_mayStand 78 = .ok (.bipush 56, 2) := by decide +kernel
theorem dX8_mayStand_80 : decode cX8_mayStand 80 = .ok (.if_icmp .ge 7, 3) := by decide +kernel
theorem dX8_mayStand_83 : decode cX8_mayStand 83 = .ok (.iconst 1, 1) := by decide +kernel
theorem dX8_mayStand_84 : decode cX8_mayStand 84 = .ok (.goto 4, 3) := by decide +kernel
theorem dX8_mayStand_87 : decode cX8_mayStand 87 = .ok (.iconst 0, 1) := by decide +kernel
theorem dX8_mayStand_88 : decode cX8_mayStand 88 = .ok (.ireturn, 1) := by decide +kernel
theorem dX8_faultOf_0 : decode cX8_faultOf 0 = .ok (.iconst 0, 1) := by decide +kernel
theorem dX8_faultOf_1 : decode cX8_faultOf 1 = .ok (.istore_n 1, 1) := by decide +kernel
theorem dX8_faultOf_2 : decode cX8_faultOf 2 = .ok (.iload_n 1, 1) := by decide +kernel
theorem dX8_faultOf_3 : decode cX8_faultOf 3 = .ok (.aload_n 0, 1) := by decide +kernel
theorem dX8_faultOf_4 : decode cX8_faultOf 4 = .ok (.getfield 97, 3) := by decide +kernel
theorem dX8_faultOf_7 : decode cX8_faultOf 7 = .ok (.if_icmp .ge 17, 3) := by decide +kernel
theorem dX8_faultOf_10 : decode cX8_faultOf 10 = .ok (.aload_n 0, 1) := by decide +kernel
theorem dX8_faultOf_11 : decode cX8_faultOf 11 = .ok (.iload_n 1, 1) := by decide +kernel
theorem dX8_faultOf_12 : decode cX8_faultOf 12 = .ok (.invokevirtual 102, 3) := by decide +kernel
theorem dX8_faultOf_15 : decode cX8_faultOf 15 = .ok (.ifCond .eq 9, 3) := by decide +kernel
theorem dX8_faultOf_18 : decode cX8_faultOf 18 = .ok (.iinc 1 1, 3) := by decide +kernel
theorem dX8_faultOf_21 : decode cX8_faultOf 21 = .ok (.goto (-19), 3) := by decide +kernel
theorem dX8_faultOf_24 : decode cX8_faultOf 24 = .ok (.iload_n 1, 1) := by decide +kernel
theorem dX8_faultOf_25 : decode cX8_faultOf 25 = .ok (.ireturn, 1) := by decide +kernel
theorem dX8_fault_0 : decode cX8_fault 0 = .ok (.aload_n 0, 1) := by decide +kernel
theorem dX8_fault_1 : decode cX8_fault 1 = .ok (.invokevirtual 105, 3) := by decide +kernel
theorem dX8_fault_4 : decode cX8_fault 4 = .ok (.ireturn, 1) := by decide +kernel
theorem dX8_list_0 : decode cX8_list 0 = .ok (.aload_n 0, 1) := by decide +kernel
theorem dX8_list_1 : decode cX8_list 1 = .ok (.invokevirtual 105, 3) := by decide +kernel
theorem dX8_list_4 : decode cX8_list 4 = .ok (.aload_n 0, 1) := by decide +kernel
theorem dX8_list_5 : decode cX8_list 5 = .ok (.getfield 97, 3) := by decide +kernel
theorem dX8_list_8 : decode cX8_list 8 = .ok (.if_icmp .lt 13, 3) := by decide +kernel
theorem dX8_list_11 : decode cX8_list 11 = .ok (.aload_n 0, 1) := by decide +kernel
theorem dX8_list_12 : decode cX8_list 12 = .ok (.getfield 97, 3) := by decide +kernel
theorem dX8_list_15 : decode cX8_list 15 = .ok (.iconst 4, 1) := by decide +kernel
theorem dX8_list_16 : decode cX8_list 16 = .ok (.irem, 1) := by decide +kernel
theorem dX8_list_17 : decode cX8_list 17 = .ok (.iconst 3, 1) := by decide +kernel
theorem dX8_list_18 : decode cX8_list 18 = .ok (.if_icmp .eq 6, 3) := by decide +kernel
theorem dX8_list_21 : decode cX8_list 21 = .ok (.bipush (-103), 2) := by decide +kernel
theorem dX8_list_23 : decode cX8_list 23 = .ok (.ireturn, 1) := by decide +kernel
theorem dX8_list_24 : decode cX8_list 24 = .ok (.aload_n 0, 1) := by decide +kernel
theorem dX8_list_25 : decode cX8_list 25 = .ok (.iconst 0, 1) := by decide +kernel
theorem dX8_list_26 : decode cX8_list 26 = .ok (.putfield 109, 3) := by decide +kernel
theorem dX8_list_29 : decode cX8_list 29 = .ok (.iconst 1, 1) := by decide +kernel
theorem dX8_list_30 : decode cX8_list 30 = .ok (.istore_n 1, 1) := by decide +kernel
theorem dX8_list_31 : decode cX8_list 31 = .ok (.iload_n 1, 1) := by decide +kernel
theorem dX8_list_32 : decode cX8_list 32 = .ok (.bipush 9, 2) := by decide +kernel
theorem dX8_list_34 : decode cX8_list 34 = .ok (.if_icmp .ge 108, 3) := by decide +kernel
theorem dX8_list_37 : decode cX8_list 37 = .ok (.iconst 0, 1) := by decide +kernel
theorem dX8_list_38 : decode cX8_list 38 = .ok (.istore_n 2, 1) := by decide +kernel
theorem dX8_list_39 : decode cX8_list 39 = .ok (.iload_n 2, 1) := by decide +kernel
theorem dX8_list_40 : decode cX8_list 40 = .ok (.aload_n 0, 1) := by decide +kernel
theorem dX8_list_41 : decode cX8_list 41 = .ok (.getfield 97, 3) := by decide +kernel
theorem dX8_list_44 : decode cX8_list 44 = .ok (.if_icmp .ge 92, 3) := by decide +kernel
theorem dX8_list_47 : decode cX8_list 47 = .ok (.aload_n 0, 1) := by decide +kernel
theorem dX8_list_48 : decode cX8_list 48 = .ok (.getfield 25, 3) := by decide +kernel
theorem dX8_list_51 : decode cX8_list 51 = .ok (.iload_n 2, 1) := by decide +kernel
theorem dX8_list_52 : decode cX8_list 52 = .ok (.iconst 1, 1) := by decide +kernel
theorem dX8_list_53 : decode cX8_list 53 = .ok (.iadd, 1) := by decide +kernel
theorem dX8_list_54 : decode cX8_list 54 = .ok (.iaload, 1) := by decide +kernel
theorem dX8_list_55 : decode cX8_list 55 = .ok (.bipush 48, 2) := by decide +kernel
theorem dX8_list_57 : decode cX8_list 57 = .ok (.isub, 1) := by decide +kernel
theorem dX8_list_58 : decode cX8_list 58 = .ok (.iload_n 1, 1) := by decide +kernel
theorem dX8_list_59 : decode cX8_list 59 = .ok (.if_icmp .ne 71, 3) := by decide +kernel
theorem dX8_list_62 : decode cX8_list 62 = .ok (.aload_n 0, 1) := by decide +kernel
theorem dX8_list_63 : decode cX8_list 63 = .ok (.getfield 28, 3) := by decide +kernel
theorem dX8_list_66 : decode cX8_list 66 = .ok (.iconst 3, 1) := by decide +kernel
theorem dX8_list_67 : decode cX8_list 67 = .ok (.aload_n 0, 1) := by decide +kernel
theorem dX8_list_68 : decode cX8_list 68 = .ok (.getfield 109, 3) := by decide +kernel
theorem dX8_list_71 : decode cX8_list 71 = .ok (.imul, 1) := by decide +kernel
theorem dX8_list_72 : decode cX8_list 72 = .ok (.aload_n 0, 1) := by decide +kernel
theorem dX8_list_73 : decode cX8_list 73 = .ok (.getfield 25, 3) := by decide +kernel
theorem dX8_list_76 : decode cX8_list 76 = .ok (.iload_n 2, 1) := by decide +kernel
theorem dX8_list_77 : decode cX8_list 77 = .ok (.iaload, 1) := by decide +kernel
theorem dX8_list_78 : decode cX8_list 78 = .ok (.bipush 48, 2) := by decide +kernel
theorem dX8_list_80 : decode cX8_list 80 = .ok (.isub, 1) := by decide +kernel
theorem dX8_list_81 : decode cX8_list 81 = .ok (.iastore, 1) := by decide +kernel
theorem dX8_list_82 : decode cX8_list 82 = .ok (.aload_n 0, 1) := by decide +kernel
theorem dX8_list_83 : decode cX8_list 83 = .ok (.getfield 28, 3) := by decide +kernel
theorem dX8_list_86 : decode cX8_list 86 = .ok (.iconst 3, 1) := by decide +kernel
theorem dX8_list_87 : decode cX8_list 87 = .ok (.aload_n 0, 1) := by decide +kernel
theorem dX8_list_88 : decode cX8_list 88 = .ok (.getfield 109, 3) := by decide +kernel
theorem dX8_list_91 : decode cX8_list 91 = .ok (.imul, 1) := by decide +kernel
theorem dX8_list_92 : decode cX8_list 92 = .ok (.iconst 1, 1) := by decide +kernel
theorem dX8_list_93 : decode cX8_list 93 = .ok (.iadd, 1) := by decide +kernel
theorem dX8_list_94 : decode cX8_list 94 = .ok (.iload_n 1, 1) := by decide +kernel
theorem dX8_list_95 : decode cX8_list 95 = .ok (.iastore, 1) := by decide +kernel
theorem dX8_list_96 : decode cX8_list 96 = .ok (.aload_n 0, 1) := by decide +kernel
theorem dX8_list_97 : decode cX8_list 97 = .ok (.getfield 28, 3) := by decide +kernel
theorem dX8_list_100 : decode cX8_list 100 = .ok (.iconst 3, 1) := by decide +kernel
theorem dX8_list_101 : decode cX8_list 101 = .ok (.aload_n 0, 1) := by decide +kernel
theorem dX8_list_102 : decode cX8_list 102 = .ok (.getfield 109, 3) := by decide +kernel
theorem dX8_list_105 : decode cX8_list 105 = .ok (.imul, 1) := by decide +kernel
theorem dX8_list_106 : decode cX8_list 106 = .ok (.iconst 2, 1) := by decide +kernel
theorem dX8_list_107 : decode cX8_list 107 = .ok (.iadd, 1) := by decide +kernel
theorem dX8_list_108 : decode cX8_list 108 = .ok (.aload_n 0, 1) := by decide +kernel
theorem dX8_list_109 : decode cX8_list 109 = .ok (.getfield 25, 3) := by decide +kernel
theorem dX8_list_112 : decode cX8_list 112 = .ok (.iload_n 2, 1) := by decide +kernel
theorem dX8_list_113 : decode cX8_list 113 = .ok (.iconst 2, 1) := by decide +kernel
theorem dX8_list_114 : decode cX8_list 114 = .ok (.iadd, 1) := by decide +kernel
theorem dX8_list_115 : decode cX8_list 115 = .ok (.iaload, 1) := by decide +kernel
theorem dX8_list_116 : decode cX8_list 116 = .ok (.bipush 48, 2) := by decide +kernel
theorem dX8_list_118 : decode cX8_list 118 = .ok (.isub, 1) := by decide +kernel
theorem dX8_list_119 : decode cX8_list 119 = .ok (.iastore, 1) := by decide +kernel
theorem dX8_list_120 : decode cX8_list 120 = .ok (.aload_n 0, 1) := by decide +kernel
theorem dX8_list_121 : decode cX8_list 121 = .ok (.dup, 1) := by decide +kernel
theorem dX8_list_122 : decode cX8_list 122 = .ok (.getfield 109, 3) := by decide +kernel
theorem dX8_list_125 : decode cX8_list 125 = .ok (.iconst 1, 1) := by decide +kernel
theorem dX8_list_126 : decode cX8_list 126 = .ok (.iadd, 1) := by decide +kernel
theorem dX8_list_127 : decode cX8_list 127 = .ok (.putfield 109, 3) := by decide +kernel
theorem dX8_list_130 : decode cX8_list 130 = .ok (.iinc 2 4, 3) := by decide +kernel
theorem dX8_list_133 : decode cX8_list 133 = .ok (.goto (-94), 3) := by decide +kernel
theorem dX8_list_136 : decode cX8_list 136 = .ok (.iinc 1 1, 3) := by decide +kernel
theorem dX8_list_139 : decode cX8_list 139 = .ok (.goto (-108), 3) := by decide +kernel
theorem dX8_list_142 : decode cX8_list 142 = .ok (.aload_n 0, 1) := by decide +kernel
theorem dX8_list_143 : decode cX8_list 143 = .ok (.dup, 1) := by decide +kernel
theorem dX8_list_144 : decode cX8_list 144 = .ok (.getfield 112, 3) := by decide +kernel
theorem dX8_list_147 : decode cX8_list 147 = .ok (.iconst 1, 1) := by decide +kernel
theorem dX8_list_148 : decode cX8_list 148 = .ok (.iadd, 1) := by decide +kernel
theorem dX8_list_149 : decode cX8_list 149 = .ok (.putfield 112, 3) := by decide +kernel
theorem dX8_list_152 : decode cX8_list 152 = .ok (.aload_n 0, 1) := by decide +kernel
theorem dX8_list_153 : decode cX8_list 153 = .ok (.iconst 0, 1) := by decide +kernel
theorem dX8_list_154 : decode cX8_list 154 = .ok (.putfield 97, 3) := by decide +kernel
theorem dX8_list_157 : decode cX8_list 157 = .ok (.aload_n 0, 1) := by decide +kernel
theorem dX8_list_158 : decode cX8_list 158 = .ok (.getfield 109, 3) := by decide +kernel
theorem dX8_list_161 : decode cX8_list 161 = .ok (.ireturn, 1) := by decide +kernel
theorem dX8_slips_0 : decode cX8_slips 0 = .ok (.aload_n 0, 1) := by decide +kernel
theorem dX8_slips_1 : decode cX8_slips 1 = .ok (.getfield 28, 3) := by decide +kernel
theorem dX8_slips_4 : decode cX8_slips 4 = .ok (.iconst 3, 1) := by decide +kernel
theorem dX8_slips_5 : decode cX8_slips 5 = .ok (.iload_n 1, 1) := by decide +kernel
theorem dX8_slips_6 : decode cX8_slips 6 = .ok (.imul, 1) := by decide +kernel
theorem dX8_slips_7 : decode cX8_slips 7 = .ok (.iaload, 1) := by decide +kernel
theorem dX8_slips_8 : decode cX8_slips 8 = .ok (.istore_n 2, 1) := by decide +kernel
theorem dX8_slips_9 : decode cX8_slips 9 = .ok (.aload_n 0, 1) := by decide +kernel
theorem dX8_slips_10 : decode cX8_slips 10 = .ok (.getfield 22, 3) := by decide +kernel
theorem dX8_slips_13 : decode cX8_slips 13 = .ok (.iload_n 2, 1) := by decide +kernel
theorem dX8_slips_14 : decode cX8_slips 14 = .ok (.iaload, 1) := by decide +kernel
theorem dX8_slips_15 : decode cX8_slips 15 = .ok (.aload_n 0, 1) := by decide +kernel
theorem dX8_slips_16 : decode cX8_slips 16 = .ok (.getfield 28, 3) := by decide +kernel
theorem dX8_slips_19 : decode cX8_slips 19 = .ok (.iconst 3, 1) := by decide +kernel
theorem dX8_slips_20 : decode cX8_slips 20 = .ok (.iload_n 1, 1) := by decide +kernel
theorem dX8_slips_21 : decode cX8_slips 21 = .ok (.imul, 1) := by decide +kernel
theorem dX8_slips_22 : decode cX8_slips 22 = .ok (.iconst 1, 1) := by decide +kernel
theorem dX8_slips_23 : decode cX8_slips 23 = .ok (.iadd, 1) := by decide +kernel
theorem dX8_slips_24 : decode cX8_slips 24 = .ok (.iaload, 1) := by decide +kernel
theorem dX8_slips_25 : decode cX8_slips 25 = .ok (.if_icmp .gt 16, 3) := by decide +kernel
theorem dX8_slips_28 : decode cX8_slips 28 = .ok (.aload_n 0, 1) := by decide +kernel
theorem dX8_slips_29 : decode cX8_slips 29 = .ok (.getfield 28, 3) := by decide +kernel
theorem dX8_slips_32 : decode cX8_slips 32 = .ok (.iconst 3, 1) := by decide +kernel
theorem dX8_slips_33 : decode cX8_slips 33 = .ok (.iload_n 1, 1) := by decide +kernel
theorem dX8_slips_34 : decode cX8_slips 34 = .ok (.imul, 1) := by decide +kernel
theorem dX8_slips_35 : decode cX8_slips 35 = .ok (.iconst 2, 1) := by decide +kernel
theorem dX8_slips_36 : decode cX8_slips 36 = .ok (.iadd, 1) := by decide +kernel
theorem dX8_slips_37 : decode cX8_slips 37 = .ok (.iaload, 1) := by decide +kernel
theorem dX8_slips_38 : decode cX8_slips 38 = .ok (.goto 4, 3) := by decide +kernel
theorem dX8_slips_41 : decode cX8_slips 41 = .ok (.iconst 0, 1) := by decide +kernel
theorem dX8_slips_42 : decode cX8_slips 42 = .ok (.istore_n 3, 1) := by decide +kernel
theorem dX8_slips_43 : decode cX8_slips 43 = .ok (.aload_n 0, 1) := by decide +kernel
theorem dX8_slips_44 : decode cX8_slips 44 = .ok (.getfield 7, 3) := by decide +kernel
theorem dX8_slips_47 : decode cX8_slips 47 = .ok (.iload_n 2, 1) := by decide +kernel
theorem dX8_slips_48 : decode cX8_slips 48 = .ok (.iaload, 1) := by decide +kernel
theorem dX8_slips_49 : decode cX8_slips 49 = .ok (.iconst 2, 1) := by decide +kernel
theorem dX8_slips_50 : decode cX8_slips 50 = .ok (.if_icmp .le 9, 3) := by decide +kernel
theorem dX8_slips_53 : decode cX8_slips 53 = .ok (.iload_n 3, 1) := by decide +kernel
theorem dX8_slips_54 : decode cX8_slips 54 = .ok (.iconst 2, 1) := by decide +kernel
theorem dX8_slips_55 : decode cX8_slips 55 = .ok (.idiv, 1) := by decide +kernel
theorem dX8_slips_56 : decode cX8_slips 56 = .ok (.goto 4, 3) := by decide +kernel
theorem dX8_slips_59 : decode cX8_slips 59 = .ok (.iload_n 3, 1) := by decide +kernel
theorem dX8_slips_60 : decode cX8_slips 60 = .ok (.ireturn, 1) := by decide +kernel
theorem dX8_tellMeeting_0 : decode cX8_tellMeeting 0 = .ok (.aload_n 0, 1) := by decide +kernel
theorem dX8_tellMeeting_1 : decode cX8_tellMeeting 1 = .ok (.invokevirtual 85, 3) := by decide +kernel
theorem dX8_tellMeeting_4 : decode cX8_tellMeeting 4 = .ok (.iload_n 2, 1) := by decide +kernel
theorem dX8_tellMeeting_5 : decode cX8_tellMeeting 5 = .ok (.iconst 3, 1) := by decide +kernel
theorem dX8_tellMeeting_6 : decode cX8_tellMeeting 6 = .ok (.if_icmp .ne 11, 3) := by decide +kernel
theorem dX8_tellMeeting_9 : decode cX8_tellMeeting 9 = .ok (.aload_n 0, 1) := by decide +kernel
theorem dX8_tellMeeting_10 : decode cX8_tellMeeting 10 = .ok (.iload_n 1, 1) := by decide +kernel
theorem dX8_tellMeeting_11 : decode cX8_tellMeeting 11 = .ok (.invokevirtual 115, 3) := by decide +kernel
theorem dX8_tellMeeting_14 : decode cX8_tellMeeting 14 = .ok (.goto 30, 3) := by decide +kernel
theorem dX8_tellMeeting_17 : decode cX8_tellMeeting 17 = .ok (.iload_n 2, 1) := by decide +kernel
theorem dX8_tellMeeting_18 : decode cX8_tellMeeting 18 = .ok (.i2l, 1) := by decide +kernel
theorem dX8_tellMeeting_19 : decode cX8_tellMeeting 19 = .ok (.lconst 0, 1) := by decide +kernel
theorem dX8_tellMeeting_20 : decode cX8_tellMeeting 20 = .ok (.ldc2_w 119, 3) := by decide +kernel
theorem dX8_tellMeeting_23 : decode cX8_tellMeeting 23 = .ok (.invokestatic 65, 3) := by decide +kernel
theorem dX8_tellMeeting_26 : decode cX8_tellMeeting 26 = .ok (.ifCond .eq 16, 3) := by decide +kernel
theorem dX8_tellMeeting_29 : decode cX8_tellMeeting 29 = .ok (.aload_n 0, 1) := by decide +kernel
theorem dX8_tellMeeting_30 : decode cX8_tellMeeting 30 = .ok (.getfield 28, 3) := by decide +kernel
theorem dX8_tellMeeting_33 : decode cX8_tellMeeting 33 = .ok (.iconst 3, 1) := by decide +kernel
theorem dX8_tellMeeting_34 : decode cX8_tellMeeting 34 = .ok (.iload_n 1, 1) := by decide +kernel
theorem dX8_tellMeeting_35 : decode cX8_tellMeeting 35 = .ok (.imul, 1) := by decide +kernel
theorem dX8_tellMeeting_36 : decode cX8_tellMeeting 36 = .ok (.iload_n 2, 1) := by decide +kernel
theorem dX8_tellMeeting_37 : decode cX8_tellMeeting 37 = .ok (.iadd, 1) := by decide +kernel
theorem dX8_tellMeeting_38 : decode cX8_tellMeeting 38 = .ok (.iaload, 1) := by decide +kernel
theorem dX8_tellMeeting_39 : decode cX8_tellMeeting 39 = .ok (.goto 5, 3) := by decide +kernel
theorem dX8_tellMeeting_42 : decode cX8_tellMeeting 42 = .ok (.bipush (-102), 2) := by decide +kernel
theorem dX8_tellMeeting_44 : decode cX8_tellMeeting 44 = .ok (.ireturn, 1) := by decide +kernel
theorem dX8_meeting_0 : decode cX8_meeting 0 = .ok (.iload_n 1, 1) := by decide +kernel
theorem dX8_meeting_1 : decode cX8_meeting 1 = .ok (.i2l, 1) := by decide +kernel
theorem dX8_meeting_2 : decode cX8_meeting 2 = .ok (.lconst 0, 1) := by decide +kernel
theorem dX8_meeting_3 : decode cX8_meeting 3 = .ok (.aload_n 0, 1) := by decide +kernel
theorem dX8_meeting_4 : decode cX8_meeting 4 = .ok (.getfield 109, 3) := by decide +kernel
theorem dX8_meeting_7 : decode cX8_meeting 7 = .ok (.iconst 1, 1) := by decide +kernel
theorem dX8_meeting_8 : decode cX8_meeting 8 = .ok (.isub, 1) := by decide +kernel
theorem dX8_meeting_9 : decode cX8_meeting 9 = .ok (.i2l, 1) := by decide +kernel
theorem dX8_meeting_10 : decode cX8_meeting 10 = .ok (.invokestatic 65, 3) := by decide +kernel
theorem dX8_meeting_13 : decode cX8_meeting 13 = .ok (.ifCond .eq 12, 3) := by decide +kernel
theorem dX8_meeting_16 : decode cX8_meeting 16 = .ok (.aload_n 0, 1) := by decide +kernel
theorem dX8_meeting_17 : decode cX8_meeting 17 = .ok (.iload_n 1, 1) := by decide +kernel
theorem dX8_meeting_18 : decode cX8_meeting 18 = .ok (.iload_n 2, 1) := by decide +kernel
theorem dX8_meeting_19 : decode cX8_meeting 19 = .ok (.invokevirtual 121, 3) := by decide +kernel
theorem dX8_meeting_22 : decode cX8_meeting 22 = .ok (.goto 5, 3) := by decide +kernel
theorem dX8_meeting_25 : decode cX8_meeting 25 = .ok (.bipush (-101), 2) := by decide +kernel
theorem dX8_meeting_27 : decode cX8_meeting 27 = .ok (.ireturn, 1) := by decide +kernel
theorem dX8_whole_0 : decode cX8_whole 0 = .ok (.lconst 1, 1) := by decide +kernel
theorem dX8_whole_1 : decode cX8_whole 1 = .ok (.lstore_n 1, 1) := by decide +kernel
theorem dX8_whole_2 : decode cX8_whole 2 = .ok (.iconst 0, 1) := by decide +kernel
theorem dX8_whole_3 : decode cX8_whole 3 = .ok (.istore_n 3, 1) := by decide +kernel
theorem dX8_whole_4 : decode cX8_whole 4 = .ok (.iload_n 3, 1) := by decide +kernel
theorem dX8_whole_5 : decode cX8_whole 5 = .ok (.aload_n 0, 1) := by decide +kernel
theorem dX8_whole_6 : decode cX8_whole 6 = .ok (.getfield 109, 3) := by decide +kernel
theorem dX8_whole_9 : decode cX8_whole 9 = .ok (.if_icmp .ge 15, 3) := by decide +kernel
theorem dX8_whole_12 : decode cX8_whole 12 = .ok (.lload_n 1, 1) := by decide +kernel
theorem dX8_whole_13 : decode cX8_whole 13 = .ok (.ldc2_w 124, 3) := by decide +kernel
theorem dX8_whole_16 : decode cX8_whole 16 = .ok (.lmul, 1) := by decide +kernel
theorem dX8_whole_17 : decode cX8_whole 17 = .ok (.lstore_n 1, 1) := by decide +kernel
theorem dX8_whole_18 : decode cX8_whole 18 = .ok (.iinc 3 1, 3) := by decide +kernel
theorem dX8_whole_21 : decode cX8_whole 21 = .ok (.goto (-17), 3) := by decide +kernel
theorem dX8_whole_24 : decode cX8_whole 24 = .ok (.lload_n 1, 1) := by decide +kernel
theorem dX8_whole_25 : decode cX8_whole 25 = .ok (.lreturn, 1) := by decide +kernel
theorem dX8_silent_0 : decode cX8_silent 0 = .ok (.lconst 1, 1) := by decide +kernel
theorem dX8_silent_1 : decode cX8_silent 1 = .ok (.lstore_n 1, 1) := by decide +kernel
theorem dX8_silent_2 : decode cX8_silent 2 = .ok (.iconst 0, 1) := by decide +kernel
theorem dX8_silent_3 : decode cX8_silent 3 = .ok (.istore_n 3, 1) := by decide +kernel
theorem dX8_silent_4 : decode cX8_silent 4 = .ok (.iload_n 3, 1) := by decide +kernel
theorem dX8_silent_5 : decode cX8_silent 5 = .ok (.aload_n 0, 1) := by decide +kernel
theorem dX8_silent_6 : decode cX8_silent 6 = .ok (.getfield 109, 3) := by decide +kernel
theorem dX8_silent_9 : decode cX8_silent 9 = .ok (.if_icmp .ge 21, 3) := by decide +kernel
theorem dX8_silent_12 : decode cX8_silent 12 = .ok (.lload_n 1, 1) := by decide +kernel
theorem dX8_silent_13 : decode cX8_silent 13 = .ok (.bipush 10, 2) := by decide +kernel
theorem dX8_silent_15 : decode cX8_silent 15 = .ok (.aload_n 0, 1) := by decide +kernel
theorem dX8_silent_16 : decode cX8_silent 16 = .ok (.iload_n 3, 1) := by decide +kernel
theorem dX8_silent_17 : decode cX8_silent 17 = .ok (.invokevirtual 115, 3) := by decide +kernel
theorem dX8_silent_20 : decode cX8_silent 20 = .ok (.isub, 1) := by decide +kernel
theorem dX8_silent_21 : decode cX8_silent 21 = .ok (.i2l, 1) := by decide +kernel
theorem dX8_silent_22 : decode cX8_silent 22 = .ok (.lmul, 1) := by decide +kernel
theorem dX8_silent_23 : decode cX8_silent 23 = .ok (.lstore_n 1, 1) := by decide +kernel
theorem dX8_silent_24 : decode cX8_silent 24 = .ok (.iinc 3 1, 3) := by decide +kernel
theorem dX8_silent_27 : decode cX8_silent 27 = .ok (.goto (-23), 3) := by decide +kernel
theorem dX8_silent_30 : decode cX8_silent 30 = .ok (.lload_n 1, 1) := by decide +kernel
theorem dX8_silent_31 : decode cX8_silent 31 = .ok (.lreturn, 1) := by decide +kernel
theorem dX8_term_0 : decode cX8_term 0 = .ok (.lload_n 0, 1) := by decide +kernel
theorem dX8_term_1 : decode cX8_term 1 = .ok (.lstore 5, 2) := by decide +kernel
theorem dX8_term_3 : decode cX8_term 3 = .ok (.lload_n 2, 1) := by decide +kernel
theorem dX8_term_4 : decode cX8_term 4 = .ok (.lstore 7, 2) := by decide +kernel
theorem dX8_term_6 : decode cX8_term 6 = .ok (.lload 5, 2) := by decide +kernel
theorem dX8_term_8 : decode cX8_term 8 = .ok (.lconst 0, 1) := by decide +kernel
theorem dX8_term_9 : decode cX8_term 9 = .ok (.lcmp, 1) := by decide +kernel
theorem dX8_term_10 : decode cX8_term 10 = .ok (.ifCond .eq 21, 3) := by decide +kernel
theorem dX8_term_13 : decode cX8_term 13 = .ok (.lload 7, 2) := by decide +kernel
theorem dX8_term_15 : decode cX8_term 15 = .ok (.lload 5, 2) := by decide +kernel
theorem dX8_term_17 : decode cX8_term 17 = .ok (.lrem, 1) := by decide +kernel
theorem dX8_term_18 : decode cX8_term 18 = .ok (.lstore 9, 2) := by decide +kernel
theorem dX8_term_20 : decode cX8_term 20 = .ok (.lload 5, 2) := by decide +kernel
theorem dX8_term_22 : decode cX8_term 22 = .ok (.lstore 7, 2) := by decide +kernel
theorem dX8_term_24 : decode cX8_term 24 = .ok (.lload 9, 2) := by decide +kernel
theorem dX8_term_26 : decode cX8_term 26 = .ok (.lstore 5, 2) := by decide +kernel
theorem dX8_term_28 : decode cX8_term 28 = .ok (.goto (-22), 3) := by decide +kernel
theorem dX8_term_31 : decode cX8_term 31 = .ok (.iload 4, 2) := by decide +kernel
theorem dX8_term_33 : decode cX8_term 33 = .ok (.ifCond .ne 10, 3) := by decide +kernel
theorem dX8_term_36 : decode cX8_term 36 = .ok (.lload_n 0, 1) := by decide +kernel
theorem dX8_term_37 : decode cX8_term 37 = .ok (.lload 7, 2) := by decide +kernel
theorem dX8_term_39 : decode cX8_term 39 = .ok (.ldiv, 1) := by decide +kernel
theorem dX8_term_40 : decode cX8_term 40 = .ok (.goto 7, 3) := by decide +kernel
theorem dX8_term_43 : decode cX8_term 43 = .ok (.lload_n 2, 1) := by decide +kernel
theorem dX8_term_44 : decode cX8_term 44 = .ok (.lload 7, 2) := by decide +kernel
theorem dX8_term_46 : decode cX8_term 46 = .ok (.ldiv, 1) := by decide +kernel
theorem dX8_term_47 : decode cX8_term 47 = .ok (.lreturn, 1) := by decide +kernel
theorem dX8_isPart_0 : decode cX8_isPart 0 = .ok (.iload_n 0, 1) := by decide +kernel
theorem dX8_isPart_1 : decode cX8_isPart 1 = .ok (.i2l, 1) := by decide +kernel
theorem dX8_isPart_2 : decode cX8_isPart 2 = .ok (.lconst 0, 1) := by decide +kernel
theorem dX8_isPart_3 : decode cX8_isPart 3 = .ok (.lconst 1, 1) := by decide +kernel
theorem dX8_isPart_4 : decode cX8_isPart 4 = .ok (.invokestatic 65, 3) := by decide +kernel
theorem dX8_isPart_7 : decode cX8_isPart 7 = .ok (.ireturn, 1) := by decide +kernel
theorem dX8_tellKnown_0 : decode cX8_tellKnown 0 = .ok (.aload_n 0, 1) := by decide +kernel
theorem dX8_tellKnown_1 : decode cX8_tellKnown 1 = .ok (.invokevirtual 85, 3) := by decide +kernel
theorem dX8_tellKnown_4 : decode cX8_tellKnown 4 = .ok (.aload_n 0, 1) := by decide +kernel
theorem dX8_tellKnown_5 : decode cX8_tellKnown 5 = .ok (.invokevirtual 126, 3) := by decide +kernel
theorem dX8_tellKnown_8 : decode cX8_tellKnown 8 = .ok (.aload_n 0, 1) := by decide +kernel
theorem dX8_tellKnown_9 : decode cX8_tellKnown 9 = .ok (.invokevirtual 130, 3) := by decide +kernel
theorem dX8_tellKnown_12 : decode cX8_tellKnown 12 = .ok (.lsub, 1) := by decide +kernel
theorem dX8_tellKnown_13 : decode cX8_tellKnown 13 = .ok (.aload_n 0, 1) := by decide +kernel
theorem dX8_tellKnown_14 : decode cX8_tellKnown 14 = .ok (.invokevirtual 126, 3) := by decide +kernel
theorem dX8_tellKnown_17 : decode cX8_tellKnown 17 = .ok (.iload_n 1, 1) := by decide +kernel
theorem dX8_tellKnown_18 : decode cX8_tellKnown 18 = .ok (.invokestatic 133, 3) := by decide +kernel
theorem dX8_tellKnown_21 : decode cX8_tellKnown 21 = .ok (.lreturn, 1) := by decide +kernel
theorem dX8_known_0 : decode cX8_known 0 = .ok (.iload_n 1, 1) := by decide +kernel
theorem dX8_known_1 : decode cX8_known 1 = .ok (.invokestatic 137, 3) := by decide +kernel
theorem dX8_known_4 : decode cX8_known 4 = .ok (.ifCond .eq 11, 3) := by decide +kernel
theorem dX8_known_7 : decode cX8_known 7 = .ok (.aload_n 0, 1) := by decide +kernel
theorem dX8_known_8 : decode cX8_known 8 = .ok (.iload_n 1, 1) := by decide +kernel
theorem dX8_known_9 : decode cX8_known 9 = .ok (.invokevirtual 140, 3) := by decide +kernel
theorem dX8_known_12 : decode cX8_known 12 = .ok (.goto 6, 3) := by decide +kernel
theorem dX8_known_15 : decode cX8_known 15 = .ok (.ldc2_w 144, 3) := by decide +kernel
theorem dX8_known_18 : decode cX8_known 18 = .ok (.lreturn, 1) := by decide +kernel
theorem dX8_firstOf_0 : decode cX8_firstOf 0 = .ok (.lconst 0, 1) := by decide +kernel
theorem dX8_firstOf_1 : decode cX8_firstOf 1 = .ok (.lstore_n 2, 1) := by decide +kernel
theorem dX8_firstOf_2 : decode cX8_firstOf 2 = .ok (.iconst 0, 1) := by decide +kernel
theorem dX8_firstOf_3 : decode cX8_firstOf 3 = .ok (.istore 4, 2) := by decide +kernel
theorem dX8_firstOf_5 : decode cX8_firstOf 5 = .ok (.iload 4, 2) := by decide +kernel
theorem dX8_firstOf_7 : decode cX8_firstOf 7 = .ok (.aload_n 0, 1) := by decide +kernel
theorem dX8_firstOf_8 : decode cX8_firstOf 8 = .ok (.getfield 109, 3) := by decide +kernel
theorem dX8_firstOf_11 : decode cX8_firstOf 11 = .ok (.if_icmp .ge 93, 3) := by decide +kernel
theorem dX8_firstOf_14 : decode cX8_firstOf 14 = .ok (.aload_n 0, 1) := by decide +kernel
theorem dX8_firstOf_15 : decode cX8_firstOf 15 = .ok (.getfield 28, 3) := by decide +kernel
theorem dX8_firstOf_18 : decode cX8_firstOf 18 = .ok (.iconst 3, 1) := by decide +kernel
theorem dX8_firstOf_19 : decode cX8_firstOf 19 = .ok (.iload 4, 2) := by decide +kernel
theorem dX8_firstOf_21 : decode cX8_firstOf 21 = .ok (.imul, 1) := by decide +kernel
theorem dX8_firstOf_22 : decode cX8_firstOf 22 = .ok (.iaload, 1) := by decide +kernel
theorem dX8_firstOf_23 : decode cX8_firstOf 23 = .ok (.iload_n 1, 1) := by decide +kernel
theorem dX8_firstOf_24 : decode cX8_firstOf 24 = .ok (.if_icmp .ne 74, 3) := by decide +kernel
theorem dX8_firstOf_27 : decode cX8_firstOf 27 = .ok (.lconst 1, 1) := by decide +kernel
theorem dX8_firstOf_28 : decode cX8_firstOf 28 = .ok (.lstore 5, 2) := by decide +kernel
theorem dX8_firstOf_30 : decode cX8_firstOf 30 = .ok (.iconst 0, 1) := by decide +kernel
theorem dX8_firstOf_31 : decode cX8_firstOf 31 = .ok (.istore 7, 2) := by decide +kernel
theorem dX8_firstOf_33 : decode cX8_firstOf 33 = .ok (.iload 7, 2) := by decide +kernel
theorem dX8_firstOf_35 : decode cX8_firstOf 35 = .ok (.aload_n 0, 1) := by decide +kernel
theorem dX8_firstOf_36 : decode cX8_firstOf 36 = .ok (.getfield 109, 3) := by decide +kernel
theorem dX8_firstOf_39 : decode cX8_firstOf 39 = .ok (.if_icmp .ge 54, 3) := by decide +kernel
theorem dX8_firstOf_42 : decode cX8_firstOf 42 = .ok (.lload 5, 2) := by decide +kernel
theorem dX8_firstOf_44 : decode cX8_firstOf 44 = .ok (.iload 7, 2) := by decide +kernel
theorem dX8_firstOf_46 : decode cX8_firstOf 46 = .ok (.iload 4, 2) := by decide +kernel
theorem dX8_firstOf_48 : decode cX8_firstOf 48 = .ok (.if_icmp .ge 16, 3) := by decide +kernel
theorem dX8_firstOf_51 : decode cX8_firstOf 51 = .ok (.bipush 10, 2) := by decide +kernel
theorem dX8_firstOf_53 : decode cX8_firstOf 53 = .ok (.aload_n 0, 1) := by decide +kernel
theorem dX8_firstOf_54 : decode cX8_firstOf 54 = .ok (.iload 7, 2) := by decide +kernel
theorem dX8_firstOf_56 : decode cX8_firstOf 56 = .ok (.invokevirtual 115, 3) := by decide +kernel
theorem dX8_firstOf_59 : decode cX8_firstOf 59 = .ok (.isub, 1) := by decide +kernel
theorem dX8_firstOf_60 : decode cX8_firstOf 60 = .ok (.i2l, 1) := by decide +kernel
theorem dX8_firstOf_61 : decode cX8_firstOf 61 = .ok (.goto 23, 3) := by decide +kernel
theorem dX8_firstOf_64 : decode cX8_firstOf 64 = .ok (.iload 7, 2) := by decide +kernel
theorem dX8_firstOf_66 : decode cX8_firstOf 66 = .ok (.iload 4, 2) := by decide +kernel
theorem dX8_firstOf_68 : decode cX8_firstOf 68 = .ok (.if_icmp .ne 13, 3) := by decide +kernel
theorem dX8_firstOf_71 : decode cX8_firstOf 71 = .ok (.aload_n 0, 1) := by decide +kernel
theorem dX8_firstOf_72 : decode cX8_firstOf 72 = .ok (.iload 7, 2) := by decide +kernel
theorem dX8_firstOf_74 : decode cX8_firstOf 74 = .ok (.invokevirtual 115, 3) := by decide +kernel
theorem dX8_firstOf_77 : decode cX8_firstOf 77 = .ok (.i2l, 1) := by decide +kernel
theorem dX8_firstOf_78 : decode cX8_firstOf 78 = .ok (.goto 6, 3) := by decide +kernel
theorem dX8_firstOf_81 : decode cX8_firstOf 81 = .ok (.ldc2_w 124, 3) := by decide +kernel
theorem dX8_firstOf_84 : decode cX8_firstOf 84 = .ok (.lmul, 1) := by decide +kernel
theorem dX8_firstOf_85 : decode cX8_firstOf 85 = .ok (.lstore 5, 2) := by decide +kernel
theorem dX8_firstOf_87 : decode cX8_firstOf 87 = .ok (.iinc 7 1, 3) := by decide +kernel
theorem dX8_firstOf_90 : decode cX8_firstOf 90 = .ok (.goto (-57), 3) := by decide +kernel
theorem dX8_firstOf_93 : decode cX8_firstOf 93 = .ok (.lload_n 2, 1) := by decide +kernel
theorem dX8_firstOf_94 : decode cX8_firstOf 94 = .ok (.lload 5, 2) := by decide +kernel
theorem dX8_firstOf_96 : decode cX8_firstOf 96 = .ok (.ladd, 1) := by decide +kernel
theorem dX8_firstOf_97 : decode cX8_firstOf 97 = .ok (.lstore_n 2, 1) := by decide +kernel
theorem dX8_firstOf_98 : decode cX8_firstOf 98 = .ok (.iinc 4 1, 3) := by decide +kernel
theorem dX8_firstOf_101 : decode cX8_firstOf 101 = .ok (.goto (-96), 3) := by decide +kernel
theorem dX8_firstOf_104 : decode cX8_firstOf 104 = .ok (.lload_n 2, 1) := by decide +kernel
theorem dX8_firstOf_105 : decode cX8_firstOf 105 = .ok (.lreturn, 1) := by decide +kernel
theorem dX8_whose_0 : decode cX8_whose 0 = .ok (.aload_n 0, 1) := by decide +kernel
theorem dX8_whose_1 : decode cX8_whose 1 = .ok (.iload_n 1, 1) := by decide +kernel
theorem dX8_whose_2 : decode cX8_whose 2 = .ok (.invokevirtual 88, 3) := by decide +kernel
theorem dX8_whose_5 : decode cX8_whose 5 = .ok (.ifCond .ne 7, 3) := by decide +kernel
theorem dX8_whose_8 : decode cX8_whose 8 = .ok (.ldc2_w 146, 3) := by decide +kernel
theorem dX8_whose_11 : decode cX8_whose 11 = .ok (.lreturn, 1) := by decide +kernel
theorem dX8_whose_12 : decode cX8_whose 12 = .ok (.iload_n 2, 1) := by decide +kernel
theorem dX8_whose_13 : decode cX8_whose 13 = .ok (.invokestatic 137, 3) := by decide +kernel
theorem dX8_whose_16 : decode cX8_whose 16 = .ok (.ifCond .ne 7, 3) := by decide +kernel
theorem dX8_whose_19 : decode cX8_whose 19 = .ok (.ldc2_w 144, 3) := by decide +kernel
theorem dX8_whose_22 : decode cX8_whose 22 = .ok (.lreturn, 1) := by decide +kernel
theorem dX8_whose_23 : decode cX8_whose 23 = .ok (.aload_n 0, 1) := by decide +kernel
theorem dX8_whose_24 : decode cX8_whose 24 = .ok (.invokevirtual 85, 3) := by decide +kernel
theorem dX8_whose_27 : decode cX8_whose 27 = .ok (.aload_n 0, 1) := by decide +kernel
theorem dX8_whose_28 : decode cX8_whose 28 = .ok (.invokevirtual 126, 3) := by decide +kernel
theorem dX8_whose_31 : decode cX8_whose 31 = .ok (.aload_n 0, 1) := by decide +kernel
theorem dX8_whose_32 : decode cX8_whose 32 = .ok (.invokevirtual 130, 3) := by decide +kernel
theorem dX8_whose_35 : decode cX8_whose 35 = .ok (.lsub, 1) := by decide +kernel
theorem dX8_whose_36 : decode cX8_whose 36 = .ok (.lstore_n 3, 1) := by decide +kernel
theorem dX8_whose_37 : decode cX8_whose 37 = .ok (.lload_n 3, 1) := by decide +kernel
theorem dX8_whose_38 : decode cX8_whose 38 = .ok (.lconst 0, 1) := by decide +kernel
theorem dX8_whose_39 : decode cX8_whose 39 = .ok (.lcmp, 1) := by decide +kernel
theorem dX8_whose_40 : decode cX8_whose 40 = .ok (.ifCond .ne 9, 3) := by decide +kernel
theorem dX8_whose_43 : decode cX8_whose 43 = .ok (.ldc2_w 148, 3) := by decide +kernel
theorem dX8_whose_46 : decode cX8_whose 46 = .ok (.goto 13, 3) := by decide +kernel
theorem dX8_whose_49 : decode cX8_whose 49 = .ok (.aload_n 0, 1) := by decide +kernel
theorem dX8_whose_50 : decode cX8_whose 50 = .ok (.iload_n 1, 1) := by decide +kernel
theorem dX8_whose_51 : decode cX8_whose 51 = .ok (.invokevirtual 150, 3) := by decide +kernel
theorem dX8_whose_54 : decode cX8_whose 54 = .ok (.lload_n 3, 1) := by decide +kernel
theorem dX8_whose_55 : decode cX8_whose 55 = .ok (.iload_n 2, 1) := by decide +kernel
theorem dX8_whose_56 : decode cX8_whose 56 = .ok (.invokestatic 133, 3) := by decide +kernel
theorem dX8_whose_59 : decode cX8_whose 59 = .ok (.lreturn, 1) := by decide +kernel
theorem dX8_rightNow_0 : decode cX8_rightNow 0 = .ok (.aload_n 0, 1) := by decide +kernel
theorem dX8_rightNow_1 : decode cX8_rightNow 1 = .ok (.invokevirtual 85, 3) := by decide +kernel
theorem dX8_rightNow_4 : decode cX8_rightNow 4 = .ok (.iconst 1, 1) := by decide +kernel
theorem dX8_rightNow_5 : decode cX8_rightNow 5 = .ok (.istore_n 1, 1) := by decide +kernel
theorem dX8_rightNow_6 : decode cX8_rightNow 6 = .ok (.iconst 0, 1) := by decide +kernel
theorem dX8_rightNow_7 : decode cX8_rightNow 7 = .ok (.istore_n 2, 1) := by decide +kernel
theorem dX8_rightNow_8 : decode cX8_rightNow 8 = .ok (.iload_n 2, 1) := by decide +kernel
theorem dX8_rightNow_9 : decode cX8_rightNow 9 = .ok (.aload_n 0, 1) := by decide +kernel
theorem dX8_rightNow_10 : decode cX8_rightNow 10 = .ok (.getfield 62, 3) := by decide +kernel
theorem dX8_rightNow_13 : decode cX8_rightNow 13 = .ok (.if_icmp .ge 46, 3) := by decide +kernel
theorem dX8_rightNow_16 : decode cX8_rightNow 16 = .ok (.iload_n 1, 1) := by decide +kernel
theorem dX8_rightNow_17 : decode cX8_rightNow 17 = .ok (.ifCond .eq 34, 3) := by decide +kernel
theorem dX8_rightNow_20 : decode cX8_rightNow 20 = .ok (.aload_n 0, 1) := by decide +kernel
theorem dX8_rightNow_21 : decode cX8_rightNow 21 = .ok (.getfield 7, 3) := by decide +kernel
theorem dX8_rightNow_24 : decode cX8_rightNow 24 = .ok (.iload_n 2, 1) := by decide +kernel
theorem dX8_rightNow_25 : decode cX8_rightNow 25 = .ok (.iaload, 1) := by decide +kernel
theorem dX8_rightNow_26 : decode cX8_rightNow 26 = .ok (.invokestatic 71, 3) := by decide +kernel
theorem dX8_rightNow_29 : decode cX8_rightNow 29 = .ok (.ifCond .eq 18, 3) := by decide +kernel
theorem dX8_rightNow_32 : decode cX8_rightNow 32 = .ok (.aload_n 0, 1) := by decide +kernel
theorem dX8_rightNow_33 : decode cX8_rightNow 33 = .ok (.getfield 22, 3) := by decide +kernel
theorem dX8_rightNow_36 : decode cX8_rightNow 36 = .ok (.iload_n 2, 1) := by decide +kernel
theorem dX8_rightNow_37 : decode cX8_rightNow 37 = .ok (.iaload, 1) := by decide +kernel
theorem dX8_rightNow_38 : decode cX8_rightNow 38 = .ok (.aload_n 0, 1) := by decide +kernel
theorem dX8_rightNow_39 : decode cX8_rightNow 39 = .ok (.getfield 13, 3) := by decide +kernel
theorem dX8_rightNow_42 : decode cX8_rightNow 42 = .ok (.iload_n 2, 1) := by decide +kernel
theorem dX8_rightNow_43 : decode cX8_rightNow 43 = .ok (.iaload, 1) := by decide +kernel
theorem dX8_rightNow_44 : decode cX8_rightNow 44 = .ok (.if_icmp .gt 7, 3) := by decide +kernel
theorem dX8_rightNow_47 : decode cX8_rightNow 47 = .ok (.iconst 1, 1) := by decide +kernel
theorem dX8_rightNow_48 : decode cX8_rightNow 48 = .ok (.goto 4, 3) := by decide +kernel
theorem dX8_rightNow_51 : decode cX8_rightNow 51 = .ok (.iconst 0, 1) := by decide +kernel
theorem dX8_rightNow_52 : decode cX8_rightNow 52 = .ok (.istore_n 1, 1) := by decide +kernel
theorem dX8_rightNow_53 : decode cX8_rightNow 53 = .ok (.iinc 2 1, 3) := by decide +kernel
theorem dX8_rightNow_56 : decode cX8_rightNow 56 = .ok (.goto (-48), 3) := by decide +kernel
theorem dX8_rightNow_59 : decode cX8_rightNow 59 = .ok (.iload_n 1, 1) := by decide +kernel
theorem dX8_rightNow_60 : decode cX8_rightNow 60 = .ok (.ifCond .eq 7, 3) := by decide +kernel
theorem dX8_rightNow_63 : decode cX8_rightNow 63 = .ok (.iconst 1, 1) := by decide +kernel
theorem dX8_rightNow_64 : decode cX8_rightNow 64 = .ok (.goto 4, 3) := by decide +kernel
theorem dX8_rightNow_67 : decode cX8_rightNow 67 = .ok (.iconst 0, 1) := by decide +kernel
theorem dX8_rightNow_68 : decode cX8_rightNow 68 = .ok (.ireturn, 1) := by decide +kernel
theorem dX8_right_0 : decode cX8_right 0 = .ok (.aload_n 0, 1) := by decide +kernel
theorem dX8_right_1 : decode cX8_right 1 = .ok (.invokevirtual 153, 3) := by decide +kernel
theorem dX8_right_4 : decode cX8_right 4 = .ok (.ireturn, 1) := by decide +kernel
theorem dX8_neededMany_0 : decode cX8_neededMany 0 = .ok (.iconst 0, 1) := by decide +kernel
theorem dX8_neededMany_1 : decode cX8_neededMany 1 = .ok (.istore_n 1, 1) := by decide +kernel
theorem dX8_neededMany_2 : decode cX8_neededMany 2 = .ok (.iconst 0, 1) := by decide +kernel
theorem dX8_neededMany_3 : decode cX8_neededMany 3 = .ok (.istore_n 2, 1) := by decide +kernel
theorem dX8_neededMany_4 : decode cX8_neededMany 4 = .ok (.iload_n 2, 1) := by decide +kernel
theorem dX8_neededMany_5 : decode cX8_neededMany 5 = .ok (.aload_n 0, 1) := by decide +kernel
theorem dX8_neededMany_6 : decode cX8_neededMany 6 = .ok (.getfield 62, 3) := by decide +kernel
theorem dX8_neededMany_9 : decode cX8_neededMany 9 = .ok (.if_icmp .ge 31, 3) := by decide +kernel
theorem dX8_neededMany_12 : decode cX8_neededMany 12 = .ok (.aload_n 0, 1) := by decide +kernel
theorem dX8_neededMany_13 : decode cX8_neededMany 13 = .ok (.getfield 7, 3) := by decide +kernel
theorem dX8_neededMany_16 : decode cX8_neededMany 16 = .ok (.iload_n 2, 1) := by decide +kernel
theorem dX8_neededMany_17 : decode cX8_neededMany 17 = .ok (.iaload, 1) := by decide +kernel
theorem dX8_neededMany_18 : decode cX8_neededMany 18 = .ok (.invokestatic 71, 3) := by decide +kernel
theorem dX8_neededMany_21 : decode cX8_neededMany 21 = .ok (.ifCond .eq 13, 3) := by decide +kernel
theorem dX8_neededMany_24 : decode cX8_neededMany 24 = .ok (.aload_n 0, 1) := by decide +kernel
theorem dX8_neededMany_25 : decode cX8_neededMany 25 = .ok (.getfield 37, 3) := by decide +kernel
theorem dX8_neededMany_28 : decode cX8_neededMany 28 = .ok (.iload_n 1, 1) := by decide +kernel
theorem dX8_neededMany_29 : decode cX8_neededMany 29 = .ok (.iload_n 2, 1) := by decide +kernel
theorem dX8_neededMany_30 : decode cX8_neededMany 30 = .ok (.iastore, 1) := by decide +kernel
theorem dX8_neededMany_31 : decode cX8_neededMany 31 = .ok (.iinc 1 1, 3) := by decide +kernel
theorem dX8_neededMany_34 : decode cX8_neededMany 34 = .ok (.iinc 2 1, 3) := by decide +kernel
theorem dX8_neededMany_37 : decode cX8_neededMany 37 = .ok (.goto (-33), 3) := by decide +kernel
theorem dX8_neededMany_40 : decode cX8_neededMany 40 = .ok (.iload_n 1, 1) := by decide +kernel
theorem dX8_neededMany_41 : decode cX8_neededMany 41 = .ok (.ireturn, 1) := by decide +kernel
theorem dX8_layBest_0 : decode cX8_layBest 0 = .ok (.ldc2_w 148, 3) := by decide +kernel
theorem dX8_layBest_3 : decode cX8_layBest 3 = .ok (.lstore_n 2, 1) := by decide +kernel
theorem dX8_layBest_4 : decode cX8_layBest 4 = .ok (.iconst 0, 1) := by decide +kernel
theorem dX8_layBest_5 : decode cX8_layBest 5 = .ok (.istore 4, 2) := by decide +kernel
theorem dX8_layBest_7 : decode cX8_layBest 7 = .ok (.iload 4, 2) := by decide +kernel
theorem dX8_layBest_9 : decode cX8_layBest 9 = .ok (.bipush 9, 2) := by decide +kernel
theorem dX8_layBest_11 : decode cX8_layBest 11 = .ok (.if_icmp .ge 17, 3) := by decide +kernel
theorem dX8_layBest_14 : decode cX8_layBest 14 = .ok (.aload_n 0, 1) := by decide +kernel
theorem dX8_layBest_15 : decode cX8_layBest 15 = .ok (.getfield 31, 3) := by decide +kernel
theorem dX8_layBest_18 : decode cX8_layBest 18 = .ok (.iload 4, 2) := by decide +kernel
theorem dX8_layBest_20 : decode cX8_layBest 20 = .ok (.iconst 0, 1) := by decide +kernel
theorem dX8_layBest_21 : decode cX8_layBest 21 = .ok (.iastore, 1) := by decide +kernel
theorem dX8_layBest_22 : decode cX8_layBest 22 = .ok (.iinc 4 1, 3) := by decide +kernel
theorem dX8_layBest_25 : decode cX8_layBest 25 = .ok (.goto (-18), 3) := by decide +kernel
theorem dX8_layBest_28 : decode cX8_layBest 28 = .ok (.iconst 1, 1) := by decide +kernel
theorem dX8_layBest_29 : decode cX8_layBest 29 = .ok (.istore 4, 2) := by decide +kernel
theorem dX8_layBest_31 : decode cX8_layBest 31 = .ok (.iconst 0, 1) := by decide +kernel
theorem dX8_layBest_32 : decode cX8_layBest 32 = .ok (.istore 5, 2) := by decide +kernel
theorem dX8_layBest_34 : decode cX8_layBest 34 = .ok (.iload 5, 2) := by decide +kernel
theorem dX8_layBest_36 : decode cX8_layBest 36 = .ok (.iload_n 1, 1) := by decide +kernel
theorem dX8_layBest_37 : decode cX8_layBest 37 = .ok (.if_icmp .ge 26, 3) := by decide +kernel
theorem dX8_layBest_40 : decode cX8_layBest 40 = .ok (.iload 4, 2) := by decide +kernel
theorem dX8_layBest_42 : decode cX8_layBest 42 = .ok (.aload_n 0, 1) := by decide +kernel
theorem dX8_layBest_43 : decode cX8_layBest 43 = .ok (.getfield 13, 3) := by decide +kernel
theorem dX8_layBest_46 : decode cX8_layBest 46 = .ok (.aload_n 0, 1) := by decide +kernel
theorem dX8_layBest_47 : decode cX8_layBest 47 = .ok (.getfield 37, 3) := by decide +kernel
theorem dX8_layBest_50 : decode cX8_layBest 50 = .ok (.iload 5, 2) := by decide +kernel
theorem dX8_layBest_52 : decode cX8_layBest 52 = .ok (.iaload, 1) := by decide +kernel
theorem dX8_layBest_53 : decode cX8_layBest 53 = .ok (.iaload, 1) := by decide +kernel
theorem dX8_layBest_54 : decode cX8_layBest 54 = .ok (.imul, 1) := by decide +kernel
theorem dX8_layBest_55 : decode cX8_layBest 55 = .ok (.istore 4, 2) := by decide +kernel
theorem dX8_layBest_57 : decode cX8_layBest 57 = .ok (.iinc 5 1, 3) := by decide +kernel
theorem dX8_layBest_60 : decode cX8_layBest 60 = .ok (.goto (-26), 3) := by decide +kernel
theorem dX8_layBest_63 : decode cX8_layBest 63 = .ok (.iconst 0, 1) := by decide +kernel
theorem dX8_layBest_64 : decode cX8_layBest 64 = .ok (.istore 5, 2) := by decide +kernel
theorem dX8_layBest_66 : decode cX8_layBest 66 = .ok (.iload 5, 2) := by decide +kernel
theorem dX8_layBest_68 : decode cX8_layBest 68 = .ok (.iload 4, 2) := by decide +kernel
theorem dX8_layBest_70 : decode cX8_layBest 70 = .ok (.if_icmp .ge 127, 3) := by decide +kernel
theorem dX8_layBest_73 : decode cX8_layBest 73 = .ok (.iload 5, 2) := by decide +kernel
theorem dX8_layBest_75 : decode cX8_layBest 75 = .ok (.istore 6, 2) := by decide +kernel
theorem dX8_layBest_77 : decode cX8_layBest 77 = .ok (.iload_n 1, 1) := by decide +kernel
theorem dX8_layBest_78 : decode cX8_layBest 78 = .ok (.iconst 1, 1) := by decide +kernel
theorem dX8_layBest_79 : decode cX8_layBest 79 = .ok (.isub, 1) := by decide +kernel
theorem dX8_layBest_80 : decode cX8_layBest 80 = .ok (.istore 7, 2) := by decide +kernel
theorem dX8_layBest_82 : decode cX8_layBest 82 = .ok (.iload 7, 2) := by decide +kernel
theorem dX8_layBest_84 : decode cX8_layBest 84 = .ok (.ifCond .lt 55, 3) := by decide +kernel
theorem dX8_layBest_87 : decode cX8_layBest 87 = .ok (.aload_n 0, 1) := by decide +kernel
theorem dX8_layBest_88 : decode cX8_layBest 88 = .ok (.getfield 31, 3) := by decide +kernel
theorem dX8_layBest_91 : decode cX8_layBest 91 = .ok (.aload_n 0, 1) := by decide +kernel
theorem dX8_layBest_92 : decode cX8_layBest 92 = .ok (.getfield 37, 3) := by decide +kernel
theorem dX8_layBest_95 : decode cX8_layBest 95 = .ok (.iload 7, 2) := by decide +kernel
theorem dX8_layBest_97 : decode cX8_layBest 97 = .ok (.iaload, 1) := by decide +kernel
theorem dX8_layBest_98 : decode cX8_layBest 98 = .ok (.iconst 1, 1) := by decide +kernel
theorem dX8_layBest_99 : decode cX8_layBest 99 = .ok (.iload 6, 2) := by decide +kernel
theorem dX8_layBest_101 : decode cX8_layBest 101 = .ok (.aload_n 0, 1) := by decide +kernel
theorem dX8_layBest_102 : decode cX8_layBest 102 = .ok (.getfield 13, 3) := by decide +kernel
theorem dX8_layBest_105 : decode cX8_layBest 105 = .ok (.aload_n 0, 1) := by decide +kernel
theorem dX8_layBest_106 : decode cX8_layBest 106 = .ok (.getfield 37, 3) := by decide +kernel
theorem dX8_layBest_109 : decode cX8_layBest 109 = .ok (.iload 7, 2) := by decide +kernel
theorem dX8_layBest_111 : decode cX8_layBest 111 = .ok (.iaload, 1) := by decide +kernel
theorem dX8_layBest_112 : decode cX8_layBest 112 = .ok (.iaload, 1) := by decide +kernel
theorem dX8_layBest_113 : decode cX8_layBest 113 = .ok (.irem, 1) := by decide +kernel
theorem dX8_layBest_114 : decode cX8_layBest 114 = .ok (.iadd, 1) := by decide +kernel
theorem dX8_layBest_115 : decode cX8_layBest 115 = .ok (.iastore, 1) := by decide +kernel
theorem dX8_layBest_116 : decode cX8_layBest 116 = .ok (.iload 6, 2) := by decide +kernel
theorem dX8_layBest_118 : decode cX8_layBest 118 = .ok (.aload_n 0, 1) := by decide +kernel
theorem dX8_layBest_119 : decode cX8_layBest 119 = .ok (.getfield 13, 3) := by decide +kernel
theorem dX8_layBest_122 : decode cX8_layBest 122 = .ok (.aload_n 0, 1) := by decide +kernel
theorem dX8_layBest_123 : decode cX8_layBest 123 = .ok (.getfield 37, 3) := by decide +kernel
theorem dX8_layBest_126 : decode cX8_layBest 126 = .ok (.iload 7, 2) := by decide +kernel
theorem dX8_layBest_128 : decode cX8_layBest 128 = .ok (.iaload, 1) := by decide +kernel
theorem dX8_layBest_129 : decode cX8_layBest 129 = .ok (.iaload, 1) := by decide +kernel
theorem dX8_layBest_130 : decode cX8_layBest 130 = .ok (.idiv, 1) := by decide +kernel
theorem dX8_layBest_131 : decode cX8_layBest 131 = .ok (.istore 6, 2) := by decide +kernel
theorem dX8_layBest_133 : decode cX8_layBest 133 = .ok (.iinc 7 (-1), 3) := by decide +kernel
theorem dX8_layBest_136 : decode cX8_layBest 136 = .ok (.goto (-54), 3) := by decide +kernel
theorem dX8_layBest_139 : decode cX8_layBest 139 = .ok (.aload_n 0, 1) := by decide +kernel
theorem dX8_layBest_140 : decode cX8_layBest 140 = .ok (.aload_n 0, 1) := by decide +kernel
theorem dX8_layBest_141 : decode cX8_layBest 141 = .ok (.getfield 31, 3) := by decide +kernel
theorem dX8_layBest_144 : decode cX8_layBest 144 = .ok (.invokevirtual 81, 3) := by decide +kernel
theorem dX8_layBest_147 : decode cX8_layBest 147 = .ok (.aload_n 0, 1) := by decide +kernel
theorem dX8_layBest_148 : decode cX8_layBest 148 = .ok (.invokevirtual 130, 3) := by decide +kernel
theorem dX8_layBest_151 : decode cX8_layBest 151 = .ok (.lload_n 2, 1) := by decide +kernel
theorem dX8_layBest_152 : decode cX8_layBest 152 = .ok (.lcmp, 1) := by decide +kernel
theorem dX8_layBest_153 : decode cX8_layBest 153 = .ok (.ifCond .le 38, 3) := by decide +kernel
theorem dX8_layBest_156 : decode cX8_layBest 156 = .ok (.aload_n 0, 1) := by decide +kernel
theorem dX8_layBest_157 : decode cX8_layBest 157 = .ok (.invokevirtual 130, 3) := by decide +kernel
theorem dX8_layBest_160 : decode cX8_layBest 160 = .ok (.lstore_n 2, 1) := by decide +kernel
theorem dX8_layBest_161 : decode cX8_layBest 161 = .ok (.iconst 0, 1) := by decide +kernel
theorem dX8_layBest_162 : decode cX8_layBest 162 = .ok (.istore 7, 2) := by decide +kernel
theorem dX8_layBest_164 : decode cX8_layBest 164 = .ok (.iload 7, 2) := by decide +kernel
theorem dX8_layBest_166 : decode cX8_layBest 166 = .ok (.bipush 9, 2) := by decide +kernel
theorem dX8_layBest_168 : decode cX8_layBest 168 = .ok (.if_icmp .ge 23, 3) := by decide +kernel
theorem dX8_layBest_171 : decode cX8_layBest 171 = .ok (.aload_n 0, 1) := by decide +kernel
theorem dX8_layBest_172 : decode cX8_layBest 172 = .ok (.getfield 34, 3) := by decide +kernel
theorem dX8_layBest_175 : decode cX8_layBest 175 = .ok (.iload 7, 2) := by decide +kernel
theorem dX8_layBest_177 : decode cX8_layBest 177 = .ok (.aload_n 0, 1) := by decide +kernel
theorem dX8_layBest_178 : decode cX8_layBest 178 = .ok (.getfield 31, 3) := by decide +kernel
theorem dX8_layBest_181 : decode cX8_layBest 181 = .ok (.iload 7, 2) := by decide +kernel
theorem dX8_layBest_183 : decode cX8_layBest 183 = .ok (.iaload, 1) := by decide +kernel
theorem dX8_layBest_184 : decode cX8_layBest 184 = .ok (.iastore, 1) := by decide +kernel
theorem dX8_layBest_185 : decode cX8_layBest 185 = .ok (.iinc 7 1, 3) := by decide +kernel
theorem dX8_layBest_188 : decode cX8_layBest 188 = .ok (.goto (-24), 3) := by decide +kernel
theorem dX8_layBest_191 : decode cX8_layBest 191 = .ok (.iinc 5 1, 3) := by decide +kernel
theorem dX8_layBest_194 : decode cX8_layBest 194 = .ok (.goto (-128), 3) := by decide +kernel
theorem dX8_layBest_197 : decode cX8_layBest 197 = .ok (.lload_n 2, 1) := by decide +kernel
theorem dX8_layBest_198 : decode cX8_layBest 198 = .ok (.lreturn, 1) := by decide +kernel
theorem dX8_best_0 : decode cX8_best 0 = .ok (.iload_n 1, 1) := by decide +kernel
theorem dX8_best_1 : decode cX8_best 1 = .ok (.invokestatic 137, 3) := by decide +kernel
theorem dX8_best_4 : decode cX8_best 4 = .ok (.ifCond .ne 21, 3) := by decide +kernel
theorem dX8_best_7 : decode cX8_best 7 = .ok (.iload_n 1, 1) := by decide +kernel
theorem dX8_best_8 : decode cX8_best 8 = .ok (.i2l, 1) := by decide +kernel
theorem dX8_best_9 : decode cX8_best 9 = .ok (.ldc2_w 124, 3) := by decide +kernel
theorem dX8_best_12 : decode cX8_best 12 = .ok (.ldc2_w 156, 3) := by decide +kernel
theorem dX8_best_15 : decode cX8_best 15 = .ok (.invokestatic 65, 3) := by decide +kernel
theorem dX8_best_18 : decode cX8_best 18 = .ok (.ifCond .ne 7, 3) := by decide +kernel
theorem dX8_best_21 : decode cX8_best 21 = .ok (.ldc2_w 144, 3) := by decide +kernel
theorem dX8_best_24 : decode cX8_best 24 = .ok (.lreturn, 1) := by decide +kernel
theorem dX8_best_25 : decode cX8_best 25 = .ok (.aload_n 0, 1) := by decide +kernel
theorem dX8_best_26 : decode cX8_best 26 = .ok (.invokevirtual 158, 3) := by decide +kernel
theorem dX8_best_29 : decode cX8_best 29 = .ok (.istore_n 2, 1) := by decide +kernel
theorem dX8_best_30 : decode cX8_best 30 = .ok (.iload_n 2, 1) := by decide +kernel
theorem dX8_best_31 : decode cX8_best 31 = .ok (.iconst 4, 1) := by decide +kernel
theorem dX8_best_32 : decode cX8_best 32 = .ok (.if_icmp .gt 12, 3) := by decide +kernel
theorem dX8_best_35 : decode cX8_best 35 = .ok (.aload_n 0, 1) := by decide +kernel
theorem dX8_best_36 : decode cX8_best 36 = .ok (.getfield 161, 3) := by decide +kernel
theorem dX8_best_39 : decode cX8_best 39 = .ok (.bipush 40, 2) := by decide +kernel
theorem dX8_best_41 : decode cX8_best 41 = .ok (.if_icmp .ne 7, 3) := by decide +kernel
theorem dX8_best_44 : decode cX8_best 44 = .ok (.ldc2_w 164, 3) := by decide +kernel
theorem dX8_best_47 : decode cX8_best 47 = .ok (.lreturn, 1) := by decide +kernel
theorem dX8_best_48 : decode cX8_best 48 = .ok (.aload_n 0, 1) := by decide +kernel
theorem dX8_best_49 : decode cX8_best 49 = .ok (.dup, 1) := by decide +kernel
theorem dX8_best_50 : decode cX8_best 50 = .ok (.getfield 161, 3) := by decide +kernel
theorem dX8_best_53 : decode cX8_best 53 = .ok (.iconst 1, 1) := by decide +kernel
theorem dX8_best_54 : decode cX8_best 54 = .ok (.iadd, 1) := by decide +kernel
theorem dX8_best_55 : decode cX8_best 55 = .ok (.putfield 161, 3) := by decide +kernel
theorem dX8_best_58 : decode cX8_best 58 = .ok (.aload_n 0, 1) := by decide +kernel
theorem dX8_best_59 : decode cX8_best 59 = .ok (.iload_n 2, 1) := by decide +kernel
theorem dX8_best_60 : decode cX8_best 60 = .ok (.invokevirtual 166, 3) := by decide +kernel
theorem dX8_best_63 : decode cX8_best 63 = .ok (.lstore_n 3, 1) := by decide +kernel
theorem dX8_best_64 : decode cX8_best 64 = .ok (.iload_n 1, 1) := by decide +kernel
theorem dX8_best_65 : decode cX8_best 65 = .ok (.iconst 2, 1) := by decide +kernel
theorem dX8_best_66 : decode cX8_best 66 = .ok (.if_icmp .ge 18, 3) := by decide +kernel
theorem dX8_best_69 : decode cX8_best 69 = .ok (.aload_n 0, 1) := by decide +kernel
theorem dX8_best_70 : decode cX8_best 70 = .ok (.invokevirtual 126, 3) := by decide +kernel
theorem dX8_best_73 : decode cX8_best 73 = .ok (.lload_n 3, 1) := by decide +kernel
theorem dX8_best_74 : decode cX8_best 74 = .ok (.lsub, 1) := by decide +kernel
theorem dX8_best_75 : decode cX8_best 75 = .ok (.aload_n 0, 1) := by decide +kernel
theorem dX8_best_76 : decode cX8_best 76 = .ok (.invokevirtual 126, 3) := by decide +kernel
theorem dX8_best_79 : decode cX8_best 79 = .ok (.iload_n 1, 1) := by decide +kernel
theorem dX8_best_80 : decode cX8_best 80 = .ok (.invokestatic 133, 3) := by decide +kernel
theorem dX8_best_83 : decode cX8_best 83 = .ok (.lreturn, 1) := by decide +kernel
theorem dX8_best_84 : decode cX8_best 84 = .ok (.aload_n 0, 1) := by decide +kernel
theorem dX8_best_85 : decode cX8_best 85 = .ok (.iload_n 1, 1) := by decide +kernel
theorem dX8_best_86 : decode cX8_best 86 = .ok (.bipush 10, 2) := by decide +kernel
theorem dX8_best_88 : decode cX8_best 88 = .ok (.isub, 1) := by decide +kernel
theorem dX8_best_89 : decode cX8_best 89 = .ok (.invokevirtual 88, 3) := by decide +kernel
theorem dX8_best_92 : decode cX8_best 92 = .ok (.ifCond .eq 16, 3) := by decide +kernel
theorem dX8_best_95 : decode cX8_best 95 = .ok (.aload_n 0, 1) := by decide +kernel
theorem dX8_best_96 : decode cX8_best 96 = .ok (.getfield 34, 3) := by decide +kernel
theorem dX8_best_99 : decode cX8_best 99 = .ok (.iload_n 1, 1) := by decide +kernel
theorem dX8_best_100 : decode cX8_best 100 = .ok (.bipush 10, 2) := by decide +kernel
theorem dX8_best_102 : decode cX8_best 102 = .ok (.isub, 1) := by decide +kernel
theorem dX8_best_103 : decode cX8_best 103 = .ok (.iaload, 1) := by decide +kernel
theorem dX8_best_104 : decode cX8_best 104 = .ok (.i2l, 1) := by decide +kernel
theorem dX8_best_105 : decode cX8_best 105 = .ok (.goto 6, 3) := by decide +kernel
theorem dX8_best_108 : decode cX8_best 108 = .ok (.ldc2_w 148, 3) := by decide +kernel
theorem dX8_best_111 : decode cX8_best 111 = .ok (.lreturn, 1) := by decide +kernel
theorem dX8_holeOf_0 : decode cX8_holeOf 0 = .ok (.aload_n 0, 1) := by decide +kernel
theorem dX8_holeOf_1 : decode cX8_holeOf 1 = .ok (.invokevirtual 85, 3) := by decide +kernel
theorem dX8_holeOf_4 : decode cX8_holeOf 4 = .ok (.aload_n 0, 1) := by decide +kernel
theorem dX8_holeOf_5 : decode cX8_holeOf 5 = .ok (.invokevirtual 130, 3) := by decide +kernel
theorem dX8_holeOf_8 : decode cX8_holeOf 8 = .ok (.lstore_n 1, 1) := by decide +kernel
theorem dX8_holeOf_9 : decode cX8_holeOf 9 = .ok (.iconst (-1), 1) := by decide +kernel
theorem dX8_holeOf_10 : decode cX8_holeOf 10 = .ok (.istore_n 3, 1) := by decide +kernel
theorem dX8_holeOf_11 : decode cX8_holeOf 11 = .ok (.iconst 0, 1) := by decide +kernel
theorem dX8_holeOf_12 : decode cX8_holeOf 12 = .ok (.istore 4, 2) := by decide +kernel
theorem dX8_holeOf_14 : decode cX8_holeOf 14 = .ok (.iload 4, 2) := by decide +kernel
theorem dX8_holeOf_16 : decode cX8_holeOf 16 = .ok (.aload_n 0, 1) := by decide +kernel
theorem dX8_holeOf_17 : decode cX8_holeOf 17 = .ok (.getfield 62, 3) := by decide +kernel
theorem dX8_holeOf_20 : decode cX8_holeOf 20 = .ok (.if_icmp .ge 102, 3) := by decide +kernel
