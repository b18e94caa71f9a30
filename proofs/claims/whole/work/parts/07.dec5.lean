theorem dX8_holeOf_23 : decode cX8_holeOf 23 = .ok (.aload_n 0, 1) := by decide +kernel
theorem dX8_holeOf_24 : decode cX8_holeOf 24 = .ok (.getfield 16, 3) := by decide +kernel
theorem dX8_holeOf_27 : decode cX8_holeOf 27 = .ok (.iload 4, 2) := by decide +kernel
theorem dX8_holeOf_29 : decode cX8_holeOf 29 = .ok (.iaload, 1) := by decide +kernel
theorem dX8_holeOf_30 : decode cX8_holeOf 30 = .ok (.ifCond .le 86, 3) := by decide +kernel
theorem dX8_holeOf_33 : decode cX8_holeOf 33 = .ok (.iconst 0, 1) := by decide +kernel
theorem dX8_holeOf_34 : decode cX8_holeOf 34 = .ok (.istore 5, 2) := by decide +kernel
theorem dX8_holeOf_36 : decode cX8_holeOf 36 = .ok (.iload 5, 2) := by decide +kernel
theorem dX8_holeOf_38 : decode cX8_holeOf 38 = .ok (.bipush 9, 2) := by decide +kernel
theorem dX8_holeOf_40 : decode cX8_holeOf 40 = .ok (.if_icmp .ge 34, 3) := by decide +kernel
theorem dX8_holeOf_43 : decode cX8_holeOf 43 = .ok (.aload_n 0, 1) := by decide +kernel
theorem dX8_holeOf_44 : decode cX8_holeOf 44 = .ok (.getfield 31, 3) := by decide +kernel
theorem dX8_holeOf_47 : decode cX8_holeOf 47 = .ok (.iload 5, 2) := by decide +kernel
theorem dX8_holeOf_49 : decode cX8_holeOf 49 = .ok (.iload 5, 2) := by decide +kernel
theorem dX8_holeOf_51 : decode cX8_holeOf 51 = .ok (.iload 4, 2) := by decide +kernel
theorem dX8_holeOf_53 : decode cX8_holeOf 53 = .ok (.if_icmp .ne 7, 3) := by decide +kernel
theorem dX8_holeOf_56 : decode cX8_holeOf 56 = .ok (.iconst 0, 1) := by decide +kernel
theorem dX8_holeOf_57 : decode cX8_holeOf 57 = .ok (.goto 10, 3) := by decide +kernel
theorem dX8_holeOf_60 : decode cX8_holeOf 60 = .ok (.aload_n 0, 1) := by decide +kernel
theorem dX8_holeOf_61 : decode cX8_holeOf 61 = .ok (.getfield 16, 3) := by decide +kernel
theorem dX8_holeOf_64 : decode cX8_holeOf 64 = .ok (.iload 5, 2) := by decide +kernel
theorem dX8_holeOf_66 : decode cX8_holeOf 66 = .ok (.iaload, 1) := by decide +kernel
theorem dX8_holeOf_67 : decode cX8_holeOf 67 = .ok (.iastore, 1) := by decide +kernel
theorem dX8_holeOf_68 : decode cX8_holeOf 68 = .ok (.iinc 5 1, 3) := by decide +kernel
theorem dX8_holeOf_71 : decode cX8_holeOf 71 = .ok (.goto (-35), 3) := by decide +kernel
theorem dX8_holeOf_74 : decode cX8_holeOf 74 = .ok (.aload_n 0, 1) := by decide +kernel
theorem dX8_holeOf_75 : decode cX8_holeOf 75 = .ok (.aload_n 0, 1) := by decide +kernel
theorem dX8_holeOf_76 : decode cX8_holeOf 76 = .ok (.getfield 31, 3) := by decide +kernel
theorem dX8_holeOf_79 : decode cX8_holeOf 79 = .ok (.invokevirtual 81, 3) := by decide +kernel
theorem dX8_holeOf_82 : decode cX8_holeOf 82 = .ok (.aload_n 0, 1) := by decide +kernel
theorem dX8_holeOf_83 : decode cX8_holeOf 83 = .ok (.invokevirtual 130, 3) := by decide +kernel
theorem dX8_holeOf_86 : decode cX8_holeOf 86 = .ok (.lstore 5, 2) := by decide +kernel
theorem dX8_holeOf_88 : decode cX8_holeOf 88 = .ok (.lload 5, 2) := by decide +kernel
theorem dX8_holeOf_90 : decode cX8_holeOf 90 = .ok (.lload_n 1, 1) := by decide +kernel
theorem dX8_holeOf_91 : decode cX8_holeOf 91 = .ok (.lcmp, 1) := by decide +kernel
theorem dX8_holeOf_92 : decode cX8_holeOf 92 = .ok (.ifCond .le 8, 3) := by decide +kernel
theorem dX8_holeOf_95 : decode cX8_holeOf 95 = .ok (.iload 4, 2) := by decide +kernel
theorem dX8_holeOf_97 : decode cX8_holeOf 97 = .ok (.goto 4, 3) := by decide +kernel
theorem dX8_holeOf_100 : decode cX8_holeOf 100 = .ok (.iload_n 3, 1) := by decide +kernel
theorem dX8_holeOf_101 : decode cX8_holeOf 101 = .ok (.istore_n 3, 1) := by decide +kernel
theorem dX8_holeOf_102 : decode cX8_holeOf 102 = .ok (.lload 5, 2) := by decide +kernel
theorem dX8_holeOf_104 : decode cX8_holeOf 104 = .ok (.lload_n 1, 1) := by decide +kernel
theorem dX8_holeOf_105 : decode cX8_holeOf 105 = .ok (.lcmp, 1) := by decide +kernel
theorem dX8_holeOf_106 : decode cX8_holeOf 106 = .ok (.ifCond .le 8, 3) := by decide +kernel
theorem dX8_holeOf_109 : decode cX8_holeOf 109 = .ok (.lload 5, 2) := by decide +kernel
theorem dX8_holeOf_111 : decode cX8_holeOf 111 = .ok (.goto 4, 3) := by decide +kernel
theorem dX8_holeOf_114 : decode cX8_holeOf 114 = .ok (.lload_n 1, 1) := by decide +kernel
theorem dX8_holeOf_115 : decode cX8_holeOf 115 = .ok (.lstore_n 1, 1) := by decide +kernel
theorem dX8_holeOf_116 : decode cX8_holeOf 116 = .ok (.iinc 4 1, 3) := by decide +kernel
theorem dX8_holeOf_119 : decode cX8_holeOf 119 = .ok (.goto (-105), 3) := by decide +kernel
theorem dX8_holeOf_122 : decode cX8_holeOf 122 = .ok (.iload_n 3, 1) := by decide +kernel
theorem dX8_holeOf_123 : decode cX8_holeOf 123 = .ok (.ireturn, 1) := by decide +kernel
theorem dX8_hole_0 : decode cX8_hole 0 = .ok (.aload_n 0, 1) := by decide +kernel
theorem dX8_hole_1 : decode cX8_hole 1 = .ok (.invokevirtual 169, 3) := by decide +kernel
theorem dX8_hole_4 : decode cX8_hole 4 = .ok (.ireturn, 1) := by decide +kernel
theorem dX8_latestOf_0 : decode cX8_latestOf 0 = .ok (.bipush 8, 2) := by decide +kernel
theorem dX8_latestOf_2 : decode cX8_latestOf 2 = .ok (.istore_n 2, 1) := by decide +kernel
theorem dX8_latestOf_3 : decode cX8_latestOf 3 = .ok (.iload_n 2, 1) := by decide +kernel
theorem dX8_latestOf_4 : decode cX8_latestOf 4 = .ok (.ifCond .le 59, 3) := by decide +kernel
theorem dX8_latestOf_7 : decode cX8_latestOf 7 = .ok (.iconst 0, 1) := by decide +kernel
theorem dX8_latestOf_8 : decode cX8_latestOf 8 = .ok (.istore_n 3, 1) := by decide +kernel
theorem dX8_latestOf_9 : decode cX8_latestOf 9 = .ok (.iload_n 3, 1) := by decide +kernel
theorem dX8_latestOf_10 : decode cX8_latestOf 10 = .ok (.aload_n 0, 1) := by decide +kernel
theorem dX8_latestOf_11 : decode cX8_latestOf 11 = .ok (.getfield 62, 3) := by decide +kernel
theorem dX8_latestOf_14 : decode cX8_latestOf 14 = .ok (.if_icmp .ge 25, 3) := by decide +kernel
theorem dX8_latestOf_17 : decode cX8_latestOf 17 = .ok (.aload_n 0, 1) := by decide +kernel
theorem dX8_latestOf_18 : decode cX8_latestOf 18 = .ok (.getfield 22, 3) := by decide +kernel
theorem dX8_latestOf_21 : decode cX8_latestOf 21 = .ok (.iload_n 3, 1) := by decide +kernel
theorem dX8_latestOf_22 : decode cX8_latestOf 22 = .ok (.iload_n 3, 1) := by decide +kernel
theorem dX8_latestOf_23 : decode cX8_latestOf 23 = .ok (.ifCond .ne 7, 3) := by decide +kernel
theorem dX8_latestOf_26 : decode cX8_latestOf 26 = .ok (.iload_n 2, 1) := by decide +kernel
theorem dX8_latestOf_27 : decode cX8_latestOf 27 = .ok (.goto 5, 3) := by decide +kernel
theorem dX8_latestOf_30 : decode cX8_latestOf 30 = .ok (.bipush 10, 2) := by decide +kernel
theorem dX8_latestOf_32 : decode cX8_latestOf 32 = .ok (.iastore, 1) := by decide +kernel
theorem dX8_latestOf_33 : decode cX8_latestOf 33 = .ok (.iinc 3 1, 3) := by decide +kernel
theorem dX8_latestOf_36 : decode cX8_latestOf 36 = .ok (.goto (-27), 3) := by decide +kernel
theorem dX8_latestOf_39 : decode cX8_latestOf 39 = .ok (.aload_n 0, 1) := by decide +kernel
theorem dX8_latestOf_40 : decode cX8_latestOf 40 = .ok (.iconst 1, 1) := by decide +kernel
theorem dX8_latestOf_41 : decode cX8_latestOf 41 = .ok (.invokevirtual 77, 3) := by decide +kernel
theorem dX8_latestOf_44 : decode cX8_latestOf 44 = .ok (.aload_n 0, 1) := by decide +kernel
theorem dX8_latestOf_45 : decode cX8_latestOf 45 = .ok (.getfield 22, 3) := by decide +kernel
theorem dX8_latestOf_48 : decode cX8_latestOf 48 = .ok (.iload_n 1, 1) := by decide +kernel
theorem dX8_latestOf_49 : decode cX8_latestOf 49 = .ok (.iaload, 1) := by decide +kernel
theorem dX8_latestOf_50 : decode cX8_latestOf 50 = .ok (.bipush 10, 2) := by decide +kernel
theorem dX8_latestOf_52 : decode cX8_latestOf 52 = .ok (.if_icmp .ge 5, 3) := by decide +kernel
theorem dX8_latestOf_55 : decode cX8_latestOf 55 = .ok (.iload_n 2, 1) := by decide +kernel
theorem dX8_latestOf_56 : decode cX8_latestOf 56 = .ok (.ireturn, 1) := by decide +kernel
theorem dX8_latestOf_57 : decode cX8_latestOf 57 = .ok (.iinc 2 (-1), 3) := by decide +kernel
theorem dX8_latestOf_60 : decode cX8_latestOf 60 = .ok (.goto (-57), 3) := by decide +kernel
theorem dX8_latestOf_63 : decode cX8_latestOf 63 = .ok (.iconst (-1), 1) := by decide +kernel
theorem dX8_latestOf_64 : decode cX8_latestOf 64 = .ok (.ireturn, 1) := by decide +kernel
theorem dX8_latest_0 : decode cX8_latest 0 = .ok (.aload_n 0, 1) := by decide +kernel
theorem dX8_latest_1 : decode cX8_latest 1 = .ok (.iload_n 1, 1) := by decide +kernel
theorem dX8_latest_2 : decode cX8_latest 2 = .ok (.invokevirtual 88, 3) := by decide +kernel
theorem dX8_latest_5 : decode cX8_latest 5 = .ok (.ifCond .eq 11, 3) := by decide +kernel
theorem dX8_latest_8 : decode cX8_latest 8 = .ok (.aload_n 0, 1) := by decide +kernel
theorem dX8_latest_9 : decode cX8_latest 9 = .ok (.iload_n 1, 1) := by decide +kernel
theorem dX8_latest_10 : decode cX8_latest 10 = .ok (.invokevirtual 172, 3) := by decide +kernel
theorem dX8_latest_13 : decode cX8_latest 13 = .ok (.goto 5, 3) := by decide +kernel
theorem dX8_latest_16 : decode cX8_latest 16 = .ok (.bipush (-101), 2) := by decide +kernel
theorem dX8_latest_18 : decode cX8_latest 18 = .ok (.ireturn, 1) := by decide +kernel
theorem dX8_story_0 : decode cX8_story 0 = .ok (.iload_n 1, 1) := by decide +kernel
theorem dX8_story_1 : decode cX8_story 1 = .ok (.i2l, 1) := by decide +kernel
theorem dX8_story_2 : decode cX8_story 2 = .ok (.lconst 0, 1) := by decide +kernel
theorem dX8_story_3 : decode cX8_story 3 = .ok (.ldc2_w 175, 3) := by decide +kernel
theorem dX8_story_6 : decode cX8_story 6 = .ok (.invokestatic 65, 3) := by decide +kernel
theorem dX8_story_9 : decode cX8_story 9 = .ok (.ifCond .ne 6, 3) := by decide +kernel
theorem dX8_story_12 : decode cX8_story 12 = .ok (.bipush (-102), 2) := by decide +kernel
theorem dX8_story_14 : decode cX8_story 14 = .ok (.ireturn, 1) := by decide +kernel
theorem dX8_story_15 : decode cX8_story 15 = .ok (.aload_n 0, 1) := by decide +kernel
theorem dX8_story_16 : decode cX8_story 16 = .ok (.getfield 177, 3) := by decide +kernel
theorem dX8_story_19 : decode cX8_story 19 = .ok (.bipush 8, 2) := by decide +kernel
theorem dX8_story_21 : decode cX8_story 21 = .ok (.if_icmp .ne 6, 3) := by decide +kernel
theorem dX8_story_24 : decode cX8_story 24 = .ok (.bipush (-104), 2) := by decide +kernel
theorem dX8_story_26 : decode cX8_story 26 = .ok (.ireturn, 1) := by decide +kernel
theorem dX8_story_27 : decode cX8_story 27 = .ok (.aload_n 0, 1) := by decide +kernel
theorem dX8_story_28 : decode cX8_story 28 = .ok (.getfield 40, 3) := by decide +kernel
theorem dX8_story_31 : decode cX8_story 31 = .ok (.aload_n 0, 1) := by decide +kernel
theorem dX8_story_32 : decode cX8_story 32 = .ok (.getfield 177, 3) := by decide +kernel
theorem dX8_story_35 : decode cX8_story 35 = .ok (.iload_n 1, 1) := by decide +kernel
theorem dX8_story_36 : decode cX8_story 36 = .ok (.iastore, 1) := by decide +kernel
theorem dX8_story_37 : decode cX8_story 37 = .ok (.aload_n 0, 1) := by decide +kernel
theorem dX8_story_38 : decode cX8_story 38 = .ok (.dup, 1) := by decide +kernel
theorem dX8_story_39 : decode cX8_story 39 = .ok (.getfield 177, 3) := by decide +kernel
theorem dX8_story_42 : decode cX8_story 42 = .ok (.iconst 1, 1) := by decide +kernel
theorem dX8_story_43 : decode cX8_story 43 = .ok (.iadd, 1) := by decide +kernel
theorem dX8_story_44 : decode cX8_story 44 = .ok (.putfield 177, 3) := by decide +kernel
theorem dX8_story_47 : decode cX8_story 47 = .ok (.aload_n 0, 1) := by decide +kernel
theorem dX8_story_48 : decode cX8_story 48 = .ok (.getfield 177, 3) := by decide +kernel
theorem dX8_story_51 : decode cX8_story 51 = .ok (.iconst 1, 1) := by decide +kernel
theorem dX8_story_52 : decode cX8_story 52 = .ok (.isub, 1) := by decide +kernel
theorem dX8_story_53 : decode cX8_story 53 = .ok (.ireturn, 1) := by decide +kernel
theorem dX8_isStory_0 : decode cX8_isStory 0 = .ok (.iload_n 1, 1) := by decide +kernel
theorem dX8_isStory_1 : decode cX8_isStory 1 = .ok (.i2l, 1) := by decide +kernel
theorem dX8_isStory_2 : decode cX8_isStory 2 = .ok (.lconst 0, 1) := by decide +kernel
theorem dX8_isStory_3 : decode cX8_isStory 3 = .ok (.aload_n 0, 1) := by decide +kernel
theorem dX8_isStory_4 : decode cX8_isStory 4 = .ok (.getfield 177, 3) := by decide +kernel
theorem dX8_isStory_7 : decode cX8_isStory 7 = .ok (.iconst 1, 1) := by decide +kernel
theorem dX8_isStory_8 : decode cX8_isStory 8 = .ok (.isub, 1) := by decide +kernel
theorem dX8_isStory_9 : decode cX8_isStory 9 = .ok (.i2l, 1) := by decide +kernel
theorem dX8_isStory_10 : decode cX8_isStory 10 = .ok (.invokestatic 65, 3) := by decide +kernel
theorem dX8_isStory_13 : decode cX8_isStory 13 = .ok (.ireturn, 1) := by decide +kernel
theorem dX8_clash_0 : decode cX8_clash 0 = .ok (.aload_n 0, 1) := by decide +kernel
theorem dX8_clash_1 : decode cX8_clash 1 = .ok (.iload_n 1, 1) := by decide +kernel
theorem dX8_clash_2 : decode cX8_clash 2 = .ok (.invokevirtual 180, 3) := by decide +kernel
theorem dX8_clash_5 : decode cX8_clash 5 = .ok (.ifCond .eq 16, 3) := by decide +kernel
theorem dX8_clash_8 : decode cX8_clash 8 = .ok (.aload_n 0, 1) := by decide +kernel
theorem dX8_clash_9 : decode cX8_clash 9 = .ok (.iload_n 2, 1) := by decide +kernel
theorem dX8_clash_10 : decode cX8_clash 10 = .ok (.invokevirtual 180, 3) := by decide +kernel
theorem dX8_clash_13 : decode cX8_clash 13 = .ok (.ifCond .eq 8, 3) := by decide +kernel
theorem dX8_clash_16 : decode cX8_clash 16 = .ok (.iload_n 1, 1) := by decide +kernel
theorem dX8_clash_17 : decode cX8_clash 17 = .ok (.iload_n 2, 1) := by decide +kernel
theorem dX8_clash_18 : decode cX8_clash 18 = .ok (.if_icmp .ne 6, 3) := by decide +kernel
theorem dX8_clash_21 : decode cX8_clash 21 = .ok (.bipush (-101), 2) := by decide +kernel
theorem dX8_clash_23 : decode cX8_clash 23 = .ok (.ireturn, 1) := by decide +kernel
theorem dX8_clash_24 : decode cX8_clash 24 = .ok (.aload_n 0, 1) := by decide +kernel
theorem dX8_clash_25 : decode cX8_clash 25 = .ok (.getfield 43, 3) := by decide +kernel
theorem dX8_clash_28 : decode cX8_clash 28 = .ok (.iload_n 1, 1) := by decide +kernel
theorem dX8_clash_29 : decode cX8_clash 29 = .ok (.iaload, 1) := by decide +kernel
theorem dX8_clash_30 : decode cX8_clash 30 = .ok (.iload_n 2, 1) := by decide +kernel
theorem dX8_clash_31 : decode cX8_clash 31 = .ok (.ishr, 1) := by decide +kernel
theorem dX8_clash_32 : decode cX8_clash 32 = .ok (.iconst 1, 1) := by decide +kernel
theorem dX8_clash_33 : decode cX8_clash 33 = .ok (.iand, 1) := by decide +kernel
theorem dX8_clash_34 : decode cX8_clash 34 = .ok (.istore 4, 2) := by decide +kernel
theorem dX8_clash_36 : decode cX8_clash 36 = .ok (.aload_n 0, 1) := by decide +kernel
theorem dX8_clash_37 : decode cX8_clash 37 = .ok (.getfield 43, 3) := by decide +kernel
theorem dX8_clash_40 : decode cX8_clash 40 = .ok (.iload_n 1, 1) := by decide +kernel
theorem dX8_clash_41 : decode cX8_clash 41 = .ok (.aload_n 0, 1) := by decide +kernel
theorem dX8_clash_42 : decode cX8_clash 42 = .ok (.getfield 43, 3) := by decide +kernel
theorem dX8_clash_45 : decode cX8_clash 45 = .ok (.iload_n 1, 1) := by decide +kernel
theorem dX8_clash_46 : decode cX8_clash 46 = .ok (.iaload, 1) := by decide +kernel
theorem dX8_clash_47 : decode cX8_clash 47 = .ok (.iconst 1, 1) := by decide +kernel
theorem dX8_clash_48 : decode cX8_clash 48 = .ok (.iload_n 2, 1) := by decide +kernel
theorem dX8_clash_49 : decode cX8_clash 49 = .ok (.ishl, 1) := by decide +kernel
theorem dX8_clash_50 : decode cX8_clash 50 = .ok (.iconst (-1), 1) := by decide +kernel
theorem dX8_clash_51 : decode cX8_clash 51 = .ok (.ixor, 1) := by decide +kernel
theorem dX8_clash_52 : decode cX8_clash 52 = .ok (.iand, 1) := by decide +kernel
theorem dX8_clash_53 : decode cX8_clash 53 = .ok (.iload_n 3, 1) := by decide +kernel
theorem dX8_clash_54 : decode cX8_clash 54 = .ok (.ifCond .eq 9, 3) := by decide +kernel
theorem dX8_clash_57 : decode cX8_clash 57 = .ok (.iconst 1, 1) := by decide +kernel
theorem dX8_clash_58 : decode cX8_clash 58 = .ok (.iload_n 2, 1) := by decide +kernel
theorem dX8_clash_59 : decode cX8_clash 59 = .ok (.ishl, 1) := by decide +kernel
theorem dX8_clash_60 : decode cX8_clash 60 = .ok (.goto 4, 3) := by decide +kernel
theorem dX8_clash_63 : decode cX8_clash 63 = .ok (.iconst 0, 1) := by decide +kernel
theorem dX8_clash_64 : decode cX8_clash 64 = .ok (.ior, 1) := by decide +kernel
theorem dX8_clash_65 : decode cX8_clash 65 = .ok (.iastore, 1) := by decide +kernel
theorem dX8_clash_66 : decode cX8_clash 66 = .ok (.aload_n 0, 1) := by decide +kernel
theorem dX8_clash_67 : decode cX8_clash 67 = .ok (.getfield 43, 3) := by decide +kernel
theorem dX8_clash_70 : decode cX8_clash 70 = .ok (.iload_n 2, 1) := by decide +kernel
theorem dX8_clash_71 : decode cX8_clash 71 = .ok (.aload_n 0, 1) := by decide +kernel
theorem dX8_clash_72 : decode cX8_clash 72 = .ok (.getfield 43, 3) := by decide +kernel
theorem dX8_clash_75 : decode cX8_clash 75 = .ok (.iload_n 2, 1) := by decide +kernel
theorem dX8_clash_76 : decode cX8_clash 76 = .ok (.iaload, 1) := by decide +kernel
theorem dX8_clash_77 : decode cX8_clash 77 = .ok (.iconst 1, 1) := by decide +kernel
theorem dX8_clash_78 : decode cX8_clash 78 = .ok (.iload_n 1, 1) := by decide +kernel
theorem dX8_clash_79 : decode cX8_clash 79 = .ok (.ishl, 1) := by decide +kernel
theorem dX8_clash_80 : decode cX8_clash 80 = .ok (.iconst (-1), 1) := by decide +kernel
theorem dX8_clash_81 : decode cX8_clash 81 = .ok (.ixor, 1) := by decide +kernel
theorem dX8_clash_82 : decode cX8_clash 82 = .ok (.iand, 1) := by decide +kernel
theorem dX8_clash_83 : decode cX8_clash 83 = .ok (.iload_n 3, 1) := by decide +kernel
theorem dX8_clash_84 : decode cX8_clash 84 = .ok (.ifCond .eq 9, 3) := by decide +kernel
theorem dX8_clash_87 : decode cX8_clash 87 = .ok (.iconst 1, 1) := by decide +kernel
theorem dX8_clash_88 : decode cX8_clash 88 = .ok (.iload_n 1, 1) := by decide +kernel
theorem dX8_clash_89 : decode cX8_clash 89 = .ok (.ishl, 1) := by decide +kernel
theorem dX8_clash_90 : decode cX8_clash 90 = .ok (.goto 4, 3) := by decide +kernel
theorem dX8_clash_93 : decode cX8_clash 93 = .ok (.iconst 0, 1) := by decide +kernel
theorem dX8_clash_94 : decode cX8_clash 94 = .ok (.ior, 1) := by decide +kernel
theorem dX8_clash_95 : decode cX8_clash 95 = .ok (.iastore, 1) := by decide +kernel
theorem dX8_clash_96 : decode cX8_clash 96 = .ok (.iload 4, 2) := by decide +kernel
theorem dX8_clash_98 : decode cX8_clash 98 = .ok (.ireturn, 1) := by decide +kernel
theorem dX8_ones_0 : decode cX8_ones 0 = .ok (.iconst 0, 1) := by decide +kernel
theorem dX8_ones_1 : decode cX8_ones 1 = .ok (.istore_n 1, 1) := by decide +kernel
theorem dX8_ones_2 : decode cX8_ones 2 = .ok (.iconst 0, 1) := by decide +kernel
theorem dX8_ones_3 : decode cX8_ones 3 = .ok (.istore_n 2, 1) := by decide +kernel
theorem dX8_ones_4 : decode cX8_ones 4 = .ok (.iload_n 2, 1) := by decide +kernel
theorem dX8_ones_5 : decode cX8_ones 5 = .ok (.bipush 9, 2) := by decide +kernel
theorem dX8_ones_7 : decode cX8_ones 7 = .ok (.if_icmp .ge 17, 3) := by decide +kernel
theorem dX8_ones_10 : decode cX8_ones 10 = .ok (.iload_n 1, 1) := by decide +kernel
theorem dX8_ones_11 : decode cX8_ones 11 = .ok (.iload_n 0, 1) := by decide +kernel
theorem dX8_ones_12 : decode cX8_ones 12 = .ok (.iload_n 2, 1) := by decide +kernel
theorem dX8_ones_13 : decode cX8_ones 13 = .ok (.ishr, 1) := by decide +kernel
theorem dX8_ones_14 : decode cX8_ones 14 = .ok (.iconst 1, 1) := by decide +kernel
theorem dX8_ones_15 : decode cX8_ones 15 = .ok (.iand, 1) := by decide +kernel
theorem dX8_ones_16 : decode cX8_ones 16 = .ok (.iadd, 1) := by decide +kernel
theorem dX8_ones_17 : decode cX8_ones 17 = .ok (.istore_n 1, 1) := by decide +kernel
theorem dX8_ones_18 : decode cX8_ones 18 = .ok (.iinc 2 1, 3) := by decide +kernel
theorem dX8_ones_21 : decode cX8_ones 21 = .ok (.goto (-17), 3) := by decide +kernel
theorem dX8_ones_24 : decode cX8_ones 24 = .ok (.iload_n 1, 1) := by decide +kernel
theorem dX8_ones_25 : decode cX8_ones 25 = .ok (.ireturn, 1) := by decide +kernel
theorem dX8_tellCover_0 : decode cX8_tellCover 0 = .ok (.aload_n 0, 1) := by decide +kernel
theorem dX8_tellCover_1 : decode cX8_tellCover 1 = .ok (.invokevirtual 85, 3) := by decide +kernel
theorem dX8_tellCover_4 : decode cX8_tellCover 4 = .ok (.iconst 0, 1) := by decide +kernel
theorem dX8_tellCover_5 : decode cX8_tellCover 5 = .ok (.istore_n 2, 1) := by decide +kernel
theorem dX8_tellCover_6 : decode cX8_tellCover 6 = .ok (.iconst 0, 1) := by decide +kernel
theorem dX8_tellCover_7 : decode cX8_tellCover 7 = .ok (.istore_n 3, 1) := by decide +kernel
theorem dX8_tellCover_8 : decode cX8_tellCover 8 = .ok (.iload_n 3, 1) := by decide +kernel
theorem dX8_tellCover_9 : decode cX8_tellCover 9 = .ok (.aload_n 0, 1) := by decide +kernel
theorem dX8_tellCover_10 : decode cX8_tellCover 10 = .ok (.getfield 62, 3) := by decide +kernel
theorem dX8_tellCover_13 : decode cX8_tellCover 13 = .ok (.if_icmp .ge 30, 3) := by decide +kernel
theorem dX8_tellCover_16 : decode cX8_tellCover 16 = .ok (.iload_n 2, 1) := by decide +kernel
theorem dX8_tellCover_17 : decode cX8_tellCover 17 = .ok (.aload_n 0, 1) := by decide +kernel
theorem dX8_tellCover_18 : decode cX8_tellCover 18 = .ok (.getfield 22, 3) := by decide +kernel
theorem dX8_tellCover_21 : decode cX8_tellCover 21 = .ok (.iload_n 3, 1) := by decide +kernel
theorem dX8_tellCover_22 : decode cX8_tellCover 22 = .ok (.iaload, 1) := by decide +kernel
theorem dX8_tellCover_23 : decode cX8_tellCover 23 = .ok (.bipush 10, 2) := by decide +kernel
theorem dX8_tellCover_25 : decode cX8_tellCover 25 = .ok (.if_icmp .ge 9, 3) := by decide +kernel
theorem dX8_tellCover_28 : decode cX8_tellCover 28 = .ok (.iconst 1, 1) := by decide +kernel
theorem dX8_tellCover_29 : decode cX8_tellCover 29 = .ok (.iload_n 3, 1) := by decide +kernel
theorem dX8_tellCover_30 : decode cX8_tellCover 30 = .ok (.ishl, 1) := by decide +kernel
theorem dX8_tellCover_31 : decode cX8_tellCover 31 = .ok (.goto 4, 3) := by decide +kernel
theorem dX8_tellCover_34 : decode cX8_tellCover 34 = .ok (.iconst 0, 1) := by decide +kernel
theorem dX8_tellCover_35 : decode cX8_tellCover 35 = .ok (.ior, 1) := by decide +kernel
theorem dX8_tellCover_36 : decode cX8_tellCover 36 = .ok (.istore_n 2, 1) := by decide +kernel
theorem dX8_tellCover_37 : decode cX8_tellCover 37 = .ok (.iinc 3 1, 3) := by decide +kernel
theorem dX8_tellCover_40 : decode cX8_tellCover 40 = .ok (.goto (-32), 3) := by decide +kernel
theorem dX8_tellCover_43 : decode cX8_tellCover 43 = .ok (.iconst (-1), 1) := by decide +kernel
theorem dX8_tellCover_44 : decode cX8_tellCover 44 = .ok (.istore_n 3, 1) := by decide +kernel
theorem dX8_tellCover_45 : decode cX8_tellCover 45 = .ok (.iconst 0, 1) := by decide +kernel
theorem dX8_tellCover_46 : decode cX8_tellCover 46 = .ok (.istore 4, 2) := by decide +kernel
theorem dX8_tellCover_48 : decode cX8_tellCover 48 = .ok (.iload 4, 2) := by decide +kernel
theorem dX8_tellCover_50 : decode cX8_tellCover 50 = .ok (.iconst 1, 1) := by decide +kernel
theorem dX8_tellCover_51 : decode cX8_tellCover 51 = .ok (.aload_n 0, 1) := by decide +kernel
theorem dX8_tellCover_52 : decode cX8_tellCover 52 = .ok (.getfield 177, 3) := by decide +kernel
theorem dX8_tellCover_55 : decode cX8_tellCover 55 = .ok (.ishl, 1) := by decide +kernel
theorem dX8_tellCover_56 : decode cX8_tellCover 56 = .ok (.if_icmp .ge 123, 3) := by decide +kernel
theorem dX8_tellCover_59 : decode cX8_tellCover 59 = .ok (.iconst 0, 1) := by decide +kernel
theorem dX8_tellCover_60 : decode cX8_tellCover 60 = .ok (.istore 5, 2) := by decide +kernel
theorem dX8_tellCover_62 : decode cX8_tellCover 62 = .ok (.iload_n 3, 1) := by decide +kernel
theorem dX8_tellCover_63 : decode cX8_tellCover 63 = .ok (.iconst (-1), 1) := by decide +kernel
theorem dX8_tellCover_64 : decode cX8_tellCover 64 = .ok (.if_icmp .eq 15, 3) := by decide +kernel
theorem dX8_tellCover_67 : decode cX8_tellCover 67 = .ok (.iload 4, 2) := by decide +kernel
theorem dX8_tellCover_69 : decode cX8_tellCover 69 = .ok (.invokestatic 183, 3) := by decide +kernel
theorem dX8_tellCover_72 : decode cX8_tellCover 72 = .ok (.iload_n 3, 1) := by decide +kernel
theorem dX8_tellCover_73 : decode cX8_tellCover 73 = .ok (.invokestatic 183, 3) := by decide +kernel
theorem dX8_tellCover_76 : decode cX8_tellCover 76 = .ok (.if_icmp .ge 7, 3) := by decide +kernel
theorem dX8_tellCover_79 : decode cX8_tellCover 79 = .ok (.iconst 1, 1) := by decide +kernel
theorem dX8_tellCover_80 : decode cX8_tellCover 80 = .ok (.goto 4, 3) := by decide +kernel
theorem dX8_tellCover_83 : decode cX8_tellCover 83 = .ok (.iconst 0, 1) := by decide +kernel
theorem dX8_tellCover_84 : decode cX8_tellCover 84 = .ok (.istore 6, 2) := by decide +kernel
theorem dX8_tellCover_86 : decode cX8_tellCover 86 = .ok (.iconst 0, 1) := by decide +kernel
theorem dX8_tellCover_87 : decode cX8_tellCover 87 = .ok (.istore 7, 2) := by decide +kernel
theorem dX8_tellCover_89 : decode cX8_tellCover 89 = .ok (.iload 7, 2) := by decide +kernel
theorem dX8_tellCover_91 : decode cX8_tellCover 91 = .ok (.aload_n 0, 1) := by decide +kernel
theorem dX8_tellCover_92 : decode cX8_tellCover 92 = .ok (.getfield 177, 3) := by decide +kernel
theorem dX8_tellCover_95 : decode cX8_tellCover 95 = .ok (.if_icmp .ge 57, 3) := by decide +kernel
theorem dX8_tellCover_98 : decode cX8_tellCover 98 = .ok (.iload 6, 2) := by decide +kernel
theorem dX8_tellCover_100 : decode cX8_tellCover 100 = .ok (.ifCond .eq 52, 3) := by decide +kernel
theorem dX8_tellCover_103 : decode cX8_tellCover 103 = .ok (.iload 4, 2) := by decide +kernel
theorem dX8_tellCover_105 : decode cX8_tellCover 105 = .ok (.iload 7, 2) := by decide +kernel
theorem dX8_tellCover_107 : decode cX8_tellCover 107 = .ok (.ishr, 1) := by decide +kernel
theorem dX8_tellCover_108 : decode cX8_tellCover 108 = .ok (.iconst 1, 1) := by decide +kernel
theorem dX8_tellCover_109 : decode cX8_tellCover 109 = .ok (.iand, 1) := by decide +kernel
theorem dX8_tellCover_110 : decode cX8_tellCover 110 = .ok (.iconst 1, 1) := by decide +kernel
theorem dX8_tellCover_111 : decode cX8_tellCover 111 = .ok (.if_icmp .ne 35, 3) := by decide +kernel
theorem dX8_tellCover_114 : decode cX8_tellCover 114 = .ok (.iload 5, 2) := by decide +kernel
theorem dX8_tellCover_116 : decode cX8_tellCover 116 = .ok (.aload_n 0, 1) := by decide +kernel
theorem dX8_tellCover_117 : decode cX8_tellCover 117 = .ok (.getfield 40, 3) := by decide +kernel
theorem dX8_tellCover_120 : decode cX8_tellCover 120 = .ok (.iload 7, 2) := by decide +kernel
theorem dX8_tellCover_122 : decode cX8_tellCover 122 = .ok (.iaload, 1) := by decide +kernel
theorem dX8_tellCover_123 : decode cX8_tellCover 123 = .ok (.ior, 1) := by decide +kernel
theorem dX8_tellCover_124 : decode cX8_tellCover 124 = .ok (.istore 5, 2) := by decide +kernel
theorem dX8_tellCover_126 : decode cX8_tellCover 126 = .ok (.aload_n 0, 1) := by decide +kernel
theorem dX8_tellCover_127 : decode cX8_tellCover 127 = .ok (.getfield 43, 3) := by decide +kernel
theorem dX8_tellCover_130 : decode cX8_tellCover 130 = .ok (.iload 7, 2) := by decide +kernel
theorem dX8_tellCover_132 : decode cX8_tellCover 132 = .ok (.iaload, 1) := by decide +kernel
theorem dX8_tellCover_133 : decode cX8_tellCover 133 = .ok (.iload 4, 2) := by decide +kernel
theorem dX8_tellCover_135 : decode cX8_tellCover 135 = .ok (.iand, 1) := by decide +kernel
theorem dX8_tellCover_136 : decode cX8_tellCover 136 = .ok (.ifCond .ne 7, 3) := by decide +kernel
theorem dX8_tellCover_139 : decode cX8_tellCover 139 = .ok (.iconst 1, 1) := by decide +kernel
theorem dX8_tellCover_140 : decode cX8_tellCover 140 = .ok (.goto 4, 3) := by decide +kernel
theorem dX8_tellCover_143 : decode cX8_tellCover 143 = .ok (.iconst 0, 1) := by decide +kernel
theorem dX8_tellCover_144 : decode cX8_tellCover 144 = .ok (.istore 6, 2) := by decide +kernel
theorem dX8_tellCover_146 : decode cX8_tellCover 146 = .ok (.iinc 7 1, 3) := by decide +kernel
theorem dX8_tellCover_149 : decode cX8_tellCover 149 = .ok (.goto (-60), 3) := by decide +kernel
theorem dX8_tellCover_152 : decode cX8_tellCover 152 = .ok (.iload 6, 2) := by decide +kernel
theorem dX8_tellCover_154 : decode cX8_tellCover 154 = .ok (.ifCond .eq 17, 3) := by decide +kernel
theorem dX8_tellCover_157 : decode cX8_tellCover 157 = .ok (.iload_n 2, 1) := by decide +kernel
theorem dX8_tellCover_158 : decode cX8_tellCover 158 = .ok (.iload 5, 2) := by decide +kernel
theorem dX8_tellCover_160 : decode cX8_tellCover 160 = .ok (.iconst (-1), 1) := by decide +kernel
theorem dX8_tellCover_161 : decode cX8_tellCover 161 = .ok (.ixor, 1) := by decide +kernel
theorem dX8_tellCover_162 : decode cX8_tellCover 162 = .ok (.iand, 1) := by decide +kernel
theorem dX8_tellCover_163 : decode cX8_tellCover 163 = .ok (.ifCond .ne 8, 3) := by decide +kernel
theorem dX8_tellCover_166 : decode cX8_tellCover 166 = .ok (.iload 4, 2) := by decide +kernel
theorem dX8_tellCover_168 : decode cX8_tellCover 168 = .ok (.goto 4, 3) := by decide +kernel
theorem dX8_tellCover_171 : decode cX8_tellCover 171 = .ok (.iload_n 3, 1) := by decide +kernel
theorem dX8_tellCover_172 : decode cX8_tellCover 172 = .ok (.istore_n 3, 1) := by decide +kernel
theorem dX8_tellCover_173 : decode cX8_tellCover 173 = .ok (.iinc 4 1, 3) := by decide +kernel
theorem dX8_tellCover_176 : decode cX8_tellCover 176 = .ok (.goto (-128), 3) := by decide +kernel
theorem dX8_tellCover_179 : decode cX8_tellCover 179 = .ok (.iload_n 3, 1) := by decide +kernel
theorem dX8_tellCover_180 : decode cX8_tellCover 180 = .ok (.iconst (-1), 1) := by decide +kernel
theorem dX8_tellCover_181 : decode cX8_tellCover 181 = .ok (.if_icmp .eq 8, 3) := by decide +kernel
theorem dX8_tellCover_184 : decode cX8_tellCover 184 = .ok (.iload_n 1, 1) := by decide +kernel
theorem dX8_tellCover_185 : decode cX8_tellCover 185 = .ok (.iconst 1, 1) := by decide +kernel
theorem dX8_tellCover_186 : decode cX8_tellCover 186 = .ok (.if_icmp .ne 7, 3) := by decide +kernel
theorem dX8_tellCover_189 : decode cX8_tellCover 189 = .ok (.iload_n 3, 1) := by decide +kernel
theorem dX8_tellCover_190 : decode cX8_tellCover 190 = .ok (.goto 7, 3) := by decide +kernel
theorem dX8_tellCover_193 : decode cX8_tellCover 193 = .ok (.iload_n 3, 1) := by decide +kernel
theorem dX8_tellCover_194 : decode cX8_tellCover 194 = .ok (.invokestatic 183, 3) := by decide +kernel
theorem dX8_tellCover_197 : decode cX8_tellCover 197 = .ok (.ireturn, 1) := by decide +kernel
theorem dX8_cover_0 : decode cX8_cover 0 = .ok (.iload_n 1, 1) := by decide +kernel
theorem dX8_cover_1 : decode cX8_cover 1 = .ok (.invokestatic 137, 3) := by decide +kernel
theorem dX8_cover_4 : decode cX8_cover 4 = .ok (.ifCond .eq 11, 3) := by decide +kernel
theorem dX8_cover_7 : decode cX8_cover 7 = .ok (.aload_n 0, 1) := by decide +kernel
theorem dX8_cover_8 : decode cX8_cover 8 = .ok (.iload_n 1, 1) := by decide +kernel
theorem dX8_cover_9 : decode cX8_cover 9 = .ok (.invokevirtual 186, 3) := by decide +kernel
theorem dX8_cover_12 : decode cX8_cover 12 = .ok (.goto 5, 3) := by decide +kernel
theorem dX8_cover_15 : decode cX8_cover 15 = .ok (.bipush (-102), 2) := by decide +kernel
theorem dX8_cover_17 : decode cX8_cover 17 = .ok (.ireturn, 1) := by decide +kernel
theorem dX8_sign_0 : decode cX8_sign 0 = .ok (.iload_n 1, 1) := by decide +kernel
theorem dX8_sign_1 : decode cX8_sign 1 = .ok (.i2l, 1) := by decide +kernel
theorem dX8_sign_2 : decode cX8_sign 2 = .ok (.lconst 1, 1) := by decide +kernel
theorem dX8_sign_3 : decode cX8_sign 3 = .ok (.ldc2_w 100, 3) := by decide +kernel
theorem dX8_sign_6 : decode cX8_sign 6 = .ok (.invokestatic 65, 3) := by decide +kernel
theorem dX8_sign_9 : decode cX8_sign 9 = .ok (.ifCond .eq 15, 3) := by decide +kernel
theorem dX8_sign_12 : decode cX8_sign 12 = .ok (.iload_n 2, 1) := by decide +kernel
theorem dX8_sign_13 : decode cX8_sign 13 = .ok (.i2l, 1) := by decide +kernel
theorem dX8_sign_14 : decode cX8_sign 14 = .ok (.lconst 1, 1) := by decide +kernel
theorem dX8_sign_15 : decode cX8_sign 15 = .ok (.ldc2_w 100, 3) := by decide +kernel
theorem dX8_sign_18 : decode cX8_sign 18 = .ok (.invokestatic 65, 3) := by decide +kernel
theorem dX8_sign_21 : decode cX8_sign 21 = .ok (.ifCond .ne 6, 3) := by decide +kernel
theorem dX8_sign_24 : decode cX8_sign 24 = .ok (.bipush (-102), 2) := by decide +kernel
theorem dX8_sign_26 : decode cX8_sign 26 = .ok (.ireturn, 1) := by decide +kernel
theorem dX8_sign_27 : decode cX8_sign 27 = .ok (.aload_n 0, 1) := by decide +kernel
theorem dX8_sign_28 : decode cX8_sign 28 = .ok (.getfield 189, 3) := by decide +kernel
theorem dX8_sign_31 : decode cX8_sign 31 = .ok (.bipush 8, 2) := by decide +kernel
theorem dX8_sign_33 : decode cX8_sign 33 = .ok (.if_icmp .ne 6, 3) := by decide +kernel
theorem dX8_sign_36 : decode cX8_sign 36 = .ok (.bipush (-104), 2) := by decide +kernel
theorem dX8_sign_38 : decode cX8_sign 38 = .ok (.ireturn, 1) := by decide +kernel
theorem dX8_sign_39 : decode cX8_sign 39 = .ok (.aload_n 0, 1) := by decide +kernel
theorem dX8_sign_40 : decode cX8_sign 40 = .ok (.getfield 46, 3) := by decide +kernel
theorem dX8_sign_43 : decode cX8_sign 43 = .ok (.iconst 3, 1) := by decide +kernel
theorem dX8_sign_44 : decode cX8_sign 44 = .ok (.aload_n 0, 1) := by decide +kernel
theorem dX8_sign_45 : decode cX8_sign 45 = .ok (.getfield 189, 3) := by decide +kernel
theorem dX8_sign_48 : decode cX8_sign 48 = .ok (.imul, 1) := by decide +kernel
theorem dX8_sign_49 : decode cX8_sign 49 = .ok (.iload_n 1, 1) := by decide +kernel
theorem dX8_sign_50 : decode cX8_sign 50 = .ok (.iastore, 1) := by decide +kernel
theorem dX8_sign_51 : decode cX8_sign 51 = .ok (.aload_n 0, 1) := by decide +kernel
theorem dX8_sign_52 : decode cX8_sign 52 = .ok (.getfield 46, 3) := by decide +kernel
theorem dX8_sign_55 : decode cX8_sign 55 = .ok (.iconst 3, 1) := by decide +kernel
theorem dX8_sign_56 : decode cX8_sign 56 = .ok (.aload_n 0, 1) := by decide +kernel
theorem dX8_sign_57 : decode cX8_sign 57 = .ok (.getfield 189, 3) := by decide +kernel
theorem dX8_sign_60 : decode cX8_sign 60 = .ok (.imul, 1) := by decide +kernel
theorem dX8_sign_61 : decode cX8_sign 61 = .ok (.iconst 1, 1) := by decide +kernel
theorem dX8_sign_62 : decode cX8_sign 62 = .ok (.iadd, 1) := by decide +kernel
theorem dX8_sign_63 : decode cX8_sign 63 = .ok (.iload_n 2, 1) := by decide +kernel
theorem dX8_sign_64 : decode cX8_sign 64 = .ok (.iastore, 1) := by decide +kernel
theorem dX8_sign_65 : decode cX8_sign 65 = .ok (.aload_n 0, 1) := by decide +kernel
theorem dX8_sign_66 : decode cX8_sign 66 = .ok (.getfield 46, 3) := by decide +kernel
theorem dX8_sign_69 : decode cX8_sign 69 = .ok (.iconst 3, 1) := by decide +kernel
theorem dX8_sign_70 : decode cX8_sign 70 = .ok (.aload_n 0, 1) := by decide +kernel
theorem dX8_sign_71 : decode cX8_sign 71 = .ok (.getfield 189, 3) := by decide +kernel
theorem dX8_sign_74 : decode cX8_sign 74 = .ok (.imul, 1) := by decide +kernel
theorem dX8_sign_75 : decode cX8_sign 75 = .ok (.iconst 2, 1) := by decide +kernel
theorem dX8_sign_76 : decode cX8_sign 76 = .ok (.iadd, 1) := by decide +kernel
theorem dX8_sign_77 : decode cX8_sign 77 = .ok (.iconst 0, 1) := by decide +kernel
theorem dX8_sign_78 : decode cX8_sign 78 = .ok (.iastore, 1) := by decide +kernel
theorem dX8_sign_79 : decode cX8_sign 79 = .ok (.aload_n 0, 1) := by decide +kernel
theorem dX8_sign_80 : decode cX8_sign 80 = .ok (.dup, 1) := by decide +kernel
theorem dX8_sign_81 : decode cX8_sign 81 = .ok (.getfield 189, 3) := by decide +kernel
theorem dX8_sign_84 : decode cX8_sign 84 = .ok (.iconst 1, 1) := by decide +kernel
theorem dX8_sign_85 : decode cX8_sign 85 = .ok (.iadd, 1) := by decide +kernel
theorem dX8_sign_86 : decode cX8_sign 86 = .ok (.putfield 189, 3) := by decide +kernel
theorem dX8_sign_89 : decode cX8_sign 89 = .ok (.aload_n 0, 1) := by decide +kernel
theorem dX8_sign_90 : decode cX8_sign 90 = .ok (.getfield 189, 3) := by decide +kernel
theorem dX8_sign_93 : decode cX8_sign 93 = .ok (.iconst 1, 1) := by decide +kernel
theorem dX8_sign_94 : decode cX8_sign 94 = .ok (.isub, 1) := by decide +kernel
theorem dX8_sign_95 : decode cX8_sign 95 = .ok (.ireturn, 1) := by decide +kernel
theorem dX8_isSign_0 : decode cX8_isSign 0 = .ok (.iload_n 1, 1) := by decide +kernel
theorem dX8_isSign_1 : decode cX8_isSign 1 = .ok (.i2l, 1) := by decide +kernel
theorem dX8_isSign_2 : decode cX8_isSign 2 = .ok (.lconst 0, 1) := by decide +kernel
theorem dX8_isSign_3 : decode cX8_isSign 3 = .ok (.aload_n 0, 1) := by decide +kernel
theorem dX8_isSign_4 : decode cX8_isSign 4 = .ok (.getfield 189, 3) := by decide +kernel
theorem dX8_isSign_7 : decode cX8_isSign 7 = .ok (.iconst 1, 1) := by decide +kernel
theorem dX8_isSign_8 : decode cX8_isSign 8 = .ok (.isub, 1) := by decide +kernel
theorem dX8_isSign_9 : decode cX8_isSign 9 = .ok (.i2l, 1) := by decide +kernel
theorem dX8_isSign_10 : decode cX8_isSign 10 = .ok (.invokestatic 65, 3) := by decide +kernel
theorem dX8_isSign_13 : decode cX8_isSign 13 = .ok (.ireturn, 1) := by decide +kernel
theorem dX8_look_0 : decode cX8_look 0 = .ok (.aload_n 0, 1) := by decide +kernel
theorem dX8_look_1 : decode cX8_look 1 = .ok (.iload_n 1, 1) := by decide +kernel
theorem dX8_look_2 : decode cX8_look 2 = .ok (.invokevirtual 192, 3) := by decide +kernel
theorem dX8_look_5 : decode cX8_look 5 = .ok (.ifCond .ne 6, 3) := by decide +kernel
theorem dX8_look_8 : decode cX8_look 8 = .ok (.bipush (-101), 2) := by decide +kernel
theorem dX8_look_10 : decode cX8_look 10 = .ok (.ireturn, 1) := by decide +kernel
theorem dX8_look_11 : decode cX8_look 11 = .ok (.iload_n 2, 1) := by decide +kernel
theorem dX8_look_12 : decode cX8_look 12 = .ok (.i2l, 1) := by decide +kernel
theorem dX8_look_13 : decode cX8_look 13 = .ok (.lconst 0, 1) := by decide +kernel
theorem dX8_look_14 : decode cX8_look 14 = .ok (.ldc2_w 119, 3) := by decide +kernel
theorem dX8_look_17 : decode cX8_look 17 = .ok (.invokestatic 65, 3) := by decide +kernel
theorem dX8_look_20 : decode cX8_look 20 = .ok (.ifCond .ne 6, 3) := by decide +kernel
theorem dX8_look_23 : decode cX8_look 23 = .ok (.bipush (-102), 2) := by decide +kernel
theorem dX8_look_25 : decode cX8_look 25 = .ok (.ireturn, 1) := by decide +kernel
theorem dX8_look_26 : decode cX8_look 26 = .ok (.aload_n 0, 1) := by decide +kernel
theorem dX8_look_27 : decode cX8_look 27 = .ok (.getfield 46, 3) := by decide +kernel
theorem dX8_look_30 : decode cX8_look 30 = .ok (.iconst 3, 1) := by decide +kernel
theorem dX8_look_31 : decode cX8_look 31 = .ok (.iload_n 1, 1) := by decide +kernel
theorem dX8_look_32 : decode cX8_look 32 = .ok (.imul, 1) := by decide +kernel
theorem dX8_look_33 : decode cX8_look 33 = .ok (.iconst 2, 1) := by decide +kernel
theorem dX8_look_34 : decode cX8_look 34 = .ok (.iadd, 1) := by decide +kernel
theorem dX8_look_35 : decode cX8_look 35 = .ok (.iaload, 1) := by decide +kernel
theorem dX8_look_36 : decode cX8_look 36 = .ok (.istore_n 3, 1) := by decide +kernel
theorem dX8_look_37 : decode cX8_look 37 = .ok (.aload_n 0, 1) := by decide +kernel
theorem dX8_look_38 : decode cX8_look 38 = .ok (.getfield 46, 3) := by decide +kernel
theorem dX8_look_41 : decode cX8_look 41 = .ok (.iconst 3, 1) := by decide +kernel
theorem dX8_look_42 : decode cX8_look 42 = .ok (.iload_n 1, 1) := by decide +kernel
theorem dX8_look_43 : decode cX8_look 43 = .ok (.imul, 1) := by decide +kernel
theorem dX8_look_44 : decode cX8_look 44 = .ok (.iconst 2, 1) := by decide +kernel
theorem dX8_look_45 : decode cX8_look 45 = .ok (.iadd, 1) := by decide +kernel
theorem dX8_look_46 : decode cX8_look 46 = .ok (.iload_n 2, 1) := by decide +kernel
theorem dX8_look_47 : decode cX8_look 47 = .ok (.iastore, 1) := by decide +kernel
theorem dX8_look_48 : decode cX8_look 48 = .ok (.iload_n 3, 1) := by decide +kernel
theorem dX8_look_49 : decode cX8_look 49 = .ok (.ireturn, 1) := by decide +kernel
theorem dX8_withBy_0 : decode cX8_withBy 0 = .ok (.aload_n 0, 1) := by decide +kernel
theorem dX8_withBy_1 : decode cX8_withBy 1 = .ok (.getfield 46, 3) := by decide +kernel
theorem dX8_withBy_4 : decode cX8_withBy 4 = .ok (.iconst 3, 1) := by decide +kernel
theorem dX8_withBy_5 : decode cX8_withBy 5 = .ok (.iload_n 1, 1) := by decide +kernel
theorem dX8_withBy_6 : decode cX8_withBy 6 = .ok (.imul, 1) := by decide +kernel
theorem dX8_withBy_7 : decode cX8_withBy 7 = .ok (.iaload, 1) := by decide +kernel
theorem dX8_withBy_8 : decode cX8_withBy 8 = .ok (.istore_n 3, 1) := by decide +kernel
theorem dX8_withBy_9 : decode cX8_withBy 9 = .ok (.aload_n 0, 1) := by decide +kernel
theorem dX8_withBy_10 : decode cX8_withBy 10 = .ok (.getfield 46, 3) := by decide +kernel
theorem dX8_withBy_13 : decode cX8_withBy 13 = .ok (.iconst 3, 1) := by decide +kernel
theorem dX8_withBy_14 : decode cX8_withBy 14 = .ok (.iload_n 1, 1) := by decide +kernel
theorem dX8_withBy_15 : decode cX8_withBy 15 = .ok (.imul, 1) := by decide +kernel
theorem dX8_withBy_16 : decode cX8_withBy 16 = .ok (.iconst 1, 1) := by decide +kernel
theorem dX8_withBy_17 : decode cX8_withBy 17 = .ok (.iadd, 1) := by decide +kernel
theorem dX8_withBy_18 : decode cX8_withBy 18 = .ok (.iaload, 1) := by decide +kernel
theorem dX8_withBy_19 : decode cX8_withBy 19 = .ok (.iload_n 3, 1) := by decide +kernel
theorem dX8_withBy_20 : decode cX8_withBy 20 = .ok (.isub, 1) := by decide +kernel
theorem dX8_withBy_21 : decode cX8_withBy 21 = .ok (.istore 4, 2) := by decide +kernel
theorem dX8_withBy_23 : decode cX8_withBy 23 = .ok (.iload 4, 2) := by decide +kernel
theorem dX8_withBy_25 : decode cX8_withBy 25 = .ok (.ifCond .ge 17, 3) := by decide +kernel
theorem dX8_withBy_28 : decode cX8_withBy 28 = .ok (.iload 4, 2) := by decide +kernel
theorem dX8_withBy_30 : decode cX8_withBy 30 = .ok (.ineg, 1) := by decide +kernel
theorem dX8_withBy_31 : decode cX8_withBy 31 = .ok (.iload_n 2, 1) := by decide +kernel
theorem dX8_withBy_32 : decode cX8_withBy 32 = .ok (.imul, 1) := by decide +kernel
theorem dX8_withBy_33 : decode cX8_withBy 33 = .ok (.bipush 9, 2) := by decide +kernel
theorem dX8_withBy_35 : decode cX8_withBy 35 = .ok (.iadd, 1) := by decide +kernel
theorem dX8_withBy_36 : decode cX8_withBy 36 = .ok (.bipush 10, 2) := by decide +kernel
theorem dX8_withBy_38 : decode cX8_withBy 38 = .ok (.idiv, 1) := by decide +kernel
theorem dX8_withBy_39 : decode cX8_withBy 39 = .ok (.goto 13, 3) := by decide +kernel
theorem dX8_withBy_42 : decode cX8_withBy 42 = .ok (.iload 4, 2) := by decide +kernel
theorem dX8_withBy_44 : decode cX8_withBy 44 = .ok (.iload_n 2, 1) := by decide +kernel
theorem dX8_withBy_45 : decode cX8_withBy 45 = .ok (.imul, 1) := by decide +kernel
theorem dX8_withBy_46 : decode cX8_withBy 46 = .ok (.bipush 9, 2) := by decide +kernel
theorem dX8_withBy_48 : decode cX8_withBy 48 = .ok (.iadd, 1) := by decide +kernel
theorem dX8_withBy_49 : decode cX8_withBy 49 = .ok (.bipush 10, 2) := by decide +kernel
theorem dX8_withBy_51 : decode cX8_withBy 51 = .ok (.idiv, 1) := by decide +kernel
theorem dX8_withBy_52 : decode cX8_withBy 52 = .ok (.istore 5, 2) := by decide +kernel
theorem dX8_withBy_54 : decode cX8_withBy 54 = .ok (.iload 4, 2) := by decide +kernel
theorem dX8_withBy_56 : decode cX8_withBy 56 = .ok (.ifCond .ge 10, 3) := by decide +kernel
theorem dX8_withBy_59 : decode cX8_withBy 59 = .ok (.iload_n 3, 1) := by decide +kernel
theorem dX8_withBy_60 : decode cX8_withBy 60 = .ok (.iload 5, 2) := by decide +kernel
theorem dX8_withBy_62 : decode cX8_withBy 62 = .ok (.isub, 1) := by decide +kernel
theorem dX8_withBy_63 : decode cX8_withBy 63 = .ok (.goto 7, 3) := by decide +kernel
theorem dX8_withBy_66 : decode cX8_withBy 66 = .ok (.iload_n 3, 1) := by decide +kernel
theorem dX8_withBy_67 : decode cX8_withBy 67 = .ok (.iload 5, 2) := by decide +kernel
theorem dX8_withBy_69 : decode cX8_withBy 69 = .ok (.iadd, 1) := by decide +kernel
theorem dX8_withBy_70 : decode cX8_withBy 70 = .ok (.ireturn, 1) := by decide +kernel
theorem dX8_weight_0 : decode cX8_weight 0 = .ok (.lconst 1, 1) := by decide +kernel
theorem dX8_weight_1 : decode cX8_weight 1 = .ok (.lstore_n 3, 1) := by decide +kernel
theorem dX8_weight_2 : decode cX8_weight 2 = .ok (.iconst 0, 1) := by decide +kernel
theorem dX8_weight_3 : decode cX8_weight 3 = .ok (.istore 5, 2) := by decide +kernel
theorem dX8_weight_5 : decode cX8_weight 5 = .ok (.iload 5, 2) := by decide +kernel
theorem dX8_weight_7 : decode cX8_weight 7 = .ok (.aload_n 0, 1) := by decide +kernel
theorem dX8_weight_8 : decode cX8_weight 8 = .ok (.getfield 189, 3) := by decide +kernel
theorem dX8_weight_11 : decode cX8_weight 11 = .ok (.if_icmp .ge 97, 3) := by decide +kernel
theorem dX8_weight_14 : decode cX8_weight 14 = .ok (.aload_n 0, 1) := by decide +kernel
theorem dX8_weight_15 : decode cX8_weight 15 = .ok (.getfield 46, 3) := by decide +kernel
theorem dX8_weight_18 : decode cX8_weight 18 = .ok (.iconst 3, 1) := by decide +kernel
theorem dX8_weight_19 : decode cX8_weight 19 = .ok (.iload 5, 2) := by decide +kernel
theorem dX8_weight_21 : decode cX8_weight 21 = .ok (.imul, 1) := by decide +kernel
theorem dX8_weight_22 : decode cX8_weight 22 = .ok (.iconst 2, 1) := by decide +kernel
theorem dX8_weight_23 : decode cX8_weight 23 = .ok (.iadd, 1) := by decide +kernel
theorem dX8_weight_24 : decode cX8_weight 24 = .ok (.iaload, 1) := by decide +kernel
theorem dX8_weight_25 : decode cX8_weight 25 = .ok (.istore 6, 2) := by decide +kernel
theorem dX8_weight_27 : decode cX8_weight 27 = .ok (.iload_n 1, 1) := by decide +kernel
theorem dX8_weight_28 : decode cX8_weight 28 = .ok (.ifCond .ne 17, 3) := by decide +kernel
theorem dX8_weight_31 : decode cX8_weight 31 = .ok (.aload_n 0, 1) := by decide +kernel
theorem dX8_weight_32 : decode cX8_weight 32 = .ok (.getfield 46, 3) := by decide +kernel
theorem dX8_weight_35 : decode cX8_weight 35 = .ok (.iconst 3, 1) := by decide +kernel
theorem dX8_weight_36 : decode cX8_weight 36 = .ok (.iload 5, 2) := by decide +kernel
theorem dX8_weight_38 : decode cX8_weight 38 = .ok (.imul, 1) := by decide +kernel
theorem dX8_weight_39 : decode cX8_weight 39 = .ok (.iconst 1, 1) := by decide +kernel
theorem dX8_weight_40 : decode cX8_weight 40 = .ok (.iadd, 1) := by decide +kernel
theorem dX8_weight_41 : decode cX8_weight 41 = .ok (.iaload, 1) := by decide +kernel
theorem dX8_weight_42 : decode cX8_weight 42 = .ok (.goto 28, 3) := by decide +kernel
theorem dX8_weight_45 : decode cX8_weight 45 = .ok (.iload 6, 2) := by decide +kernel
theorem dX8_weight_47 : decode cX8_weight 47 = .ok (.iconst 1, 1) := by decide +kernel
theorem dX8_weight_48 : decode cX8_weight 48 = .ok (.if_icmp .ne 13, 3) := by decide +kernel
theorem dX8_weight_51 : decode cX8_weight 51 = .ok (.aload_n 0, 1) := by decide +kernel
theorem dX8_weight_52 : decode cX8_weight 52 = .ok (.iload 5, 2) := by decide +kernel
theorem dX8_weight_54 : decode cX8_weight 54 = .ok (.iload_n 2, 1) := by decide +kernel
theorem dX8_weight_55 : decode cX8_weight 55 = .ok (.invokevirtual 195, 3) := by decide +kernel
theorem dX8_weight_58 : decode cX8_weight 58 = .ok (.goto 12, 3) := by decide +kernel
theorem dX8_weight_61 : decode cX8_weight 61 = .ok (.aload_n 0, 1) := by decide +kernel
theorem dX8_weight_62 : decode cX8_weight 62 = .ok (.getfield 46, 3) := by decide +kernel
theorem dX8_weight_65 : decode cX8_weight 65 = .ok (.iconst 3, 1) := by decide +kernel
theorem dX8_weight_66 : decode cX8_weight 66 = .ok (.iload 5, 2) := by decide +kernel
theorem dX8_weight_68 : decode cX8_weight 68 = .ok (.imul, 1) := by decide +kernel
theorem dX8_weight_69 : decode cX8_weight 69 = .ok (.iaload, 1) := by decide +kernel
theorem dX8_weight_70 : decode cX8_weight 70 = .ok (.istore 7, 2) := by decide +kernel
theorem dX8_weight_72 : decode cX8_weight 72 = .ok (.lload_n 3, 1) := by decide +kernel
theorem dX8_weight_73 : decode cX8_weight 73 = .ok (.iload 6, 2) := by decide +kernel
theorem dX8_weight_75 : decode cX8_weight 75 = .ok (.ifCond .ne 7, 3) := by decide +kernel
theorem dX8_weight_78 : decode cX8_weight 78 = .ok (.lconst 1, 1) := by decide +kernel
theorem dX8_weight_79 : decode cX8_weight 79 = .ok (.goto 21, 3) := by decide +kernel
theorem dX8_weight_82 : decode cX8_weight 82 = .ok (.iload 6, 2) := by decide +kernel
theorem dX8_weight_84 : decode cX8_weight 84 = .ok (.iconst 1, 1) := by decide +kernel
theorem dX8_weight_85 : decode cX8_weight 85 = .ok (.if_icmp .ne 9, 3) := by decide +kernel
theorem dX8_weight_88 : decode cX8_weight 88 = .ok (.iload 7, 2) := by decide +kernel
theorem dX8_weight_90 : decode cX8_weight 90 = .ok (.i2l, 1) := by decide +kernel
theorem dX8_weight_91 : decode cX8_weight 91 = .ok (.goto 9, 3) := by decide +kernel
theorem dX8_weight_94 : decode cX8_weight 94 = .ok (.bipush 10, 2) := by decide +kernel
theorem dX8_weight_96 : decode cX8_weight 96 = .ok (.iload 7, 2) := by decide +kernel
theorem dX8_weight_98 : decode cX8_weight 98 = .ok (.isub, 1) := by decide +kernel
theorem dX8_weight_99 : decode cX8_weight 99 = .ok (.i2l, 1) := by decide +kernel
theorem dX8_weight_100 : decode cX8_weight 100 = .ok (.lmul, 1) := by decide +kernel
theorem dX8_weight_101 : decode cX8_weight 101 = .ok (.lstore_n 3, 1) := by decide +kernel
theorem dX8_weight_102 : decode cX8_weight 102 = .ok (.iinc 5 1, 3) := by decide +kernel
theorem dX8_weight_105 : decode cX8_weight 105 = .ok (.goto (-100), 3) := by decide +kernel
theorem dX8_weight_108 : decode cX8_weight 108 = .ok (.lload_n 3, 1) := by decide +kernel
theorem dX8_weight_109 : decode cX8_weight 109 = .ok (.lreturn, 1) := by decide +kernel
theorem dX8_tellBelief_0 : decode cX8_tellBelief 0 = .ok (.aload_n 0, 1) := by decide +kernel
theorem dX8_tellBelief_1 : decode cX8_tellBelief 1 = .ok (.iconst 1, 1) := by decide +kernel
theorem dX8_tellBelief_2 : decode cX8_tellBelief 2 = .ok (.iload_n 1, 1) := by decide +kernel
theorem dX8_tellBelief_3 : decode cX8_tellBelief 3 = .ok (.invokevirtual 198, 3) := by decide +kernel
theorem dX8_tellBelief_6 : decode cX8_tellBelief 6 = .ok (.lstore_n 3, 1) := by decide +kernel
theorem dX8_tellBelief_7 : decode cX8_tellBelief 7 = .ok (.lload_n 3, 1) := by decide +kernel
theorem dX8_tellBelief_8 : decode cX8_tellBelief 8 = .ok (.lload_n 3, 1) := by decide +kernel
theorem dX8_tellBelief_9 : decode cX8_tellBelief 9 = .ok (.aload_n 0, 1) := by decide +kernel
theorem dX8_tellBelief_10 : decode cX8_tellBelief 10 = .ok (.iconst 0, 1) := by decide +kernel
theorem dX8_tellBelief_11 : decode cX8_tellBelief 11 = .ok (.iload_n 1, 1) := by decide +kernel
theorem dX8_tellBelief_12 : decode cX8_tellBelief 12 = .ok (.invokevirtual 198, 3) := by decide +kernel
theorem dX8_tellBelief_15 : decode cX8_tellBelief 15 = .ok (.ladd, 1) := by decide +kernel
theorem dX8_tellBelief_16 : decode cX8_tellBelief 16 = .ok (.iload_n 2, 1) := by decide +kernel
theorem dX8_tellBelief_17 : decode cX8_tellBelief 17 = .ok (.invokestatic 133, 3) := by decide +kernel
theorem dX8_tellBelief_20 : decode cX8_tellBelief 20 = .ok (.lreturn, 1) := by decide +kernel
theorem dX8_belief_0 : decode cX8_belief 0 = .ok (.iload_n 1, 1) := by decide +kernel
theorem dX8_belief_1 : decode cX8_belief 1 = .ok (.i2l, 1) := by decide +kernel
theorem dX8_belief_2 : decode cX8_belief 2 = .ok (.lconst 0, 1) := by decide +kernel
theorem dX8_belief_3 : decode cX8_belief 3 = .ok (.ldc2_w 100, 3) := by decide +kernel
theorem dX8_belief_6 : decode cX8_belief 6 = .ok (.invokestatic 65, 3) := by decide +kernel
theorem dX8_belief_9 : decode cX8_belief 9 = .ok (.ifCond .eq 19, 3) := by decide +kernel
theorem dX8_belief_12 : decode cX8_belief 12 = .ok (.iload_n 2, 1) := by decide +kernel
theorem dX8_belief_13 : decode cX8_belief 13 = .ok (.invokestatic 137, 3) := by decide +kernel
theorem dX8_belief_16 : decode cX8_belief 16 = .ok (.ifCond .eq 12, 3) := by decide +kernel
theorem dX8_belief_19 : decode cX8_belief 19 = .ok (.aload_n 0, 1) := by decide +kernel
theorem dX8_belief_20 : decode cX8_belief 20 = .ok (.iload_n 1, 1) := by decide +kernel
theorem dX8_belief_21 : decode cX8_belief 21 = .ok (.iload_n 2, 1) := by decide +kernel
theorem dX8_belief_22 : decode cX8_belief 22 = .ok (.invokevirtual 202, 3) := by decide +kernel
theorem dX8_belief_25 : decode cX8_belief 25 = .ok (.goto 6, 3) := by decide +kernel
theorem dX8_belief_28 : decode cX8_belief 28 = .ok (.ldc2_w 144, 3) := by decide +kernel
theorem dX8_belief_31 : decode cX8_belief 31 = .ok (.lreturn, 1) := by decide +kernel
theorem dX8_lesser_0 : decode cX8_lesser 0 = .ok (.lload_n 0, 1) := by decide +kernel
theorem dX8_lesser_1 : decode cX8_lesser 1 = .ok (.lload_n 2, 1) := by decide +kernel
theorem dX8_lesser_2 : decode cX8_lesser 2 = .ok (.lcmp, 1) := by decide +kernel
theorem dX8_lesser_3 : decode cX8_lesser 3 = .ok (.ifCond .ge 7, 3) := by decide +kernel
theorem dX8_lesser_6 : decode cX8_lesser 6 = .ok (.lload_n 0, 1) := by decide +kernel
theorem dX8_lesser_7 : decode cX8_lesser 7 = .ok (.goto 4, 3) := by decide +kernel
theorem dX8_lesser_10 : decode cX8_lesser 10 = .ok (.lload_n 2, 1) := by decide +kernel
theorem dX8_lesser_11 : decode cX8_lesser 11 = .ok (.lreturn, 1) := by decide +kernel
theorem dX8_partingOf_0 : decode cX8_partingOf 0 = .ok (.aload_n 0, 1) := by decide +kernel
theorem dX8_partingOf_1 : decode cX8_partingOf 1 = .ok (.iconst 1, 1) := by decide +kernel
theorem dX8_partingOf_2 : decode cX8_partingOf 2 = .ok (.iconst 0, 1) := by decide +kernel
theorem dX8_partingOf_3 : decode cX8_partingOf 3 = .ok (.invokevirtual 198, 3) := by decide +kernel
theorem dX8_partingOf_6 : decode cX8_partingOf 6 = .ok (.lstore_n 1, 1) := by decide +kernel
theorem dX8_partingOf_7 : decode cX8_partingOf 7 = .ok (.aload_n 0, 1) := by decide +kernel
theorem dX8_partingOf_8 : decode cX8_partingOf 8 = .ok (.iconst 0, 1) := by decide +kernel
theorem dX8_partingOf_9 : decode cX8_partingOf 9 = .ok (.iconst 0, 1) := by decide +kernel
theorem dX8_partingOf_10 : decode cX8_partingOf 10 = .ok (.invokevirtual 198, 3) := by decide +kernel
theorem dX8_partingOf_13 : decode cX8_partingOf 13 = .ok (.lstore_n 3, 1) := by decide +kernel
theorem dX8_partingOf_14 : decode cX8_partingOf 14 = .ok (.iconst (-1), 1) := by decide +kernel
theorem dX8_partingOf_15 : decode cX8_partingOf 15 = .ok (.istore 5, 2) := by decide +kernel
theorem dX8_partingOf_17 : decode cX8_partingOf 17 = .ok (.lconst 0, 1) := by decide +kernel
theorem dX8_partingOf_18 : decode cX8_partingOf 18 = .ok (.lstore 6, 2) := by decide +kernel
theorem dX8_partingOf_20 : decode cX8_partingOf 20 = .ok (.iconst 0, 1) := by decide +kernel
theorem dX8_partingOf_21 : decode cX8_partingOf 21 = .ok (.istore 8, 2) := by decide +kernel
theorem dX8_partingOf_23 : decode cX8_partingOf 23 = .ok (.iload 8, 2) := by decide +kernel
theorem dX8_partingOf_25 : decode cX8_partingOf 25 = .ok (.aload_n 0, 1) := by decide +kernel
theorem dX8_partingOf_26 : decode cX8_partingOf 26 = .ok (.getfield 189, 3) := by decide +kernel
theorem dX8_partingOf_29 : decode cX8_partingOf 29 = .ok (.if_icmp .ge 121, 3) := by decide +kernel
theorem dX8_partingOf_32 : decode cX8_partingOf 32 = .ok (.aload_n 0, 1) := by decide +kernel
theorem dX8_partingOf_33 : decode cX8_partingOf 33 = .ok (.getfield 46, 3) := by decide +kernel
theorem dX8_partingOf_36 : decode cX8_partingOf 36 = .ok (.iconst 3, 1) := by decide +kernel
theorem dX8_partingOf_37 : decode cX8_partingOf 37 = .ok (.iload 8, 2) := by decide +kernel
theorem dX8_partingOf_39 : decode cX8_partingOf 39 = .ok (.imul, 1) := by decide +kernel
theorem dX8_partingOf_40 : decode cX8_partingOf 40 = .ok (.iconst 2, 1) := by decide +kernel
theorem dX8_partingOf_41 : decode cX8_partingOf 41 = .ok (.iadd, 1) := by decide +kernel
theorem dX8_partingOf_42 : decode cX8_partingOf 42 = .ok (.iaload, 1) := by decide +kernel
theorem dX8_partingOf_43 : decode cX8_partingOf 43 = .ok (.ifCond .ne 101, 3) := by decide +kernel
theorem dX8_partingOf_46 : decode cX8_partingOf 46 = .ok (.aload_n 0, 1) := by decide +kernel
theorem dX8_partingOf_47 : decode cX8_partingOf 47 = .ok (.getfield 46, 3) := by decide +kernel
theorem dX8_partingOf_50 : decode cX8_partingOf 50 = .ok (.iconst 3, 1) := by decide +kernel
theorem dX8_partingOf_51 : decode cX8_partingOf 51 = .ok (.iload 8, 2) := by decide +kernel
theorem dX8_partingOf_53 : decode cX8_partingOf 53 = .ok (.imul, 1) := by decide +kernel
theorem dX8_partingOf_54 : decode cX8_partingOf 54 = .ok (.iaload, 1) := by decide +kernel
theorem dX8_partingOf_55 : decode cX8_partingOf 55 = .ok (.i2l, 1) := by decide +kernel
theorem dX8_partingOf_56 : decode cX8_partingOf 56 = .ok (.lstore 9, 2) := by decide +kernel
theorem dX8_partingOf_58 : decode cX8_partingOf 58 = .ok (.aload_n 0, 1) := by decide +kernel
theorem dX8_partingOf_59 : decode cX8_partingOf 59 = .ok (.getfield 46, 3) := by decide +kernel
theorem dX8_partingOf_62 : decode cX8_partingOf 62 = .ok (.iconst 3, 1) := by decide +kernel
theorem dX8_partingOf_63 : decode cX8_partingOf 63 = .ok (.iload 8, 2) := by decide +kernel
theorem dX8_partingOf_65 : decode cX8_partingOf 65 = .ok (.imul, 1) := by decide +kernel
theorem dX8_partingOf_66 : decode cX8_partingOf 66 = .ok (.iconst 1, 1) := by decide +kernel
theorem dX8_partingOf_67 : decode cX8_partingOf 67 = .ok (.iadd, 1) := by decide +kernel
theorem dX8_partingOf_68 : decode cX8_partingOf 68 = .ok (.iaload, 1) := by decide +kernel
theorem dX8_partingOf_69 : decode cX8_partingOf 69 = .ok (.i2l, 1) := by decide +kernel
theorem dX8_partingOf_70 : decode cX8_partingOf 70 = .ok (.lstore 11, 2) := by decide +kernel
theorem dX8_partingOf_72 : decode cX8_partingOf 72 = .ok (.lload_n 1, 1) := by decide +kernel
theorem dX8_partingOf_73 : decode cX8_partingOf 73 = .ok (.lload 9, 2) := by decide +kernel
theorem dX8_partingOf_75 : decode cX8_partingOf 75 = .ok (.lmul, 1) := by decide +kernel
theorem dX8_partingOf_76 : decode cX8_partingOf 76 = .ok (.lload_n 3, 1) := by decide +kernel
theorem dX8_partingOf_77 : decode cX8_partingOf 77 = .ok (.lload 11, 2) := by decide +kernel
theorem dX8_partingOf_79 : decode cX8_partingOf 79 = .ok (.lmul, 1) := by decide +kernel
theorem dX8_partingOf_80 : decode cX8_partingOf 80 = .ok (.invokestatic 206, 3) := by decide +kernel
theorem dX8_partingOf_83 : decode cX8_partingOf 83 = .ok (.lload_n 1, 1) := by decide +kernel
theorem dX8_partingOf_84 : decode cX8_partingOf 84 = .ok (.ldc2_w 124, 3) := by decide +kernel
theorem dX8_partingOf_87 : decode cX8_partingOf 87 = .ok (.lload 9, 2) := by decide +kernel
theorem dX8_partingOf_89 : decode cX8_partingOf 89 = .ok (.lsub, 1) := by decide +kernel
theorem dX8_partingOf_90 : decode cX8_partingOf 90 = .ok (.lmul, 1) := by decide +kernel
theorem dX8_partingOf_91 : decode cX8_partingOf 91 = .ok (.lload_n 3, 1) := by decide +kernel
theorem dX8_partingOf_92 : decode cX8_partingOf 92 = .ok (.ldc2_w 124, 3) := by decide +kernel
theorem dX8_partingOf_95 : decode cX8_partingOf 95 = .ok (.lload 11, 2) := by decide +kernel
theorem dX8_partingOf_97 : decode cX8_partingOf 97 = .ok (.lsub, 1) := by decide +kernel
theorem dX8_partingOf_98 : decode cX8_partingOf 98 = .ok (.lmul, 1) := by decide +kernel
theorem dX8_partingOf_99 : decode cX8_partingOf 99 = .ok (.invokestatic 206, 3) := by decide +kernel
theorem dX8_partingOf_102 : decode cX8_partingOf 102 = .ok (.ladd, 1) := by decide +kernel
theorem dX8_partingOf_103 : decode cX8_partingOf 103 = .ok (.lstore 13, 2) := by decide +kernel
theorem dX8_partingOf_105 : decode cX8_partingOf 105 = .ok (.iload 5, 2) := by decide +kernel
theorem dX8_partingOf_107 : decode cX8_partingOf 107 = .ok (.iconst (-1), 1) := by decide +kernel
theorem dX8_partingOf_108 : decode cX8_partingOf 108 = .ok (.if_icmp .eq 11, 3) := by decide +kernel
theorem dX8_partingOf_111 : decode cX8_partingOf 111 = .ok (.lload 13, 2) := by decide +kernel
theorem dX8_partingOf_113 : decode cX8_partingOf 113 = .ok (.lload 6, 2) := by decide +kernel
theorem dX8_partingOf_115 : decode cX8_partingOf 115 = .ok (.lcmp, 1) := by decide +kernel
theorem dX8_partingOf_116 : decode cX8_partingOf 116 = .ok (.ifCond .ge 8, 3) := by decide +kernel
theorem dX8_partingOf_119 : decode cX8_partingOf 119 = .ok (.iload 8, 2) := by decide +kernel
theorem dX8_partingOf_121 : decode cX8_partingOf 121 = .ok (.goto 5, 3) := by decide +kernel
theorem dX8_partingOf_124 : decode cX8_partingOf 124 = .ok (.iload 5, 2) := by decide +kernel
theorem dX8_partingOf_126 : decode cX8_partingOf 126 = .ok (.istore 5, 2) := by decide +kernel
theorem dX8_partingOf_128 : decode cX8_partingOf 128 = .ok (.iload 5, 2) := by decide +kernel
theorem dX8_partingOf_130 : decode cX8_partingOf 130 = .ok (.iload 8, 2) := by decide +kernel
theorem dX8_partingOf_132 : decode cX8_partingOf 132 = .ok (.if_icmp .ne 8, 3) := by decide +kernel
theorem dX8_partingOf_135 : decode cX8_partingOf 135 = .ok (.lload 13, 2) := by decide +kernel
theorem dX8_partingOf_137 : decode cX8_partingOf 137 = .ok (.goto 5, 3) := by decide +kernel
theorem dX8_partingOf_140 : decode cX8_partingOf 140 = .ok (.lload 6, 2) := by decide +kernel
theorem dX8_partingOf_142 : decode cX8_partingOf 142 = .ok (.lstore 6, 2) := by decide +kernel
theorem dX8_partingOf_144 : decode cX8_partingOf 144 = .ok (.iinc 8 1, 3) := by decide +kernel
theorem dX8_partingOf_147 : decode cX8_partingOf 147 = .ok (.goto (-124), 3) := by decide +kernel
theorem dX8_partingOf_150 : decode cX8_partingOf 150 = .ok (.iload 5, 2) := by decide +kernel
theorem dX8_partingOf_152 : decode cX8_partingOf 152 = .ok (.ireturn, 1) := by decide +kernel
theorem dX8_parting_0 : decode cX8_parting 0 = .ok (.aload_n 0, 1) := by decide +kernel
theorem dX8_parting_1 : decode cX8_parting 1 = .ok (.invokevirtual 210, 3) := by decide +kernel
theorem dX8_parting_4 : decode cX8_parting 4 = .ok (.ireturn, 1) := by decide +kernel
theorem dX8_quiet_0 : decode cX8_quiet 0 = .ok (.iload_n 1, 1) := by decide +kernel
theorem dX8_quiet_1 : decode cX8_quiet 1 = .ok (.i2l, 1) := by decide +kernel
theorem dX8_quiet_2 : decode cX8_quiet 2 = .ok (.lconst 1, 1) := by decide +kernel
theorem dX8_quiet_3 : decode cX8_quiet 3 = .ok (.ldc2_w 100, 3) := by decide +kernel
theorem dX8_quiet_6 : decode cX8_quiet 6 = .ok (.invokestatic 65, 3) := by decide +kernel
theorem dX8_quiet_9 : decode cX8_quiet 9 = .ok (.ifCond .eq 39, 3) := by decide +kernel
theorem dX8_quiet_12 : decode cX8_quiet 12 = .ok (.iload_n 2, 1) := by decide +kernel
theorem dX8_quiet_13 : decode cX8_quiet 13 = .ok (.i2l, 1) := by decide +kernel
theorem dX8_quiet_14 : decode cX8_quiet 14 = .ok (.lconst 0, 1) := by decide +kernel
theorem dX8_quiet_15 : decode cX8_quiet 15 = .ok (.ldc2_w 100, 3) := by decide +kernel
theorem dX8_quiet_18 : decode cX8_quiet 18 = .ok (.invokestatic 65, 3) := by decide +kernel
theorem dX8_quiet_21 : decode cX8_quiet 21 = .ok (.ifCond .eq 27, 3) := by decide +kernel
theorem dX8_quiet_24 : decode cX8_quiet 24 = .ok (.iload_n 3, 1) := by decide +kernel
theorem dX8_quiet_25 : decode cX8_quiet 25 = .ok (.i2l, 1) := by decide +kernel
theorem dX8_quiet_26 : decode cX8_quiet 26 = .ok (.lconst 1, 1) := by decide +kernel
theorem dX8_quiet_27 : decode cX8_quiet 27 = .ok (.ldc2_w 156, 3) := by decide +kernel
theorem dX8_quiet_30 : decode cX8_quiet 30 = .ok (.invokestatic 65, 3) := by decide +kernel
theorem dX8_quiet_33 : decode cX8_quiet 33 = .ok (.ifCond .eq 15, 3) := by decide +kernel
theorem dX8_quiet_36 : decode cX8_quiet 36 = .ok (.iload_n 1, 1) := by decide +kernel
theorem dX8_quiet_37 : decode cX8_quiet 37 = .ok (.iload_n 3, 1) := by decide +kernel
theorem dX8_quiet_38 : decode cX8_quiet 38 = .ok (.imul, 1) := by decide +kernel
theorem dX8_quiet_39 : decode cX8_quiet 39 = .ok (.bipush 18, 2) := by decide +kernel
theorem dX8_quiet_41 : decode cX8_quiet 41 = .ok (.if_icmp .gt 7, 3) := by decide +kernel
theorem dX8_quiet_44 : decode cX8_quiet 44 = .ok (.iconst 1, 1) := by decide +kernel
theorem dX8_quiet_45 : decode cX8_quiet 45 = .ok (.goto 4, 3) := by decide +kernel
theorem dX8_quiet_48 : decode cX8_quiet 48 = .ok (.iconst 0, 1) := by decide +kernel
theorem dX8_quiet_49 : decode cX8_quiet 49 = .ok (.istore 5, 2) := by decide +kernel
theorem dX8_quiet_51 : decode cX8_quiet 51 = .ok (.iload 5, 2) := by decide +kernel
theorem dX8_quiet_53 : decode cX8_quiet 53 = .ok (.ifCond .eq 11, 3) := by decide +kernel
theorem dX8_quiet_56 : decode cX8_quiet 56 = .ok (.iload 4, 2) := by decide +kernel
theorem dX8_quiet_58 : decode cX8_quiet 58 = .ok (.invokestatic 137, 3) := by decide +kernel
theorem dX8_quiet_61 : decode cX8_quiet 61 = .ok (.ifCond .ne 7, 3) := by decide +kernel
theorem dX8_quiet_64 : decode cX8_quiet 64 = .ok (.ldc2_w 144, 3) := by decide +kernel
theorem dX8_quiet_67 : decode cX8_quiet 67 = .ok (.lreturn, 1) := by decide +kernel
theorem dX8_quiet_68 : decode cX8_quiet 68 = .ok (.lconst 1, 1) := by decide +kernel
theorem dX8_quiet_69 : decode cX8_quiet 69 = .ok (.lstore 6, 2) := by decide +kernel
theorem dX8_quiet_71 : decode cX8_quiet 71 = .ok (.lconst 1, 1) := by decide +kernel
theorem dX8_quiet_72 : decode cX8_quiet 72 = .ok (.lstore 8, 2) := by decide +kernel
theorem dX8_quiet_74 : decode cX8_quiet 74 = .ok (.iconst 0, 1) := by decide +kernel
theorem dX8_quiet_75 : decode cX8_quiet 75 = .ok (.istore 10, 2) := by decide +kernel
theorem dX8_quiet_77 : decode cX8_quiet 77 = .ok (.iload 10, 2) := by decide +kernel
theorem dX8_quiet_79 : decode cX8_quiet 79 = .ok (.iload_n 1, 1) := by decide +kernel
theorem dX8_quiet_80 : decode cX8_quiet 80 = .ok (.iload_n 3, 1) := by decide +kernel
theorem dX8_quiet_81 : decode cX8_quiet 81 = .ok (.imul, 1) := by decide +kernel
theorem dX8_quiet_82 : decode cX8_quiet 82 = .ok (.if_icmp .ge 27, 3) := by decide +kernel
theorem dX8_quiet_85 : decode cX8_quiet 85 = .ok (.lload 6, 2) := by decide +kernel
theorem dX8_quiet_87 : decode cX8_quiet 87 = .ok (.bipush 10, 2) := by decide +kernel
theorem dX8_quiet_89 : decode cX8_quiet 89 = .ok (.iload_n 2, 1) := by decide +kernel
theorem dX8_quiet_90 : decode cX8_quiet 90 = .ok (.isub, 1) := by decide +kernel
theorem dX8_quiet_91 : decode cX8_quiet 91 = .ok (.i2l, 1) := by decide +kernel
theorem dX8_quiet_92 : decode cX8_quiet 92 = .ok (.lmul, 1) := by decide +kernel
theorem dX8_quiet_93 : decode cX8_quiet 93 = .ok (.lstore 6, 2) := by decide +kernel
theorem dX8_quiet_95 : decode cX8_quiet 95 = .ok (.lload 8, 2) := by decide +kernel
theorem dX8_quiet_97 : decode cX8_quiet 97 = .ok (.ldc2_w 124, 3) := by decide +kernel
theorem dX8_quiet_100 : decode cX8_quiet 100 = .ok (.lmul, 1) := by decide +kernel
theorem dX8_quiet_101 : decode cX8_quiet 101 = .ok (.lstore 8, 2) := by decide +kernel
theorem dX8_quiet_103 : decode cX8_quiet 103 = .ok (.iinc 10 1, 3) := by decide +kernel
theorem dX8_quiet_106 : decode cX8_quiet 106 = .ok (.goto (-29), 3) := by decide +kernel
theorem dX8_quiet_109 : decode cX8_quiet 109 = .ok (.lload 6, 2) := by decide +kernel
theorem dX8_quiet_111 : decode cX8_quiet 111 = .ok (.lload 8, 2) := by decide +kernel
theorem dX8_quiet_113 : decode cX8_quiet 113 = .ok (.iload 4, 2) := by decide +kernel
theorem dX8_quiet_115 : decode cX8_quiet 115 = .ok (.invokestatic 133, 3) := by decide +kernel
theorem dX8_quiet_118 : decode cX8_quiet 118 = .ok (.lreturn, 1) := by decide +kernel
theorem dX8_draw_0 : decode cX8_draw 0 = .ok (.aload_n 0, 1) := by decide +kernel
theorem dX8_draw_1 : decode cX8_draw 1 = .ok (.ldc2_w 213, 3) := by decide +kernel
theorem dX8_draw_4 : decode cX8_draw 4 = .ok (.aload_n 0, 1) := by decide +kernel
theorem dX8_draw_5 : decode cX8_draw 5 = .ok (.getfield 215, 3) := by decide +kernel
theorem dX8_draw_8 : decode cX8_draw 8 = .ok (.i2l, 1) := by decide +kernel
theorem dX8_draw_9 : decode cX8_draw 9 = .ok (.lmul, 1) := by decide +kernel
theorem dX8_draw_10 : decode cX8_draw 10 = .ok (.ldc2_w 218, 3) := by decide +kernel
theorem dX8_draw_13 : decode cX8_draw 13 = .ok (.ladd, 1) := by decide +kernel
theorem dX8_draw_14 : decode cX8_draw 14 = .ok (.ldc2_w 220, 3) := by decide +kernel
theorem dX8_draw_17 : decode cX8_draw 17 = .ok (.land, 1) := by decide +kernel
theorem dX8_draw_18 : decode cX8_draw 18 = .ok (.l2i, 1) := by decide +kernel
theorem dX8_draw_19 : decode cX8_draw 19 = .ok (.putfield 215, 3) := by decide +kernel
theorem dX8_draw_22 : decode cX8_draw 22 = .ok (.aload_n 0, 1) := by decide +kernel
theorem dX8_draw_23 : decode cX8_draw 23 = .ok (.getfield 215, 3) := by decide +kernel
theorem dX8_draw_26 : decode cX8_draw 26 = .ok (.ldc 222, 2) := by decide +kernel
theorem dX8_draw_28 : decode cX8_draw 28 = .ok (.idiv, 1) := by decide +kernel
theorem dX8_draw_29 : decode cX8_draw 29 = .ok (.iload_n 1, 1) := by decide +kernel
theorem dX8_draw_30 : decode cX8_draw 30 = .ok (.irem, 1) := by decide +kernel
theorem dX8_draw_31 : decode cX8_draw 31 = .ok (.ireturn, 1) := by decide +kernel
theorem dX8_weeks_0 : decode cX8_weeks 0 = .ok (.iload_n 1, 1) := by decide +kernel
theorem dX8_weeks_1 : decode cX8_weeks 1 = .ok (.ifCond .lt 15, 3) := by decide +kernel
theorem dX8_weeks_4 : decode cX8_weeks 4 = .ok (.iload_n 2, 1) := by decide +kernel
theorem dX8_weeks_5 : decode cX8_weeks 5 = .ok (.i2l, 1) := by decide +kernel
theorem dX8_weeks_6 : decode cX8_weeks 6 = .ok (.lconst 0, 1) := by decide +kernel
theorem dX8_weeks_7 : decode cX8_weeks 7 = .ok (.ldc2_w 119, 3) := by decide +kernel
theorem dX8_weeks_10 : decode cX8_weeks 10 = .ok (.invokestatic 65, 3) := by decide +kernel
theorem dX8_weeks_13 : decode cX8_weeks 13 = .ok (.ifCond .ne 6, 3) := by decide +kernel
theorem dX8_weeks_16 : decode cX8_weeks 16 = .ok (.bipush (-102), 2) := by decide +kernel
theorem dX8_weeks_18 : decode cX8_weeks 18 = .ok (.ireturn, 1) := by decide +kernel
theorem dX8_weeks_19 : decode cX8_weeks 19 = .ok (.aload_n 0, 1) := by decide +kernel
theorem dX8_weeks_20 : decode cX8_weeks 20 = .ok (.invokevirtual 85, 3) := by decide +kernel
theorem dX8_weeks_23 : decode cX8_weeks 23 = .ok (.aload_n 0, 1) := by decide +kernel
theorem dX8_weeks_24 : decode cX8_weeks 24 = .ok (.iload_n 1, 1) := by decide +kernel
theorem dX8_weeks_25 : decode cX8_weeks 25 = .ok (.putfield 215, 3) := by decide +kernel
theorem dX8_weeks_28 : decode cX8_weeks 28 = .ok (.iconst (-1), 1) := by decide +kernel
theorem dX8_weeks_29 : decode cX8_weeks 29 = .ok (.istore_n 3, 1) := by decide +kernel
theorem dX8_weeks_30 : decode cX8_weeks 30 = .ok (.iconst 0, 1) := by decide +kernel
theorem dX8_weeks_31 : decode cX8_weeks 31 = .ok (.istore 4, 2) := by decide +kernel
theorem dX8_weeks_33 : decode cX8_weeks 33 = .ok (.iload 4, 2) := by decide +kernel
theorem dX8_weeks_35 : decode cX8_weeks 35 = .ok (.aload_n 0, 1) := by decide +kernel
theorem dX8_weeks_36 : decode cX8_weeks 36 = .ok (.getfield 109, 3) := by decide +kernel
theorem dX8_weeks_39 : decode cX8_weeks 39 = .ok (.if_icmp .ge 76, 3) := by decide +kernel
theorem dX8_weeks_42 : decode cX8_weeks 42 = .ok (.iload_n 3, 1) := by decide +kernel
theorem dX8_weeks_43 : decode cX8_weeks 43 = .ok (.iconst (-1), 1) := by decide +kernel
theorem dX8_weeks_44 : decode cX8_weeks 44 = .ok (.if_icmp .ne 71, 3) := by decide +kernel
theorem dX8_weeks_47 : decode cX8_weeks 47 = .ok (.aload_n 0, 1) := by decide +kernel
theorem dX8_weeks_48 : decode cX8_weeks 48 = .ok (.getfield 22, 3) := by decide +kernel
theorem dX8_weeks_51 : decode cX8_weeks 51 = .ok (.aload_n 0, 1) := by decide +kernel
theorem dX8_weeks_52 : decode cX8_weeks 52 = .ok (.getfield 28, 3) := by decide +kernel
theorem dX8_weeks_55 : decode cX8_weeks 55 = .ok (.iconst 3, 1) := by decide +kernel
theorem dX8_weeks_56 : decode cX8_weeks 56 = .ok (.iload 4, 2) := by decide +kernel
theorem dX8_weeks_58 : decode cX8_weeks 58 = .ok (.imul, 1) := by decide +kernel
theorem dX8_weeks_59 : decode cX8_weeks 59 = .ok (.iaload, 1) := by decide +kernel
theorem dX8_weeks_60 : decode cX8_weeks 60 = .ok (.iaload, 1) := by decide +kernel
theorem dX8_weeks_61 : decode cX8_weeks 61 = .ok (.aload_n 0, 1) := by decide +kernel
theorem dX8_weeks_62 : decode cX8_weeks 62 = .ok (.getfield 28, 3) := by decide +kernel
theorem dX8_weeks_65 : decode cX8_weeks 65 = .ok (.iconst 3, 1) := by decide +kernel
theorem dX8_weeks_66 : decode cX8_weeks 66 = .ok (.iload 4, 2) := by decide +kernel
theorem dX8_weeks_68 : decode cX8_weeks 68 = .ok (.imul, 1) := by decide +kernel
theorem dX8_weeks_69 : decode cX8_weeks 69 = .ok (.iconst 1, 1) := by decide +kernel
theorem dX8_weeks_70 : decode cX8_weeks 70 = .ok (.iadd, 1) := by decide +kernel
theorem dX8_weeks_71 : decode cX8_weeks 71 = .ok (.iaload, 1) := by decide +kernel
theorem dX8_weeks_72 : decode cX8_weeks 72 = .ok (.if_icmp .gt 7, 3) := by decide +kernel
theorem dX8_weeks_75 : decode cX8_weeks 75 = .ok (.iconst 1, 1) := by decide +kernel
theorem dX8_weeks_76 : decode cX8_weeks 76 = .ok (.goto 4, 3) := by decide +kernel
theorem dX8_weeks_79 : decode cX8_weeks 79 = .ok (.iconst 0, 1) := by decide +kernel
theorem dX8_weeks_80 : decode cX8_weeks 80 = .ok (.istore 5, 2) := by decide +kernel
theorem dX8_weeks_82 : decode cX8_weeks 82 = .ok (.iload 5, 2) := by decide +kernel
theorem dX8_weeks_84 : decode cX8_weeks 84 = .ok (.ifCond .eq 23, 3) := by decide +kernel
theorem dX8_weeks_87 : decode cX8_weeks 87 = .ok (.aload_n 0, 1) := by decide +kernel
theorem dX8_weeks_88 : decode cX8_weeks 88 = .ok (.bipush 10, 2) := by decide +kernel
theorem dX8_weeks_90 : decode cX8_weeks 90 = .ok (.invokevirtual 223, 3) := by decide +kernel
theorem dX8_weeks_93 : decode cX8_weeks 93 = .ok (.aload_n 0, 1) := by decide +kernel
theorem dX8_weeks_94 : decode cX8_weeks 94 = .ok (.iload 4, 2) := by decide +kernel
theorem dX8_weeks_96 : decode cX8_weeks 96 = .ok (.invokevirtual 115, 3) := by decide +kernel
theorem dX8_weeks_99 : decode cX8_weeks 99 = .ok (.if_icmp .ge 8, 3) := by decide +kernel
theorem dX8_weeks_102 : decode cX8_weeks 102 = .ok (.iload 4, 2) := by decide +kernel
theorem dX8_weeks_104 : decode cX8_weeks 104 = .ok (.goto 4, 3) := by decide +kernel
theorem dX8_weeks_107 : decode cX8_weeks 107 = .ok (.iconst (-1), 1) := by decide +kernel
theorem dX8_weeks_108 : decode cX8_weeks 108 = .ok (.istore_n 3, 1) := by decide +kernel
theorem dX8_weeks_109 : decode cX8_weeks 109 = .ok (.iinc 4 1, 3) := by decide +kernel
theorem dX8_weeks_112 : decode cX8_weeks 112 = .ok (.goto (-79), 3) := by decide +kernel
theorem dX8_weeks_115 : decode cX8_weeks 115 = .ok (.iload_n 2, 1) := by decide +kernel
theorem dX8_weeks_116 : decode cX8_weeks 116 = .ok (.iconst 2, 1) := by decide +kernel
theorem dX8_weeks_117 : decode cX8_weeks 117 = .ok (.if_icmp .ne 10, 3) := by decide +kernel
theorem dX8_weeks_120 : decode cX8_weeks 120 = .ok (.aload_n 0, 1) := by decide +kernel
theorem dX8_weeks_121 : decode cX8_weeks 121 = .ok (.getfield 215, 3) := by decide +kernel
theorem dX8_weeks_124 : decode cX8_weeks 124 = .ok (.goto 24, 3) := by decide +kernel
theorem dX8_weeks_127 : decode cX8_weeks 127 = .ok (.iload_n 2, 1) := by decide +kernel
theorem dX8_weeks_128 : decode cX8_weeks 128 = .ok (.ifCond .eq 8, 3) := by decide +kernel
theorem dX8_weeks_131 : decode cX8_weeks 131 = .ok (.iload_n 3, 1) := by decide +kernel
theorem dX8_weeks_132 : decode cX8_weeks 132 = .ok (.iconst (-1), 1) := by decide +kernel
theorem dX8_weeks_133 : decode cX8_weeks 133 = .ok (.if_icmp .ne 7, 3) := by decide +kernel
theorem dX8_weeks_136 : decode cX8_weeks 136 = .ok (.iload_n 3, 1) := by decide +kernel
theorem dX8_weeks_137 : decode cX8_weeks 137 = .ok (.goto 11, 3) := by decide +kernel
theorem dX8_weeks_140 : decode cX8_weeks 140 = .ok (.aload_n 0, 1) := by decide +kernel
theorem dX8_weeks_141 : decode cX8_weeks 141 = .ok (.getfield 28, 3) := by decide +kernel
theorem dX8_weeks_144 : decode cX8_weeks 144 = .ok (.iconst 3, 1) := by decide +kernel
theorem dX8_weeks_145 : decode cX8_weeks 145 = .ok (.iload_n 3, 1) := by decide +kernel
theorem dX8_weeks_146 : decode cX8_weeks 146 = .ok (.imul, 1) := by decide +kernel
theorem dX8_weeks_147 : decode cX8_weeks 147 = .ok (.iaload, 1) := by decide +kernel
theorem dX8_weeks_148 : decode cX8_weeks 148 = .ok (.ireturn, 1) := by decide +kernel
theorem dX8_image_0 : decode cX8_image 0 = .ok (.iconst 0, 1) := by decide +kernel
theorem dX8_image_1 : decode cX8_image 1 = .ok (.istore_n 1, 1) := by decide +kernel
theorem dX8_image_2 : decode cX8_image 2 = .ok (.iload_n 1, 1) := by decide +kernel
theorem dX8_image_3 : decode cX8_image 3 = .ok (.bipush 81, 2) := by decide +kernel
theorem dX8_image_5 : decode cX8_image 5 = .ok (.if_icmp .ge 21, 3) := by decide +kernel
theorem dX8_image_8 : decode cX8_image 8 = .ok (.aload_n 0, 1) := by decide +kernel
theorem dX8_image_9 : decode cX8_image 9 = .ok (.getfield 52, 3) := by decide +kernel
theorem dX8_image_12 : decode cX8_image 12 = .ok (.iload_n 1, 1) := by decide +kernel
theorem dX8_image_13 : decode cX8_image 13 = .ok (.aload_n 0, 1) := by decide +kernel
theorem dX8_image_14 : decode cX8_image 14 = .ok (.getfield 19, 3) := by decide +kernel
theorem dX8_image_17 : decode cX8_image 17 = .ok (.iload_n 1, 1) := by decide +kernel
theorem dX8_image_18 : decode cX8_image 18 = .ok (.iaload, 1) := by decide +kernel
theorem dX8_image_19 : decode cX8_image 19 = .ok (.iastore, 1) := by decide +kernel
theorem dX8_image_20 : decode cX8_image 20 = .ok (.iinc 1 1, 3) := by decide +kernel
theorem dX8_image_23 : decode cX8_image 23 = .ok (.goto (-21), 3) := by decide +kernel
theorem dX8_image_26 : decode cX8_image 26 = .ok (.iconst 0, 1) := by decide +kernel
theorem dX8_image_27 : decode cX8_image 27 = .ok (.istore_n 1, 1) := by decide +kernel
theorem dX8_image_28 : decode cX8_image 28 = .ok (.iload_n 1, 1) := by decide +kernel
theorem dX8_image_29 : decode cX8_image 29 = .ok (.bipush 9, 2) := by decide +kernel
theorem dX8_image_31 : decode cX8_image 31 = .ok (.if_icmp .ge 21, 3) := by decide +kernel
theorem dX8_image_34 : decode cX8_image 34 = .ok (.aload_n 0, 1) := by decide +kernel
theorem dX8_image_35 : decode cX8_image 35 = .ok (.getfield 49, 3) := by decide +kernel
theorem dX8_image_38 : decode cX8_image 38 = .ok (.iload_n 1, 1) := by decide +kernel
theorem dX8_image_39 : decode cX8_image 39 = .ok (.aload_n 0, 1) := by decide +kernel
theorem dX8_image_40 : decode cX8_image 40 = .ok (.getfield 16, 3) := by decide +kernel
theorem dX8_image_43 : decode cX8_image 43 = .ok (.iload_n 1, 1) := by decide +kernel
theorem dX8_image_44 : decode cX8_image 44 = .ok (.iaload, 1) := by decide +kernel
theorem dX8_image_45 : decode cX8_image 45 = .ok (.iastore, 1) := by decide +kernel
theorem dX8_image_46 : decode cX8_image 46 = .ok (.iinc 1 1, 3) := by decide +kernel
theorem dX8_image_49 : decode cX8_image 49 = .ok (.goto (-21), 3) := by decide +kernel
theorem dX8_image_52 : decode cX8_image 52 = .ok (.iconst 0, 1) := by decide +kernel
theorem dX8_image_53 : decode cX8_image 53 = .ok (.istore_n 1, 1) := by decide +kernel
theorem dX8_image_54 : decode cX8_image 54 = .ok (.iload_n 1, 1) := by decide +kernel
theorem dX8_image_55 : decode cX8_image 55 = .ok (.bipush 8, 2) := by decide +kernel
theorem dX8_image_57 : decode cX8_image 57 = .ok (.if_icmp .ge 25, 3) := by decide +kernel
theorem dX8_image_60 : decode cX8_image 60 = .ok (.aload_n 0, 1) := by decide +kernel
theorem dX8_image_61 : decode cX8_image 61 = .ok (.getfield 55, 3) := by decide +kernel
theorem dX8_image_64 : decode cX8_image 64 = .ok (.iload_n 1, 1) := by decide +kernel
theorem dX8_image_65 : decode cX8_image 65 = .ok (.aload_n 0, 1) := by decide +kernel
theorem dX8_image_66 : decode cX8_image 66 = .ok (.getfield 46, 3) := by decide +kernel
theorem dX8_image_69 : decode cX8_image 69 = .ok (.iconst 3, 1) := by decide +kernel
theorem dX8_image_70 : decode cX8_image 70 = .ok (.iload_n 1, 1) := by decide +kernel
theorem dX8_image_71 : decode cX8_image 71 = .ok (.imul, 1) := by decide +kernel
theorem dX8_image_72 : decode cX8_image 72 = .ok (.iconst 2, 1) := by decide +kernel
theorem dX8_image_73 : decode cX8_image 73 = .ok (.iadd, 1) := by decide +kernel
theorem dX8_image_74 : decode cX8_image 74 = .ok (.iaload, 1) := by decide +kernel
theorem dX8_image_75 : decode cX8_image 75 = .ok (.iastore, 1) := by decide +kernel
theorem dX8_image_76 : decode cX8_image 76 = .ok (.iinc 1 1, 3) := by decide +kernel
theorem dX8_image_79 : decode cX8_image 79 = .ok (.goto (-25), 3) := by decide +kernel
theorem dX8_image_82 : decode cX8_image 82 = .ok (.aload_n 0, 1) := by decide +kernel
theorem dX8_image_83 : decode cX8_image 83 = .ok (.aload_n 0, 1) := by decide +kernel
theorem dX8_image_84 : decode cX8_image 84 = .ok (.getfield 62, 3) := by decide +kernel
theorem dX8_image_87 : decode cX8_image 87 = .ok (.putfield 58, 3) := by decide +kernel
theorem dX8_image_90 : decode cX8_image 90 = .ok (.aload_n 0, 1) := by decide +kernel
theorem dX8_image_91 : decode cX8_image 91 = .ok (.aload_n 0, 1) := by decide +kernel
theorem dX8_image_92 : decode cX8_image 92 = .ok (.getfield 189, 3) := by decide +kernel
theorem dX8_image_95 : decode cX8_image 95 = .ok (.putfield 226, 3) := by decide +kernel
theorem dX8_image_98 : decode cX8_image 98 = .ok (.aload_n 0, 1) := by decide +kernel
theorem dX8_image_99 : decode cX8_image 99 = .ok (.invokevirtual 229, 3) := by decide +kernel
theorem dX8_image_102 : decode cX8_image 102 = .ok (.ireturn, 1) := by decide +kernel
theorem dX8_restore_0 : decode cX8_restore 0 = .ok (.aload_n 0, 1) := by decide +kernel
theorem dX8_restore_1 : decode cX8_restore 1 = .ok (.getfield 58, 3) := by decide +kernel
theorem dX8_restore_4 : decode cX8_restore 4 = .ok (.aload_n 0, 1) := by decide +kernel
theorem dX8_restore_5 : decode cX8_restore 5 = .ok (.getfield 62, 3) := by decide +kernel
theorem dX8_restore_8 : decode cX8_restore 8 = .ok (.if_icmp .ne 14, 3) := by decide +kernel
theorem dX8_restore_11 : decode cX8_restore 11 = .ok (.aload_n 0, 1) := by decide +kernel
theorem dX8_restore_12 : decode cX8_restore 12 = .ok (.getfield 226, 3) := by decide +kernel
theorem dX8_restore_15 : decode cX8_restore 15 = .ok (.aload_n 0, 1) := by decide +kernel
theorem dX8_restore_16 : decode cX8_restore 16 = .ok (.getfield 189, 3) := by decide +kernel
theorem dX8_restore_19 : decode cX8_restore 19 = .ok (.if_icmp .eq 6, 3) := by decide +kernel
theorem dX8_restore_22 : decode cX8_restore 22 = .ok (.bipush (-103), 2) := by decide +kernel
theorem dX8_restore_24 : decode cX8_restore 24 = .ok (.ireturn, 1) := by decide +kernel
theorem dX8_restore_25 : decode cX8_restore 25 = .ok (.iconst 0, 1) := by decide +kernel
theorem dX8_restore_26 : decode cX8_restore 26 = .ok (.istore_n 1, 1) := by decide +kernel
theorem dX8_restore_27 : decode cX8_restore 27 = .ok (.iload_n 1, 1) := by decide +kernel
theorem dX8_restore_28 : decode cX8_restore 28 = .ok (.bipush 81, 2) := by decide +kernel
theorem dX8_restore_30 : decode cX8_restore 30 = .ok (.if_icmp .ge 21, 3) := by decide +kernel
theorem dX8_restore_33 : decode cX8_restore 33 = .ok (.aload_n 0, 1) := by decide +kernel
theorem dX8_restore_34 : decode cX8_restore 34 = .ok (.getfield 19, 3) := by decide +kernel
theorem dX8_restore_37 : decode cX8_restore 37 = .ok (.iload_n 1, 1) := by decide +kernel
theorem dX8_restore_38 : decode cX8_restore 38 = .ok (.aload_n 0, 1) := by decide +kernel
theorem dX8_restore_39 : decode cX8_restore 39 = .ok (.getfield 52, 3) := by decide +kernel
theorem dX8_restore_42 : decode cX8_restore 42 = .ok (.iload_n 1, 1) := by decide +kernel
theorem dX8_restore_43 : decode cX8_restore 43 = .ok (.iaload, 1) := by decide +kernel
theorem dX8_restore_44 : decode cX8_restore 44 = .ok (.iastore, 1) := by decide +kernel
theorem dX8_restore_45 : decode cX8_restore 45 = .ok (.iinc 1 1, 3) := by decide +kernel
theorem dX8_restore_48 : decode cX8_restore 48 = .ok (.goto (-21), 3) := by decide +kernel
theorem dX8_restore_51 : decode cX8_restore 51 = .ok (.iconst 0, 1) := by decide +kernel
theorem dX8_restore_52 : decode cX8_restore 52 = .ok (.istore_n 1, 1) := by decide +kernel
theorem dX8_restore_53 : decode cX8_restore 53 = .ok (.iload_n 1, 1) := by decide +kernel
theorem dX8_restore_54 : decode cX8_restore 54 = .ok (.bipush 9, 2) := by decide +kernel
theorem dX8_restore_56 : decode cX8_restore 56 = .ok (.if_icmp .ge 21, 3) := by decide +kernel
theorem dX8_restore_59 : decode cX8_restore 59 = .ok (.aload_n 0, 1) := by decide +kernel
theorem dX8_restore_60 : decode cX8_restore 60 = .ok (.getfield 16, 3) := by decide +kernel
theorem dX8_restore_63 : decode cX8_restore 63 = .ok (.iload_n 1, 1) := by decide +kernel
theorem dX8_restore_64 : decode cX8_restore 64 = .ok (.aload_n 0, 1) := by decide +kernel
theorem dX8_restore_65 : decode cX8_restore 65 = .ok (.getfield 49, 3) := by decide +kernel
theorem dX8_restore_68 : decode cX8_restore 68 = .ok (.iload_n 1, 1) := by decide +kernel
theorem dX8_restore_69 : decode cX8_restore 69 = .ok (.iaload, 1) := by decide +kernel
theorem dX8_restore_70 : decode cX8_restore 70 = .ok (.iastore, 1) := by decide +kernel
theorem dX8_restore_71 : decode cX8_restore 71 = .ok (.iinc 1 1, 3) := by decide +kernel
theorem dX8_restore_74 : decode cX8_restore 74 = .ok (.goto (-21), 3) := by decide +kernel
theorem dX8_restore_77 : decode cX8_restore 77 = .ok (.iconst 0, 1) := by decide +kernel
theorem dX8_restore_78 : decode cX8_restore 78 = .ok (.istore_n 1, 1) := by decide +kernel
theorem dX8_restore_79 : decode cX8_restore 79 = .ok (.iload_n 1, 1) := by decide +kernel
theorem dX8_restore_80 : decode cX8_restore 80 = .ok (.bipush 8, 2) := by decide +kernel
theorem dX8_restore_82 : decode cX8_restore 82 = .ok (.if_icmp .ge 25, 3) := by decide +kernel
theorem dX8_restore_85 : decode cX8_restore 85 = .ok (.aload_n 0, 1) := by decide +kernel
theorem dX8_restore_86 : decode cX8_restore 86 = .ok (.getfield 46, 3) := by decide +kernel
theorem dX8_restore_89 : decode cX8_restore 89 = .ok (.iconst 3, 1) := by decide +kernel
theorem dX8_restore_90 : decode cX8_restore 90 = .ok (.iload_n 1, 1) := by decide +kernel
theorem dX8_restore_91 : decode cX8_restore 91 = .ok (.imul, 1) := by decide +kernel
theorem dX8_restore_92 : decode cX8_restore 92 = .ok (.iconst 2, 1) := by decide +kernel
theorem dX8_restore_93 : decode cX8_restore 93 = .ok (.iadd, 1) := by decide +kernel
theorem dX8_restore_94 : decode cX8_restore 94 = .ok (.aload_n 0, 1) := by decide +kernel
theorem dX8_restore_95 : decode cX8_restore 95 = .ok (.getfield 55, 3) := by decide +kernel
theorem dX8_restore_98 : decode cX8_restore 98 = .ok (.iload_n 1, 1) := by decide +kernel
theorem dX8_restore_99 : decode cX8_restore 99 = .ok (.iaload, 1) := by decide +kernel
theorem dX8_restore_100 : decode cX8_restore 100 = .ok (.iastore, 1) := by decide +kernel
theorem dX8_restore_101 : decode cX8_restore 101 = .ok (.iinc 1 1, 3) := by decide +kernel
theorem dX8_restore_104 : decode cX8_restore 104 = .ok (.goto (-25), 3) := by decide +kernel
theorem dX8_restore_107 : decode cX8_restore 107 = .ok (.aload_n 0, 1) := by decide +kernel
theorem dX8_restore_108 : decode cX8_restore 108 = .ok (.invokevirtual 229, 3) := by decide +kernel
theorem dX8_restore_111 : decode cX8_restore 111 = .ok (.ireturn, 1) := by decide +kernel
theorem dX8_countOf_0 : decode cX8_countOf 0 = .ok (.iload_n 1, 1) := by decide +kernel
theorem dX8_countOf_1 : decode cX8_countOf 1 = .ok (.tableswitch 87 0 7 #[47, 52, 57, 62, 67, 72, 77, 82], 47) := by decide +kernel
theorem dX8_countOf_48 : decode cX8_countOf 48 = .ok (.aload_n 0, 1) := by decide +kernel
theorem dX8_countOf_49 : decode cX8_countOf 49 = .ok (.getfield 62, 3) := by decide +kernel
theorem dX8_countOf_52 : decode cX8_countOf 52 = .ok (.ireturn, 1) := by decide +kernel
theorem dX8_countOf_53 : decode cX8_countOf 53 = .ok (.aload_n 0, 1) := by decide +kernel
theorem dX8_countOf_54 : decode cX8_countOf 54 = .ok (.getfield 109, 3) := by decide +kernel
theorem dX8_countOf_57 : decode cX8_countOf 57 = .ok (.ireturn, 1) := by decide +kernel
theorem dX8_countOf_58 : decode cX8_countOf 58 = .ok (.aload_n 0, 1) := by decide +kernel
theorem dX8_countOf_59 : decode cX8_countOf 59 = .ok (.getfield 177, 3) := by decide +kernel
theorem dX8_countOf_62 : decode cX8_countOf 62 = .ok (.ireturn, 1) := by decide +kernel
theorem dX8_countOf_63 : decode cX8_countOf 63 = .ok (.aload_n 0, 1) := by decide +kernel
theorem dX8_countOf_64 : decode cX8_countOf 64 = .ok (.getfield 189, 3) := by decide +kernel
theorem dX8_countOf_67 : decode cX8_countOf 67 = .ok (.ireturn, 1) := by decide +kernel
theorem dX8_countOf_68 : decode cX8_countOf 68 = .ok (.aload_n 0, 1) := by decide +kernel
theorem dX8_countOf_69 : decode cX8_countOf 69 = .ok (.invokevirtual 229, 3) := by decide +kernel
theorem dX8_countOf_72 : decode cX8_countOf 72 = .ok (.ireturn, 1) := by decide +kernel
theorem dX8_countOf_73 : decode cX8_countOf 73 = .ok (.aload_n 0, 1) := by decide +kernel
