theorem dX7_story_7 : decode cX7_story 7 = .ok (.bipush (-102), 2) := by decide +kernel
theorem dX7_story_9 : decode cX7_story 9 = .ok (.ireturn, 1) := by decide +kernel
theorem dX7_story_10 : decode cX7_story 10 = .ok (.aload_n 0, 1) := by decide +kernel
theorem dX7_story_11 : decode cX7_story 11 = .ok (.getfield 40, 3) := by decide +kernel
theorem dX7_story_14 : decode cX7_story 14 = .ok (.iload_n 1, 1) := by decide +kernel
theorem dX7_story_15 : decode cX7_story 15 = .ok (.invokevirtual 223, 3) := by decide +kernel
theorem dX7_story_18 : decode cX7_story 18 = .ok (.ireturn, 1) := by decide +kernel
theorem dX7_clash_0 : decode cX7_clash 0 = .ok (.aload_n 0, 1) := by decide +kernel
theorem dX7_clash_1 : decode cX7_clash 1 = .ok (.getfield 40, 3) := by decide +kernel
theorem dX7_clash_4 : decode cX7_clash 4 = .ok (.iload_n 1, 1) := by decide +kernel
theorem dX7_clash_5 : decode cX7_clash 5 = .ok (.invokevirtual 225, 3) := by decide +kernel
theorem dX7_clash_8 : decode cX7_clash 8 = .ok (.ifCond .eq 19, 3) := by decide +kernel
theorem dX7_clash_11 : decode cX7_clash 11 = .ok (.aload_n 0, 1) := by decide +kernel
theorem dX7_clash_12 : decode cX7_clash 12 = .ok (.getfield 40, 3) := by decide +kernel
theorem dX7_clash_15 : decode cX7_clash 15 = .ok (.iload_n 2, 1) := by decide +kernel
theorem dX7_clash_16 : decode cX7_clash 16 = .ok (.invokevirtual 225, 3) := by decide +kernel
theorem dX7_clash_19 : decode cX7_clash 19 = .ok (.ifCond .eq 8, 3) := by decide +kernel
theorem dX7_clash_22 : decode cX7_clash 22 = .ok (.iload_n 1, 1) := by decide +kernel
theorem dX7_clash_23 : decode cX7_clash 23 = .ok (.iload_n 2, 1) := by decide +kernel
theorem dX7_clash_24 : decode cX7_clash 24 = .ok (.if_icmp .ne 6, 3) := by decide +kernel
theorem dX7_clash_27 : decode cX7_clash 27 = .ok (.bipush (-101), 2) := by decide +kernel
theorem dX7_clash_29 : decode cX7_clash 29 = .ok (.ireturn, 1) := by decide +kernel
theorem dX7_clash_30 : decode cX7_clash 30 = .ok (.aload_n 0, 1) := by decide +kernel
theorem dX7_clash_31 : decode cX7_clash 31 = .ok (.getfield 40, 3) := by decide +kernel
theorem dX7_clash_34 : decode cX7_clash 34 = .ok (.iload_n 1, 1) := by decide +kernel
theorem dX7_clash_35 : decode cX7_clash 35 = .ok (.invokevirtual 226, 3) := by decide +kernel
theorem dX7_clash_38 : decode cX7_clash 38 = .ok (.iload_n 2, 1) := by decide +kernel
theorem dX7_clash_39 : decode cX7_clash 39 = .ok (.invokestatic 109, 3) := by decide +kernel
theorem dX7_clash_42 : decode cX7_clash 42 = .ok (.istore 4, 2) := by decide +kernel
theorem dX7_clash_44 : decode cX7_clash 44 = .ok (.aload_n 0, 1) := by decide +kernel
theorem dX7_clash_45 : decode cX7_clash 45 = .ok (.getfield 40, 3) := by decide +kernel
theorem dX7_clash_48 : decode cX7_clash 48 = .ok (.iload_n 1, 1) := by decide +kernel
theorem dX7_clash_49 : decode cX7_clash 49 = .ok (.iload_n 2, 1) := by decide +kernel
theorem dX7_clash_50 : decode cX7_clash 50 = .ok (.iload_n 3, 1) := by decide +kernel
theorem dX7_clash_51 : decode cX7_clash 51 = .ok (.invokevirtual 229, 3) := by decide +kernel
theorem dX7_clash_54 : decode cX7_clash 54 = .ok (.aload_n 0, 1) := by decide +kernel
theorem dX7_clash_55 : decode cX7_clash 55 = .ok (.getfield 40, 3) := by decide +kernel
theorem dX7_clash_58 : decode cX7_clash 58 = .ok (.iload_n 2, 1) := by decide +kernel
theorem dX7_clash_59 : decode cX7_clash 59 = .ok (.iload_n 1, 1) := by decide +kernel
theorem dX7_clash_60 : decode cX7_clash 60 = .ok (.iload_n 3, 1) := by decide +kernel
theorem dX7_clash_61 : decode cX7_clash 61 = .ok (.invokevirtual 229, 3) := by decide +kernel
theorem dX7_clash_64 : decode cX7_clash 64 = .ok (.iload 4, 2) := by decide +kernel
theorem dX7_clash_66 : decode cX7_clash 66 = .ok (.ireturn, 1) := by decide +kernel
theorem dX7_cover_0 : decode cX7_cover 0 = .ok (.iload_n 1, 1) := by decide +kernel
theorem dX7_cover_1 : decode cX7_cover 1 = .ok (.ifCond .eq 11, 3) := by decide +kernel
theorem dX7_cover_4 : decode cX7_cover 4 = .ok (.iload_n 1, 1) := by decide +kernel
theorem dX7_cover_5 : decode cX7_cover 5 = .ok (.iconst 1, 1) := by decide +kernel
theorem dX7_cover_6 : decode cX7_cover 6 = .ok (.if_icmp .eq 6, 3) := by decide +kernel
theorem dX7_cover_9 : decode cX7_cover 9 = .ok (.bipush (-102), 2) := by decide +kernel
theorem dX7_cover_11 : decode cX7_cover 11 = .ok (.ireturn, 1) := by decide +kernel
theorem dX7_cover_12 : decode cX7_cover 12 = .ok (.aload_n 0, 1) := by decide +kernel
theorem dX7_cover_13 : decode cX7_cover 13 = .ok (.getfield 40, 3) := by decide +kernel
theorem dX7_cover_16 : decode cX7_cover 16 = .ok (.aload_n 0, 1) := by decide +kernel
theorem dX7_cover_17 : decode cX7_cover 17 = .ok (.getfield 19, 3) := by decide +kernel
theorem dX7_cover_20 : decode cX7_cover 20 = .ok (.bipush 9, 2) := by decide +kernel
theorem dX7_cover_22 : decode cX7_cover 22 = .ok (.invokevirtual 233, 3) := by decide +kernel
theorem dX7_cover_25 : decode cX7_cover 25 = .ok (.invokevirtual 236, 3) := by decide +kernel
theorem dX7_cover_28 : decode cX7_cover 28 = .ok (.istore_n 2, 1) := by decide +kernel
theorem dX7_cover_29 : decode cX7_cover 29 = .ok (.iload_n 2, 1) := by decide +kernel
theorem dX7_cover_30 : decode cX7_cover 30 = .ok (.iconst (-1), 1) := by decide +kernel
theorem dX7_cover_31 : decode cX7_cover 31 = .ok (.if_icmp .ne 5, 3) := by decide +kernel
theorem dX7_cover_34 : decode cX7_cover 34 = .ok (.iconst (-1), 1) := by decide +kernel
theorem dX7_cover_35 : decode cX7_cover 35 = .ok (.ireturn, 1) := by decide +kernel
theorem dX7_cover_36 : decode cX7_cover 36 = .ok (.iload_n 1, 1) := by decide +kernel
theorem dX7_cover_37 : decode cX7_cover 37 = .ok (.ifCond .ne 10, 3) := by decide +kernel
theorem dX7_cover_40 : decode cX7_cover 40 = .ok (.iload_n 2, 1) := by decide +kernel
theorem dX7_cover_41 : decode cX7_cover 41 = .ok (.invokestatic 239, 3) := by decide +kernel
theorem dX7_cover_44 : decode cX7_cover 44 = .ok (.goto 4, 3) := by decide +kernel
theorem dX7_cover_47 : decode cX7_cover 47 = .ok (.iload_n 2, 1) := by decide +kernel
theorem dX7_cover_48 : decode cX7_cover 48 = .ok (.ireturn, 1) := by decide +kernel
theorem dX7_sign_0 : decode cX7_sign 0 = .ok (.iload_n 1, 1) := by decide +kernel
theorem dX7_sign_1 : decode cX7_sign 1 = .ok (.invokestatic 244, 3) := by decide +kernel
theorem dX7_sign_4 : decode cX7_sign 4 = .ok (.ifCond .eq 10, 3) := by decide +kernel
theorem dX7_sign_7 : decode cX7_sign 7 = .ok (.iload_n 2, 1) := by decide +kernel
theorem dX7_sign_8 : decode cX7_sign 8 = .ok (.invokestatic 244, 3) := by decide +kernel
theorem dX7_sign_11 : decode cX7_sign 11 = .ok (.ifCond .ne 6, 3) := by decide +kernel
theorem dX7_sign_14 : decode cX7_sign 14 = .ok (.bipush (-102), 2) := by decide +kernel
theorem dX7_sign_16 : decode cX7_sign 16 = .ok (.ireturn, 1) := by decide +kernel
theorem dX7_sign_17 : decode cX7_sign 17 = .ok (.aload_n 0, 1) := by decide +kernel
theorem dX7_sign_18 : decode cX7_sign 18 = .ok (.getfield 47, 3) := by decide +kernel
theorem dX7_sign_21 : decode cX7_sign 21 = .ok (.iload_n 1, 1) := by decide +kernel
theorem dX7_sign_22 : decode cX7_sign 22 = .ok (.iload_n 2, 1) := by decide +kernel
theorem dX7_sign_23 : decode cX7_sign 23 = .ok (.invokevirtual 247, 3) := by decide +kernel
theorem dX7_sign_26 : decode cX7_sign 26 = .ok (.ireturn, 1) := by decide +kernel
theorem dX7_look_0 : decode cX7_look 0 = .ok (.aload_n 0, 1) := by decide +kernel
theorem dX7_look_1 : decode cX7_look 1 = .ok (.getfield 47, 3) := by decide +kernel
theorem dX7_look_4 : decode cX7_look 4 = .ok (.iload_n 1, 1) := by decide +kernel
theorem dX7_look_5 : decode cX7_look 5 = .ok (.invokevirtual 248, 3) := by decide +kernel
theorem dX7_look_8 : decode cX7_look 8 = .ok (.ifCond .ne 6, 3) := by decide +kernel
theorem dX7_look_11 : decode cX7_look 11 = .ok (.bipush (-101), 2) := by decide +kernel
theorem dX7_look_13 : decode cX7_look 13 = .ok (.ireturn, 1) := by decide +kernel
theorem dX7_look_14 : decode cX7_look 14 = .ok (.iload_n 2, 1) := by decide +kernel
theorem dX7_look_15 : decode cX7_look 15 = .ok (.invokestatic 249, 3) := by decide +kernel
theorem dX7_look_18 : decode cX7_look 18 = .ok (.ifCond .ne 6, 3) := by decide +kernel
theorem dX7_look_21 : decode cX7_look 21 = .ok (.bipush (-102), 2) := by decide +kernel
theorem dX7_look_23 : decode cX7_look 23 = .ok (.ireturn, 1) := by decide +kernel
theorem dX7_look_24 : decode cX7_look 24 = .ok (.aload_n 0, 1) := by decide +kernel
theorem dX7_look_25 : decode cX7_look 25 = .ok (.getfield 47, 3) := by decide +kernel
theorem dX7_look_28 : decode cX7_look 28 = .ok (.iload_n 1, 1) := by decide +kernel
theorem dX7_look_29 : decode cX7_look 29 = .ok (.invokevirtual 252, 3) := by decide +kernel
theorem dX7_look_32 : decode cX7_look 32 = .ok (.istore_n 3, 1) := by decide +kernel
theorem dX7_look_33 : decode cX7_look 33 = .ok (.aload_n 0, 1) := by decide +kernel
theorem dX7_look_34 : decode cX7_look 34 = .ok (.getfield 47, 3) := by decide +kernel
theorem dX7_look_37 : decode cX7_look 37 = .ok (.iload_n 1, 1) := by decide +kernel
theorem dX7_look_38 : decode cX7_look 38 = .ok (.iload_n 2, 1) := by decide +kernel
theorem dX7_look_39 : decode cX7_look 39 = .ok (.invokevirtual 255, 3) := by decide +kernel
theorem dX7_look_42 : decode cX7_look 42 = .ok (.iload_n 3, 1) := by decide +kernel
theorem dX7_look_43 : decode cX7_look 43 = .ok (.ireturn, 1) := by decide +kernel
theorem dX7_belief_0 : decode cX7_belief 0 = .ok (.iload_n 1, 1) := by decide +kernel
theorem dX7_belief_1 : decode cX7_belief 1 = .ok (.ifCond .lt 16, 3) := by decide +kernel
theorem dX7_belief_4 : decode cX7_belief 4 = .ok (.iload_n 1, 1) := by decide +kernel
theorem dX7_belief_5 : decode cX7_belief 5 = .ok (.bipush 9, 2) := by decide +kernel
theorem dX7_belief_7 : decode cX7_belief 7 = .ok (.if_icmp .gt 10, 3) := by decide +kernel
theorem dX7_belief_10 : decode cX7_belief 10 = .ok (.iload_n 2, 1) := by decide +kernel
theorem dX7_belief_11 : decode cX7_belief 11 = .ok (.invokestatic 170, 3) := by decide +kernel
theorem dX7_belief_14 : decode cX7_belief 14 = .ok (.ifCond .ne 7, 3) := by decide +kernel
theorem dX7_belief_17 : decode cX7_belief 17 = .ok (.ldc2_w 173, 3) := by decide +kernel
theorem dX7_belief_20 : decode cX7_belief 20 = .ok (.lreturn, 1) := by decide +kernel
theorem dX7_belief_21 : decode cX7_belief 21 = .ok (.aload_n 0, 1) := by decide +kernel
theorem dX7_belief_22 : decode cX7_belief 22 = .ok (.getfield 47, 3) := by decide +kernel
theorem dX7_belief_25 : decode cX7_belief 25 = .ok (.iload_n 1, 1) := by decide +kernel
theorem dX7_belief_26 : decode cX7_belief 26 = .ok (.invokevirtual 258, 3) := by decide +kernel
theorem dX7_belief_29 : decode cX7_belief 29 = .ok (.lstore_n 3, 1) := by decide +kernel
theorem dX7_belief_30 : decode cX7_belief 30 = .ok (.lload_n 3, 1) := by decide +kernel
theorem dX7_belief_31 : decode cX7_belief 31 = .ok (.lload_n 3, 1) := by decide +kernel
theorem dX7_belief_32 : decode cX7_belief 32 = .ok (.aload_n 0, 1) := by decide +kernel
theorem dX7_belief_33 : decode cX7_belief 33 = .ok (.getfield 47, 3) := by decide +kernel
theorem dX7_belief_36 : decode cX7_belief 36 = .ok (.invokevirtual 262, 3) := by decide +kernel
theorem dX7_belief_39 : decode cX7_belief 39 = .ok (.ladd, 1) := by decide +kernel
theorem dX7_belief_40 : decode cX7_belief 40 = .ok (.iload_n 2, 1) := by decide +kernel
theorem dX7_belief_41 : decode cX7_belief 41 = .ok (.invokestatic 195, 3) := by decide +kernel
theorem dX7_belief_44 : decode cX7_belief 44 = .ok (.lreturn, 1) := by decide +kernel
theorem dX7_parting_0 : decode cX7_parting 0 = .ok (.aload_n 0, 1) := by decide +kernel
theorem dX7_parting_1 : decode cX7_parting 1 = .ok (.getfield 47, 3) := by decide +kernel
theorem dX7_parting_4 : decode cX7_parting 4 = .ok (.invokevirtual 265, 3) := by decide +kernel
theorem dX7_parting_7 : decode cX7_parting 7 = .ok (.ireturn, 1) := by decide +kernel
theorem dX7_quiet_0 : decode cX7_quiet 0 = .ok (.iload_n 1, 1) := by decide +kernel
theorem dX7_quiet_1 : decode cX7_quiet 1 = .ok (.iconst 1, 1) := by decide +kernel
theorem dX7_quiet_2 : decode cX7_quiet 2 = .ok (.if_icmp .lt 27, 3) := by decide +kernel
theorem dX7_quiet_5 : decode cX7_quiet 5 = .ok (.iload_n 1, 1) := by decide +kernel
theorem dX7_quiet_6 : decode cX7_quiet 6 = .ok (.bipush 9, 2) := by decide +kernel
theorem dX7_quiet_8 : decode cX7_quiet 8 = .ok (.if_icmp .gt 21, 3) := by decide +kernel
theorem dX7_quiet_11 : decode cX7_quiet 11 = .ok (.iload_n 2, 1) := by decide +kernel
theorem dX7_quiet_12 : decode cX7_quiet 12 = .ok (.ifCond .lt 17, 3) := by decide +kernel
theorem dX7_quiet_15 : decode cX7_quiet 15 = .ok (.iload_n 2, 1) := by decide +kernel
theorem dX7_quiet_16 : decode cX7_quiet 16 = .ok (.bipush 9, 2) := by decide +kernel
theorem dX7_quiet_18 : decode cX7_quiet 18 = .ok (.if_icmp .gt 11, 3) := by decide +kernel
theorem dX7_quiet_21 : decode cX7_quiet 21 = .ok (.iload 4, 2) := by decide +kernel
theorem dX7_quiet_23 : decode cX7_quiet 23 = .ok (.invokestatic 170, 3) := by decide +kernel
theorem dX7_quiet_26 : decode cX7_quiet 26 = .ok (.ifCond .ne 7, 3) := by decide +kernel
theorem dX7_quiet_29 : decode cX7_quiet 29 = .ok (.ldc2_w 173, 3) := by decide +kernel
theorem dX7_quiet_32 : decode cX7_quiet 32 = .ok (.lreturn, 1) := by decide +kernel
theorem dX7_quiet_33 : decode cX7_quiet 33 = .ok (.iload_n 3, 1) := by decide +kernel
theorem dX7_quiet_34 : decode cX7_quiet 34 = .ok (.iconst 1, 1) := by decide +kernel
theorem dX7_quiet_35 : decode cX7_quiet 35 = .ok (.if_icmp .lt 17, 3) := by decide +kernel
theorem dX7_quiet_38 : decode cX7_quiet 38 = .ok (.iload_n 3, 1) := by decide +kernel
theorem dX7_quiet_39 : decode cX7_quiet 39 = .ok (.bipush 18, 2) := by decide +kernel
theorem dX7_quiet_41 : decode cX7_quiet 41 = .ok (.if_icmp .gt 11, 3) := by decide +kernel
theorem dX7_quiet_44 : decode cX7_quiet 44 = .ok (.iload_n 1, 1) := by decide +kernel
theorem dX7_quiet_45 : decode cX7_quiet 45 = .ok (.iload_n 3, 1) := by decide +kernel
theorem dX7_quiet_46 : decode cX7_quiet 46 = .ok (.imul, 1) := by decide +kernel
theorem dX7_quiet_47 : decode cX7_quiet 47 = .ok (.bipush 18, 2) := by decide +kernel
theorem dX7_quiet_49 : decode cX7_quiet 49 = .ok (.if_icmp .le 7, 3) := by decide +kernel
theorem dX7_quiet_52 : decode cX7_quiet 52 = .ok (.ldc2_w 173, 3) := by decide +kernel
theorem dX7_quiet_55 : decode cX7_quiet 55 = .ok (.lreturn, 1) := by decide +kernel
theorem dX7_quiet_56 : decode cX7_quiet 56 = .ok (.bipush 10, 2) := by decide +kernel
theorem dX7_quiet_58 : decode cX7_quiet 58 = .ok (.iload_n 2, 1) := by decide +kernel
theorem dX7_quiet_59 : decode cX7_quiet 59 = .ok (.isub, 1) := by decide +kernel
theorem dX7_quiet_60 : decode cX7_quiet 60 = .ok (.iload_n 1, 1) := by decide +kernel
theorem dX7_quiet_61 : decode cX7_quiet 61 = .ok (.iload_n 3, 1) := by decide +kernel
theorem dX7_quiet_62 : decode cX7_quiet 62 = .ok (.imul, 1) := by decide +kernel
theorem dX7_quiet_63 : decode cX7_quiet 63 = .ok (.invokestatic 268, 3) := by decide +kernel
theorem dX7_quiet_66 : decode cX7_quiet 66 = .ok (.bipush 10, 2) := by decide +kernel
theorem dX7_quiet_68 : decode cX7_quiet 68 = .ok (.iload_n 1, 1) := by decide +kernel
theorem dX7_quiet_69 : decode cX7_quiet 69 = .ok (.iload_n 3, 1) := by decide +kernel
theorem dX7_quiet_70 : decode cX7_quiet 70 = .ok (.imul, 1) := by decide +kernel
theorem dX7_quiet_71 : decode cX7_quiet 71 = .ok (.invokestatic 268, 3) := by decide +kernel
theorem dX7_quiet_74 : decode cX7_quiet 74 = .ok (.iload 4, 2) := by decide +kernel
theorem dX7_quiet_76 : decode cX7_quiet 76 = .ok (.invokestatic 195, 3) := by decide +kernel
theorem dX7_quiet_79 : decode cX7_quiet 79 = .ok (.lreturn, 1) := by decide +kernel
theorem dX7_weeks_0 : decode cX7_weeks 0 = .ok (.iload_n 1, 1) := by decide +kernel
theorem dX7_weeks_1 : decode cX7_weeks 1 = .ok (.ifCond .lt 12, 3) := by decide +kernel
theorem dX7_weeks_4 : decode cX7_weeks 4 = .ok (.iload_n 2, 1) := by decide +kernel
theorem dX7_weeks_5 : decode cX7_weeks 5 = .ok (.ifCond .lt 8, 3) := by decide +kernel
theorem dX7_weeks_8 : decode cX7_weeks 8 = .ok (.iload_n 2, 1) := by decide +kernel
theorem dX7_weeks_9 : decode cX7_weeks 9 = .ok (.iconst 2, 1) := by decide +kernel
theorem dX7_weeks_10 : decode cX7_weeks 10 = .ok (.if_icmp .le 6, 3) := by decide +kernel
theorem dX7_weeks_13 : decode cX7_weeks 13 = .ok (.bipush (-102), 2) := by decide +kernel
theorem dX7_weeks_15 : decode cX7_weeks 15 = .ok (.ireturn, 1) := by decide +kernel
theorem dX7_weeks_16 : decode cX7_weeks 16 = .ok (.iload_n 1, 1) := by decide +kernel
theorem dX7_weeks_17 : decode cX7_weeks 17 = .ok (.istore_n 3, 1) := by decide +kernel
theorem dX7_weeks_18 : decode cX7_weeks 18 = .ok (.iconst (-1), 1) := by decide +kernel
theorem dX7_weeks_19 : decode cX7_weeks 19 = .ok (.istore 4, 2) := by decide +kernel
theorem dX7_weeks_21 : decode cX7_weeks 21 = .ok (.iconst 0, 1) := by decide +kernel
theorem dX7_weeks_22 : decode cX7_weeks 22 = .ok (.istore 5, 2) := by decide +kernel
theorem dX7_weeks_24 : decode cX7_weeks 24 = .ok (.iload 5, 2) := by decide +kernel
theorem dX7_weeks_26 : decode cX7_weeks 26 = .ok (.aload_n 0, 1) := by decide +kernel
theorem dX7_weeks_27 : decode cX7_weeks 27 = .ok (.getfield 33, 3) := by decide +kernel
theorem dX7_weeks_30 : decode cX7_weeks 30 = .ok (.invokevirtual 155, 3) := by decide +kernel
theorem dX7_weeks_33 : decode cX7_weeks 33 = .ok (.if_icmp .ge 60, 3) := by decide +kernel
theorem dX7_weeks_36 : decode cX7_weeks 36 = .ok (.iload 4, 2) := by decide +kernel
theorem dX7_weeks_38 : decode cX7_weeks 38 = .ok (.iconst (-1), 1) := by decide +kernel
theorem dX7_weeks_39 : decode cX7_weeks 39 = .ok (.if_icmp .ne 54, 3) := by decide +kernel
theorem dX7_weeks_42 : decode cX7_weeks 42 = .ok (.aload_n 0, 1) := by decide +kernel
theorem dX7_weeks_43 : decode cX7_weeks 43 = .ok (.getfield 33, 3) := by decide +kernel
theorem dX7_weeks_46 : decode cX7_weeks 46 = .ok (.iload 5, 2) := by decide +kernel
theorem dX7_weeks_48 : decode cX7_weeks 48 = .ok (.aload_n 0, 1) := by decide +kernel
theorem dX7_weeks_49 : decode cX7_weeks 49 = .ok (.getfield 19, 3) := by decide +kernel
theorem dX7_weeks_52 : decode cX7_weeks 52 = .ok (.invokevirtual 272, 3) := by decide +kernel
theorem dX7_weeks_55 : decode cX7_weeks 55 = .ok (.ifCond .eq 32, 3) := by decide +kernel
theorem dX7_weeks_58 : decode cX7_weeks 58 = .ok (.iload_n 3, 1) := by decide +kernel
theorem dX7_weeks_59 : decode cX7_weeks 59 = .ok (.invokestatic 276, 3) := by decide +kernel
theorem dX7_weeks_62 : decode cX7_weeks 62 = .ok (.istore_n 3, 1) := by decide +kernel
theorem dX7_weeks_63 : decode cX7_weeks 63 = .ok (.iload_n 3, 1) := by decide +kernel
theorem dX7_weeks_64 : decode cX7_weeks 64 = .ok (.invokestatic 279, 3) := by decide +kernel
theorem dX7_weeks_67 : decode cX7_weeks 67 = .ok (.aload_n 0, 1) := by decide +kernel
theorem dX7_weeks_68 : decode cX7_weeks 68 = .ok (.getfield 33, 3) := by decide +kernel
theorem dX7_weeks_71 : decode cX7_weeks 71 = .ok (.iload 5, 2) := by decide +kernel
theorem dX7_weeks_73 : decode cX7_weeks 73 = .ok (.aload_n 0, 1) := by decide +kernel
theorem dX7_weeks_74 : decode cX7_weeks 74 = .ok (.getfield 19, 3) := by decide +kernel
theorem dX7_weeks_77 : decode cX7_weeks 77 = .ok (.invokevirtual 166, 3) := by decide +kernel
theorem dX7_weeks_80 : decode cX7_weeks 80 = .ok (.if_icmp .ge 7, 3) := by decide +kernel
theorem dX7_weeks_83 : decode cX7_weeks 83 = .ok (.iload 5, 2) := by decide +kernel
theorem dX7_weeks_85 : decode cX7_weeks 85 = .ok (.istore 4, 2) := by decide +kernel
theorem dX7_weeks_87 : decode cX7_weeks 87 = .ok (.iinc 5 1, 3) := by decide +kernel
theorem dX7_weeks_90 : decode cX7_weeks 90 = .ok (.goto (-66), 3) := by decide +kernel
theorem dX7_weeks_93 : decode cX7_weeks 93 = .ok (.iload_n 2, 1) := by decide +kernel
theorem dX7_weeks_94 : decode cX7_weeks 94 = .ok (.iconst 2, 1) := by decide +kernel
theorem dX7_weeks_95 : decode cX7_weeks 95 = .ok (.if_icmp .ne 5, 3) := by decide +kernel
theorem dX7_weeks_98 : decode cX7_weeks 98 = .ok (.iload_n 3, 1) := by decide +kernel
theorem dX7_weeks_99 : decode cX7_weeks 99 = .ok (.ireturn, 1) := by decide +kernel
theorem dX7_weeks_100 : decode cX7_weeks 100 = .ok (.iload_n 2, 1) := by decide +kernel
theorem dX7_weeks_101 : decode cX7_weeks 101 = .ok (.ifCond .eq 9, 3) := by decide +kernel
theorem dX7_weeks_104 : decode cX7_weeks 104 = .ok (.iload 4, 2) := by decide +kernel
theorem dX7_weeks_106 : decode cX7_weeks 106 = .ok (.iconst (-1), 1) := by decide +kernel
theorem dX7_weeks_107 : decode cX7_weeks 107 = .ok (.if_icmp .ne 8, 3) := by decide +kernel
theorem dX7_weeks_110 : decode cX7_weeks 110 = .ok (.iload 4, 2) := by decide +kernel
theorem dX7_weeks_112 : decode cX7_weeks 112 = .ok (.goto 12, 3) := by decide +kernel
theorem dX7_weeks_115 : decode cX7_weeks 115 = .ok (.aload_n 0, 1) := by decide +kernel
theorem dX7_weeks_116 : decode cX7_weeks 116 = .ok (.getfield 33, 3) := by decide +kernel
theorem dX7_weeks_119 : decode cX7_weeks 119 = .ok (.iload 4, 2) := by decide +kernel
theorem dX7_weeks_121 : decode cX7_weeks 121 = .ok (.invokevirtual 157, 3) := by decide +kernel
theorem dX7_weeks_124 : decode cX7_weeks 124 = .ok (.ireturn, 1) := by decide +kernel
theorem dX7_image_0 : decode cX7_image 0 = .ok (.aload_n 0, 1) := by decide +kernel
theorem dX7_image_1 : decode cX7_image 1 = .ok (.getfield 54, 3) := by decide +kernel
theorem dX7_image_4 : decode cX7_image 4 = .ok (.aload_n 0, 1) := by decide +kernel
theorem dX7_image_5 : decode cX7_image 5 = .ok (.getfield 10, 3) := by decide +kernel
theorem dX7_image_8 : decode cX7_image 8 = .ok (.aload_n 0, 1) := by decide +kernel
theorem dX7_image_9 : decode cX7_image 9 = .ok (.getfield 47, 3) := by decide +kernel
theorem dX7_image_12 : decode cX7_image 12 = .ok (.invokevirtual 282, 3) := by decide +kernel
theorem dX7_image_15 : decode cX7_image 15 = .ok (.aload_n 0, 1) := by decide +kernel
theorem dX7_image_16 : decode cX7_image 16 = .ok (.getfield 19, 3) := by decide +kernel
theorem dX7_image_19 : decode cX7_image 19 = .ok (.bipush 9, 2) := by decide +kernel
theorem dX7_image_21 : decode cX7_image 21 = .ok (.invokevirtual 286, 3) := by decide +kernel
theorem dX7_image_24 : decode cX7_image 24 = .ok (.ireturn, 1) := by decide +kernel
theorem dX7_restore_0 : decode cX7_restore 0 = .ok (.aload_n 0, 1) := by decide +kernel
theorem dX7_restore_1 : decode cX7_restore 1 = .ok (.getfield 54, 3) := by decide +kernel
theorem dX7_restore_4 : decode cX7_restore 4 = .ok (.aload_n 0, 1) := by decide +kernel
theorem dX7_restore_5 : decode cX7_restore 5 = .ok (.getfield 10, 3) := by decide +kernel
theorem dX7_restore_8 : decode cX7_restore 8 = .ok (.aload_n 0, 1) := by decide +kernel
theorem dX7_restore_9 : decode cX7_restore 9 = .ok (.getfield 47, 3) := by decide +kernel
theorem dX7_restore_12 : decode cX7_restore 12 = .ok (.invokevirtual 289, 3) := by decide +kernel
theorem dX7_restore_15 : decode cX7_restore 15 = .ok (.ifCond .ne 6, 3) := by decide +kernel
theorem dX7_restore_18 : decode cX7_restore 18 = .ok (.bipush (-103), 2) := by decide +kernel
theorem dX7_restore_20 : decode cX7_restore 20 = .ok (.ireturn, 1) := by decide +kernel
theorem dX7_restore_21 : decode cX7_restore 21 = .ok (.aload_n 0, 1) := by decide +kernel
theorem dX7_restore_22 : decode cX7_restore 22 = .ok (.getfield 54, 3) := by decide +kernel
theorem dX7_restore_25 : decode cX7_restore 25 = .ok (.aload_n 0, 1) := by decide +kernel
theorem dX7_restore_26 : decode cX7_restore 26 = .ok (.getfield 10, 3) := by decide +kernel
theorem dX7_restore_29 : decode cX7_restore 29 = .ok (.aload_n 0, 1) := by decide +kernel
theorem dX7_restore_30 : decode cX7_restore 30 = .ok (.getfield 47, 3) := by decide +kernel
theorem dX7_restore_33 : decode cX7_restore 33 = .ok (.invokevirtual 293, 3) := by decide +kernel
theorem dX7_restore_36 : decode cX7_restore 36 = .ok (.aload_n 0, 1) := by decide +kernel
theorem dX7_restore_37 : decode cX7_restore 37 = .ok (.invokevirtual 116, 3) := by decide +kernel
theorem dX7_restore_40 : decode cX7_restore 40 = .ok (.aload_n 0, 1) := by decide +kernel
theorem dX7_restore_41 : decode cX7_restore 41 = .ok (.getfield 19, 3) := by decide +kernel
theorem dX7_restore_44 : decode cX7_restore 44 = .ok (.bipush 9, 2) := by decide +kernel
theorem dX7_restore_46 : decode cX7_restore 46 = .ok (.invokevirtual 286, 3) := by decide +kernel
theorem dX7_restore_49 : decode cX7_restore 49 = .ok (.ireturn, 1) := by decide +kernel
theorem dX7_count_0 : decode cX7_count 0 = .ok (.iload_n 1, 1) := by decide +kernel
theorem dX7_count_1 : decode cX7_count 1 = .ok (.tableswitch 107 0 7 #[47, 55, 63, 71, 79, 89, 97, 102], 47) := by decide +kernel
theorem dX7_count_48 : decode cX7_count 48 = .ok (.aload_n 0, 1) := by decide +kernel
theorem dX7_count_49 : decode cX7_count 49 = .ok (.getfield 10, 3) := by decide +kernel
theorem dX7_count_52 : decode cX7_count 52 = .ok (.invokevirtual 138, 3) := by decide +kernel
theorem dX7_count_55 : decode cX7_count 55 = .ok (.ireturn, 1) := by decide +kernel
theorem dX7_count_56 : decode cX7_count 56 = .ok (.aload_n 0, 1) := by decide +kernel
theorem dX7_count_57 : decode cX7_count 57 = .ok (.getfield 33, 3) := by decide +kernel
theorem dX7_count_60 : decode cX7_count 60 = .ok (.invokevirtual 155, 3) := by decide +kernel
theorem dX7_count_63 : decode cX7_count 63 = .ok (.ireturn, 1) := by decide +kernel
theorem dX7_count_64 : decode cX7_count 64 = .ok (.aload_n 0, 1) := by decide +kernel
theorem dX7_count_65 : decode cX7_count 65 = .ok (.getfield 40, 3) := by decide +kernel
theorem dX7_count_68 : decode cX7_count 68 = .ok (.invokevirtual 296, 3) := by decide +kernel
theorem dX7_count_71 : decode cX7_count 71 = .ok (.ireturn, 1) := by decide +kernel
theorem dX7_count_72 : decode cX7_count 72 = .ok (.aload_n 0, 1) := by decide +kernel
theorem dX7_count_73 : decode cX7_count 73 = .ok (.getfield 47, 3) := by decide +kernel
theorem dX7_count_76 : decode cX7_count 76 = .ok (.invokevirtual 297, 3) := by decide +kernel
theorem dX7_count_79 : decode cX7_count 79 = .ok (.ireturn, 1) := by decide +kernel
theorem dX7_count_80 : decode cX7_count 80 = .ok (.aload_n 0, 1) := by decide +kernel
theorem dX7_count_81 : decode cX7_count 81 = .ok (.getfield 19, 3) := by decide +kernel
theorem dX7_count_84 : decode cX7_count 84 = .ok (.bipush 9, 2) := by decide +kernel
theorem dX7_count_86 : decode cX7_count 86 = .ok (.invokevirtual 286, 3) := by decide +kernel
theorem dX7_count_89 : decode cX7_count 89 = .ok (.ireturn, 1) := by decide +kernel
theorem dX7_count_90 : decode cX7_count 90 = .ok (.aload_n 0, 1) := by decide +kernel
theorem dX7_count_91 : decode cX7_count 91 = .ok (.getfield 26, 3) := by decide +kernel
theorem dX7_count_94 : decode cX7_count 94 = .ok (.invokevirtual 127, 3) := by decide +kernel
theorem dX7_count_97 : decode cX7_count 97 = .ok (.ireturn, 1) := by decide +kernel
theorem dX7_count_98 : decode cX7_count 98 = .ok (.aload_n 0, 1) := by decide +kernel
theorem dX7_count_99 : decode cX7_count 99 = .ok (.getfield 65, 3) := by decide +kernel
theorem dX7_count_102 : decode cX7_count 102 = .ok (.ireturn, 1) := by decide +kernel
theorem dX7_count_103 : decode cX7_count 103 = .ok (.aload_n 0, 1) := by decide +kernel
theorem dX7_count_104 : decode cX7_count 104 = .ok (.getfield 69, 3) := by decide +kernel
theorem dX7_count_107 : decode cX7_count 107 = .ok (.ireturn, 1) := by decide +kernel
theorem dX7_count_108 : decode cX7_count 108 = .ok (.bipush (-102), 2) := by decide +kernel
theorem dX7_count_110 : decode cX7_count 110 = .ok (.ireturn, 1) := by decide +kernel
theorem dX7_digest_0 : decode cX7_digest 0 = .ok (.aload_n 0, 1) := by decide +kernel
theorem dX7_digest_1 : decode cX7_digest 1 = .ok (.aload_n 0, 1) := by decide +kernel
theorem dX7_digest_2 : decode cX7_digest 2 = .ok (.ldc2_w 298, 3) := by decide +kernel
theorem dX7_digest_5 : decode cX7_digest 5 = .ok (.invokevirtual 300, 3) := by decide +kernel
theorem dX7_digest_8 : decode cX7_digest 8 = .ok (.invokevirtual 304, 3) := by decide +kernel
theorem dX7_digest_11 : decode cX7_digest 11 = .ok (.lstore_n 1, 1) := by decide +kernel
theorem dX7_digest_12 : decode cX7_digest 12 = .ok (.lload_n 1, 1) := by decide +kernel
theorem dX7_digest_13 : decode cX7_digest 13 = .ok (.aload_n 0, 1) := by decide +kernel
theorem dX7_digest_14 : decode cX7_digest 14 = .ok (.iconst 0, 1) := by decide +kernel
theorem dX7_digest_15 : decode cX7_digest 15 = .ok (.invokevirtual 307, 3) := by decide +kernel
theorem dX7_digest_18 : decode cX7_digest 18 = .ok (.invokestatic 310, 3) := by decide +kernel
theorem dX7_digest_21 : decode cX7_digest 21 = .ok (.aload_n 0, 1) := by decide +kernel
theorem dX7_digest_22 : decode cX7_digest 22 = .ok (.iconst 1, 1) := by decide +kernel
theorem dX7_digest_23 : decode cX7_digest 23 = .ok (.invokevirtual 307, 3) := by decide +kernel
theorem dX7_digest_26 : decode cX7_digest 26 = .ok (.invokestatic 310, 3) := by decide +kernel
theorem dX7_digest_29 : decode cX7_digest 29 = .ok (.lstore_n 1, 1) := by decide +kernel
theorem dX7_digest_30 : decode cX7_digest 30 = .ok (.lload_n 1, 1) := by decide +kernel
theorem dX7_digest_31 : decode cX7_digest 31 = .ok (.aload_n 0, 1) := by decide +kernel
theorem dX7_digest_32 : decode cX7_digest 32 = .ok (.invokevirtual 314, 3) := by decide +kernel
theorem dX7_digest_35 : decode cX7_digest 35 = .ok (.i2l, 1) := by decide +kernel
theorem dX7_digest_36 : decode cX7_digest 36 = .ok (.invokestatic 310, 3) := by decide +kernel
theorem dX7_digest_39 : decode cX7_digest 39 = .ok (.aload_n 0, 1) := by decide +kernel
theorem dX7_digest_40 : decode cX7_digest 40 = .ok (.invokevirtual 317, 3) := by decide +kernel
theorem dX7_digest_43 : decode cX7_digest 43 = .ok (.i2l, 1) := by decide +kernel
theorem dX7_digest_44 : decode cX7_digest 44 = .ok (.invokestatic 310, 3) := by decide +kernel
theorem dX7_digest_47 : decode cX7_digest 47 = .ok (.lstore_n 1, 1) := by decide +kernel
theorem dX7_digest_48 : decode cX7_digest 48 = .ok (.lload_n 1, 1) := by decide +kernel
theorem dX7_digest_49 : decode cX7_digest 49 = .ok (.aload_n 0, 1) := by decide +kernel
theorem dX7_digest_50 : decode cX7_digest 50 = .ok (.iconst 0, 1) := by decide +kernel
theorem dX7_digest_51 : decode cX7_digest 51 = .ok (.invokevirtual 320, 3) := by decide +kernel
theorem dX7_digest_54 : decode cX7_digest 54 = .ok (.i2l, 1) := by decide +kernel
theorem dX7_digest_55 : decode cX7_digest 55 = .ok (.invokestatic 310, 3) := by decide +kernel
theorem dX7_digest_58 : decode cX7_digest 58 = .ok (.aload_n 0, 1) := by decide +kernel
theorem dX7_digest_59 : decode cX7_digest 59 = .ok (.iconst 1, 1) := by decide +kernel
theorem dX7_digest_60 : decode cX7_digest 60 = .ok (.invokevirtual 320, 3) := by decide +kernel
theorem dX7_digest_63 : decode cX7_digest 63 = .ok (.i2l, 1) := by decide +kernel
theorem dX7_digest_64 : decode cX7_digest 64 = .ok (.invokestatic 310, 3) := by decide +kernel
theorem dX7_digest_67 : decode cX7_digest 67 = .ok (.lstore_n 1, 1) := by decide +kernel
theorem dX7_digest_68 : decode cX7_digest 68 = .ok (.aload_n 0, 1) := by decide +kernel
theorem dX7_digest_69 : decode cX7_digest 69 = .ok (.lload_n 1, 1) := by decide +kernel
theorem dX7_digest_70 : decode cX7_digest 70 = .ok (.invokevirtual 323, 3) := by decide +kernel
theorem dX7_digest_73 : decode cX7_digest 73 = .ok (.lstore_n 1, 1) := by decide +kernel
theorem dX7_digest_74 : decode cX7_digest 74 = .ok (.lload_n 1, 1) := by decide +kernel
theorem dX7_digest_75 : decode cX7_digest 75 = .ok (.aload_n 0, 1) := by decide +kernel
theorem dX7_digest_76 : decode cX7_digest 76 = .ok (.iconst 0, 1) := by decide +kernel
theorem dX7_digest_77 : decode cX7_digest 77 = .ok (.iconst 0, 1) := by decide +kernel
theorem dX7_digest_78 : decode cX7_digest 78 = .ok (.invokevirtual 326, 3) := by decide +kernel
theorem dX7_digest_81 : decode cX7_digest 81 = .ok (.invokestatic 310, 3) := by decide +kernel
theorem dX7_digest_84 : decode cX7_digest 84 = .ok (.aload_n 0, 1) := by decide +kernel
theorem dX7_digest_85 : decode cX7_digest 85 = .ok (.iconst 0, 1) := by decide +kernel
theorem dX7_digest_86 : decode cX7_digest 86 = .ok (.iconst 1, 1) := by decide +kernel
theorem dX7_digest_87 : decode cX7_digest 87 = .ok (.invokevirtual 326, 3) := by decide +kernel
theorem dX7_digest_90 : decode cX7_digest 90 = .ok (.invokestatic 310, 3) := by decide +kernel
theorem dX7_digest_93 : decode cX7_digest 93 = .ok (.lstore_n 1, 1) := by decide +kernel
theorem dX7_digest_94 : decode cX7_digest 94 = .ok (.aload_n 0, 1) := by decide +kernel
theorem dX7_digest_95 : decode cX7_digest 95 = .ok (.lload_n 1, 1) := by decide +kernel
theorem dX7_digest_96 : decode cX7_digest 96 = .ok (.aload_n 0, 1) := by decide +kernel
theorem dX7_digest_97 : decode cX7_digest 97 = .ok (.invokevirtual 329, 3) := by decide +kernel
theorem dX7_digest_100 : decode cX7_digest 100 = .ok (.i2l, 1) := by decide +kernel
theorem dX7_digest_101 : decode cX7_digest 101 = .ok (.invokestatic 310, 3) := by decide +kernel
theorem dX7_digest_104 : decode cX7_digest 104 = .ok (.invokevirtual 332, 3) := by decide +kernel
theorem dX7_digest_107 : decode cX7_digest 107 = .ok (.lstore_n 1, 1) := by decide +kernel
theorem dX7_digest_108 : decode cX7_digest 108 = .ok (.iconst 0, 1) := by decide +kernel
theorem dX7_digest_109 : decode cX7_digest 109 = .ok (.istore_n 3, 1) := by decide +kernel
theorem dX7_digest_110 : decode cX7_digest 110 = .ok (.iload_n 3, 1) := by decide +kernel
theorem dX7_digest_111 : decode cX7_digest 111 = .ok (.bipush 7, 2) := by decide +kernel
theorem dX7_digest_113 : decode cX7_digest 113 = .ok (.if_icmp .gt 20, 3) := by decide +kernel
theorem dX7_digest_116 : decode cX7_digest 116 = .ok (.lload_n 1, 1) := by decide +kernel
theorem dX7_digest_117 : decode cX7_digest 117 = .ok (.aload_n 0, 1) := by decide +kernel
theorem dX7_digest_118 : decode cX7_digest 118 = .ok (.iload_n 3, 1) := by decide +kernel
theorem dX7_digest_119 : decode cX7_digest 119 = .ok (.invokevirtual 335, 3) := by decide +kernel
theorem dX7_digest_122 : decode cX7_digest 122 = .ok (.i2l, 1) := by decide +kernel
theorem dX7_digest_123 : decode cX7_digest 123 = .ok (.invokestatic 310, 3) := by decide +kernel
theorem dX7_digest_126 : decode cX7_digest 126 = .ok (.lstore_n 1, 1) := by decide +kernel
theorem dX7_digest_127 : decode cX7_digest 127 = .ok (.iinc 3 1, 3) := by decide +kernel
theorem dX7_digest_130 : decode cX7_digest 130 = .ok (.goto (-20), 3) := by decide +kernel
theorem dX7_digest_133 : decode cX7_digest 133 = .ok (.lload_n 1, 1) := by decide +kernel
theorem dX7_digest_134 : decode cX7_digest 134 = .ok (.lreturn, 1) := by decide +kernel
theorem dX7_mixGuests_0 : decode cX7_mixGuests 0 = .ok (.lload_n 1, 1) := by decide +kernel
theorem dX7_mixGuests_1 : decode cX7_mixGuests 1 = .ok (.lstore_n 3, 1) := by decide +kernel
theorem dX7_mixGuests_2 : decode cX7_mixGuests 2 = .ok (.iconst 0, 1) := by decide +kernel
theorem dX7_mixGuests_3 : decode cX7_mixGuests 3 = .ok (.istore 5, 2) := by decide +kernel
theorem dX7_mixGuests_5 : decode cX7_mixGuests 5 = .ok (.iload 5, 2) := by decide +kernel
theorem dX7_mixGuests_7 : decode cX7_mixGuests 7 = .ok (.aload_n 0, 1) := by decide +kernel
theorem dX7_mixGuests_8 : decode cX7_mixGuests 8 = .ok (.getfield 10, 3) := by decide +kernel
theorem dX7_mixGuests_11 : decode cX7_mixGuests 11 = .ok (.invokevirtual 138, 3) := by decide +kernel
theorem dX7_mixGuests_14 : decode cX7_mixGuests 14 = .ok (.if_icmp .ge 50, 3) := by decide +kernel
theorem dX7_mixGuests_17 : decode cX7_mixGuests 17 = .ok (.iconst 0, 1) := by decide +kernel
theorem dX7_mixGuests_18 : decode cX7_mixGuests 18 = .ok (.istore 6, 2) := by decide +kernel
theorem dX7_mixGuests_20 : decode cX7_mixGuests 20 = .ok (.iload 6, 2) := by decide +kernel
theorem dX7_mixGuests_22 : decode cX7_mixGuests 22 = .ok (.iconst 3, 1) := by decide +kernel
theorem dX7_mixGuests_23 : decode cX7_mixGuests 23 = .ok (.if_icmp .gt 23, 3) := by decide +kernel
theorem dX7_mixGuests_26 : decode cX7_mixGuests 26 = .ok (.lload_n 3, 1) := by decide +kernel
theorem dX7_mixGuests_27 : decode cX7_mixGuests 27 = .ok (.aload_n 0, 1) := by decide +kernel
theorem dX7_mixGuests_28 : decode cX7_mixGuests 28 = .ok (.iload 5, 2) := by decide +kernel
theorem dX7_mixGuests_30 : decode cX7_mixGuests 30 = .ok (.iload 6, 2) := by decide +kernel
theorem dX7_mixGuests_32 : decode cX7_mixGuests 32 = .ok (.invokevirtual 338, 3) := by decide +kernel
theorem dX7_mixGuests_35 : decode cX7_mixGuests 35 = .ok (.i2l, 1) := by decide +kernel
theorem dX7_mixGuests_36 : decode cX7_mixGuests 36 = .ok (.invokestatic 310, 3) := by decide +kernel
theorem dX7_mixGuests_39 : decode cX7_mixGuests 39 = .ok (.lstore_n 3, 1) := by decide +kernel
theorem dX7_mixGuests_40 : decode cX7_mixGuests 40 = .ok (.iinc 6 1, 3) := by decide +kernel
theorem dX7_mixGuests_43 : decode cX7_mixGuests 43 = .ok (.goto (-23), 3) := by decide +kernel
theorem dX7_mixGuests_46 : decode cX7_mixGuests 46 = .ok (.lload_n 3, 1) := by decide +kernel
theorem dX7_mixGuests_47 : decode cX7_mixGuests 47 = .ok (.aload_n 0, 1) := by decide +kernel
theorem dX7_mixGuests_48 : decode cX7_mixGuests 48 = .ok (.iload 5, 2) := by decide +kernel
theorem dX7_mixGuests_50 : decode cX7_mixGuests 50 = .ok (.invokevirtual 341, 3) := by decide +kernel
theorem dX7_mixGuests_53 : decode cX7_mixGuests 53 = .ok (.i2l, 1) := by decide +kernel
theorem dX7_mixGuests_54 : decode cX7_mixGuests 54 = .ok (.invokestatic 310, 3) := by decide +kernel
theorem dX7_mixGuests_57 : decode cX7_mixGuests 57 = .ok (.lstore_n 3, 1) := by decide +kernel
theorem dX7_mixGuests_58 : decode cX7_mixGuests 58 = .ok (.iinc 5 1, 3) := by decide +kernel
theorem dX7_mixGuests_61 : decode cX7_mixGuests 61 = .ok (.goto (-56), 3) := by decide +kernel
theorem dX7_mixGuests_64 : decode cX7_mixGuests 64 = .ok (.lload_n 3, 1) := by decide +kernel
theorem dX7_mixGuests_65 : decode cX7_mixGuests 65 = .ok (.lreturn, 1) := by decide +kernel
theorem dX7_mixMeetings_0 : decode cX7_mixMeetings 0 = .ok (.lload_n 1, 1) := by decide +kernel
theorem dX7_mixMeetings_1 : decode cX7_mixMeetings 1 = .ok (.lstore_n 3, 1) := by decide +kernel
theorem dX7_mixMeetings_2 : decode cX7_mixMeetings 2 = .ok (.iconst 0, 1) := by decide +kernel
theorem dX7_mixMeetings_3 : decode cX7_mixMeetings 3 = .ok (.istore 5, 2) := by decide +kernel
theorem dX7_mixMeetings_5 : decode cX7_mixMeetings 5 = .ok (.iload 5, 2) := by decide +kernel
theorem dX7_mixMeetings_7 : decode cX7_mixMeetings 7 = .ok (.aload_n 0, 1) := by decide +kernel
theorem dX7_mixMeetings_8 : decode cX7_mixMeetings 8 = .ok (.getfield 33, 3) := by decide +kernel
theorem dX7_mixMeetings_11 : decode cX7_mixMeetings 11 = .ok (.invokevirtual 155, 3) := by decide +kernel
theorem dX7_mixMeetings_14 : decode cX7_mixMeetings 14 = .ok (.if_icmp .ge 38, 3) := by decide +kernel
theorem dX7_mixMeetings_17 : decode cX7_mixMeetings 17 = .ok (.iconst 0, 1) := by decide +kernel
theorem dX7_mixMeetings_18 : decode cX7_mixMeetings 18 = .ok (.istore 6, 2) := by decide +kernel
theorem dX7_mixMeetings_20 : decode cX7_mixMeetings 20 = .ok (.iload 6, 2) := by decide +kernel
theorem dX7_mixMeetings_22 : decode cX7_mixMeetings 22 = .ok (.iconst 3, 1) := by decide +kernel
theorem dX7_mixMeetings_23 : decode cX7_mixMeetings 23 = .ok (.if_icmp .gt 23, 3) := by decide +kernel
theorem dX7_mixMeetings_26 : decode cX7_mixMeetings 26 = .ok (.lload_n 3, 1) := by decide +kernel
theorem dX7_mixMeetings_27 : decode cX7_mixMeetings 27 = .ok (.aload_n 0, 1) := by decide +kernel
theorem dX7_mixMeetings_28 : decode cX7_mixMeetings 28 = .ok (.iload 5, 2) := by decide +kernel
theorem dX7_mixMeetings_30 : decode cX7_mixMeetings 30 = .ok (.iload 6, 2) := by decide +kernel
theorem dX7_mixMeetings_32 : decode cX7_mixMeetings 32 = .ok (.invokevirtual 344, 3) := by decide +kernel
theorem dX7_mixMeetings_35 : decode cX7_mixMeetings 35 = .ok (.i2l, 1) := by decide +kernel
theorem dX7_mixMeetings_36 : decode cX7_mixMeetings 36 = .ok (.invokestatic 310, 3) := by decide +kernel
theorem dX7_mixMeetings_39 : decode cX7_mixMeetings 39 = .ok (.lstore_n 3, 1) := by decide +kernel
theorem dX7_mixMeetings_40 : decode cX7_mixMeetings 40 = .ok (.iinc 6 1, 3) := by decide +kernel
theorem dX7_mixMeetings_43 : decode cX7_mixMeetings 43 = .ok (.goto (-23), 3) := by decide +kernel
theorem dX7_mixMeetings_46 : decode cX7_mixMeetings 46 = .ok (.iinc 5 1, 3) := by decide +kernel
theorem dX7_mixMeetings_49 : decode cX7_mixMeetings 49 = .ok (.goto (-44), 3) := by decide +kernel
theorem dX7_mixMeetings_52 : decode cX7_mixMeetings 52 = .ok (.lload_n 3, 1) := by decide +kernel
theorem dX7_mixMeetings_53 : decode cX7_mixMeetings 53 = .ok (.lreturn, 1) := by decide +kernel
theorem dX7_mixSigns_0 : decode cX7_mixSigns 0 = .ok (.lload_n 1, 1) := by decide +kernel
theorem dX7_mixSigns_1 : decode cX7_mixSigns 1 = .ok (.lstore_n 3, 1) := by decide +kernel
theorem dX7_mixSigns_2 : decode cX7_mixSigns 2 = .ok (.iconst 0, 1) := by decide +kernel
theorem dX7_mixSigns_3 : decode cX7_mixSigns 3 = .ok (.istore 5, 2) := by decide +kernel
theorem dX7_mixSigns_5 : decode cX7_mixSigns 5 = .ok (.iload 5, 2) := by decide +kernel
theorem dX7_mixSigns_7 : decode cX7_mixSigns 7 = .ok (.aload_n 0, 1) := by decide +kernel
theorem dX7_mixSigns_8 : decode cX7_mixSigns 8 = .ok (.getfield 47, 3) := by decide +kernel
theorem dX7_mixSigns_11 : decode cX7_mixSigns 11 = .ok (.invokevirtual 297, 3) := by decide +kernel
theorem dX7_mixSigns_14 : decode cX7_mixSigns 14 = .ok (.if_icmp .ge 50, 3) := by decide +kernel
theorem dX7_mixSigns_17 : decode cX7_mixSigns 17 = .ok (.lload_n 3, 1) := by decide +kernel
theorem dX7_mixSigns_18 : decode cX7_mixSigns 18 = .ok (.aload_n 0, 1) := by decide +kernel
theorem dX7_mixSigns_19 : decode cX7_mixSigns 19 = .ok (.getfield 47, 3) := by decide +kernel
theorem dX7_mixSigns_22 : decode cX7_mixSigns 22 = .ok (.iload 5, 2) := by decide +kernel
theorem dX7_mixSigns_24 : decode cX7_mixSigns 24 = .ok (.invokevirtual 347, 3) := by decide +kernel
theorem dX7_mixSigns_27 : decode cX7_mixSigns 27 = .ok (.i2l, 1) := by decide +kernel
theorem dX7_mixSigns_28 : decode cX7_mixSigns 28 = .ok (.invokestatic 310, 3) := by decide +kernel
theorem dX7_mixSigns_31 : decode cX7_mixSigns 31 = .ok (.aload_n 0, 1) := by decide +kernel
theorem dX7_mixSigns_32 : decode cX7_mixSigns 32 = .ok (.getfield 47, 3) := by decide +kernel
theorem dX7_mixSigns_35 : decode cX7_mixSigns 35 = .ok (.iload 5, 2) := by decide +kernel
theorem dX7_mixSigns_37 : decode cX7_mixSigns 37 = .ok (.invokevirtual 350, 3) := by decide +kernel
theorem dX7_mixSigns_40 : decode cX7_mixSigns 40 = .ok (.i2l, 1) := by decide +kernel
theorem dX7_mixSigns_41 : decode cX7_mixSigns 41 = .ok (.invokestatic 310, 3) := by decide +kernel
theorem dX7_mixSigns_44 : decode cX7_mixSigns 44 = .ok (.aload_n 0, 1) := by decide +kernel
theorem dX7_mixSigns_45 : decode cX7_mixSigns 45 = .ok (.getfield 47, 3) := by decide +kernel
theorem dX7_mixSigns_48 : decode cX7_mixSigns 48 = .ok (.iload 5, 2) := by decide +kernel
theorem dX7_mixSigns_50 : decode cX7_mixSigns 50 = .ok (.invokevirtual 252, 3) := by decide +kernel
theorem dX7_mixSigns_53 : decode cX7_mixSigns 53 = .ok (.i2l, 1) := by decide +kernel
theorem dX7_mixSigns_54 : decode cX7_mixSigns 54 = .ok (.invokestatic 310, 3) := by decide +kernel
theorem dX7_mixSigns_57 : decode cX7_mixSigns 57 = .ok (.lstore_n 3, 1) := by decide +kernel
theorem dX7_mixSigns_58 : decode cX7_mixSigns 58 = .ok (.iinc 5 1, 3) := by decide +kernel
theorem dX7_mixSigns_61 : decode cX7_mixSigns 61 = .ok (.goto (-56), 3) := by decide +kernel
theorem dX7_mixSigns_64 : decode cX7_mixSigns 64 = .ok (.lload_n 3, 1) := by decide +kernel
theorem dX7_mixSigns_65 : decode cX7_mixSigns 65 = .ok (.lreturn, 1) := by decide +kernel
theorem dX7_mixLetters_0 : decode cX7_mixLetters 0 = .ok (.lload_n 1, 1) := by decide +kernel
theorem dX7_mixLetters_1 : decode cX7_mixLetters 1 = .ok (.lstore_n 3, 1) := by decide +kernel
theorem dX7_mixLetters_2 : decode cX7_mixLetters 2 = .ok (.iconst 0, 1) := by decide +kernel
theorem dX7_mixLetters_3 : decode cX7_mixLetters 3 = .ok (.istore 5, 2) := by decide +kernel
theorem dX7_mixLetters_5 : decode cX7_mixLetters 5 = .ok (.iload 5, 2) := by decide +kernel
theorem dX7_mixLetters_7 : decode cX7_mixLetters 7 = .ok (.aload_n 0, 1) := by decide +kernel
theorem dX7_mixLetters_8 : decode cX7_mixLetters 8 = .ok (.getfield 26, 3) := by decide +kernel
theorem dX7_mixLetters_11 : decode cX7_mixLetters 11 = .ok (.invokevirtual 127, 3) := by decide +kernel
theorem dX7_mixLetters_14 : decode cX7_mixLetters 14 = .ok (.if_icmp .ge 24, 3) := by decide +kernel
theorem dX7_mixLetters_17 : decode cX7_mixLetters 17 = .ok (.lload_n 3, 1) := by decide +kernel
theorem dX7_mixLetters_18 : decode cX7_mixLetters 18 = .ok (.aload_n 0, 1) := by decide +kernel
theorem dX7_mixLetters_19 : decode cX7_mixLetters 19 = .ok (.getfield 26, 3) := by decide +kernel
theorem dX7_mixLetters_22 : decode cX7_mixLetters 22 = .ok (.iload 5, 2) := by decide +kernel
theorem dX7_mixLetters_24 : decode cX7_mixLetters 24 = .ok (.invokevirtual 353, 3) := by decide +kernel
theorem dX7_mixLetters_27 : decode cX7_mixLetters 27 = .ok (.i2l, 1) := by decide +kernel
theorem dX7_mixLetters_28 : decode cX7_mixLetters 28 = .ok (.invokestatic 310, 3) := by decide +kernel
theorem dX7_mixLetters_31 : decode cX7_mixLetters 31 = .ok (.lstore_n 3, 1) := by decide +kernel
theorem dX7_mixLetters_32 : decode cX7_mixLetters 32 = .ok (.iinc 5 1, 3) := by decide +kernel
theorem dX7_mixLetters_35 : decode cX7_mixLetters 35 = .ok (.goto (-30), 3) := by decide +kernel
theorem dX7_mixLetters_38 : decode cX7_mixLetters 38 = .ok (.lload_n 3, 1) := by decide +kernel
theorem dX7_mixLetters_39 : decode cX7_mixLetters 39 = .ok (.lreturn, 1) := by decide +kernel
theorem dX7_mix_0 : decode cX7_mix 0 = .ok (.ldc2_w 356, 3) := by decide +kernel
theorem dX7_mix_3 : decode cX7_mix 3 = .ok (.lload_n 0, 1) := by decide +kernel
theorem dX7_mix_4 : decode cX7_mix 4 = .ok (.lmul, 1) := by decide +kernel
theorem dX7_mix_5 : decode cX7_mix 5 = .ok (.lload_n 2, 1) := by decide +kernel
theorem dX7_mix_6 : decode cX7_mix 6 = .ok (.ladd, 1) := by decide +kernel
theorem dX7_mix_7 : decode cX7_mix 7 = .ok (.lreturn, 1) := by decide +kernel
theorem dX7_followWord_0 : decode cX7_followWord 0 = .ok (.aload_n 0, 1) := by decide +kernel
theorem dX7_followWord_1 : decode cX7_followWord 1 = .ok (.getfield 10, 3) := by decide +kernel
theorem dX7_followWord_4 : decode cX7_followWord 4 = .ok (.aload_n 0, 1) := by decide +kernel
theorem dX7_followWord_5 : decode cX7_followWord 5 = .ok (.getfield 58, 3) := by decide +kernel
theorem dX7_followWord_8 : decode cX7_followWord 8 = .ok (.invokevirtual 213, 3) := by decide +kernel
theorem dX7_followWord_11 : decode cX7_followWord 11 = .ok (.aload_n 0, 1) := by decide +kernel
theorem dX7_followWord_12 : decode cX7_followWord 12 = .ok (.getfield 19, 3) := by decide +kernel
theorem dX7_followWord_15 : decode cX7_followWord 15 = .ok (.aload_n 0, 1) := by decide +kernel
theorem dX7_followWord_16 : decode cX7_followWord 16 = .ok (.getfield 10, 3) := by decide +kernel
theorem dX7_followWord_19 : decode cX7_followWord 19 = .ok (.aload_n 0, 1) := by decide +kernel
theorem dX7_followWord_20 : decode cX7_followWord 20 = .ok (.getfield 58, 3) := by decide +kernel
theorem dX7_followWord_23 : decode cX7_followWord 23 = .ok (.invokevirtual 358, 3) := by decide +kernel
theorem dX7_followWord_26 : decode cX7_followWord 26 = .ok (.return_, 1) := by decide +kernel
theorem dX7_planBest_0 : decode cX7_planBest 0 = .ok (.aload_n 0, 1) := by decide +kernel
theorem dX7_planBest_1 : decode cX7_planBest 1 = .ok (.getfield 58, 3) := by decide +kernel
theorem dX7_planBest_4 : decode cX7_planBest 4 = .ok (.iconst 0, 1) := by decide +kernel
theorem dX7_planBest_5 : decode cX7_planBest 5 = .ok (.invokestatic 362, 3) := by decide +kernel
theorem dX7_planBest_8 : decode cX7_planBest 8 = .ok (.iconst 0, 1) := by decide +kernel
theorem dX7_planBest_9 : decode cX7_planBest 9 = .ok (.istore_n 1, 1) := by decide +kernel
theorem dX7_planBest_10 : decode cX7_planBest 10 = .ok (.iload_n 1, 1) := by decide +kernel
theorem dX7_planBest_11 : decode cX7_planBest 11 = .ok (.aload_n 0, 1) := by decide +kernel
theorem dX7_planBest_12 : decode cX7_planBest 12 = .ok (.getfield 10, 3) := by decide +kernel
theorem dX7_planBest_15 : decode cX7_planBest 15 = .ok (.invokevirtual 138, 3) := by decide +kernel
theorem dX7_planBest_18 : decode cX7_planBest 18 = .ok (.if_icmp .ge 32, 3) := by decide +kernel
theorem dX7_planBest_21 : decode cX7_planBest 21 = .ok (.aload_n 0, 1) := by decide +kernel
theorem dX7_planBest_22 : decode cX7_planBest 22 = .ok (.getfield 10, 3) := by decide +kernel
theorem dX7_planBest_25 : decode cX7_planBest 25 = .ok (.iload_n 1, 1) := by decide +kernel
theorem dX7_planBest_26 : decode cX7_planBest 26 = .ok (.iconst 2, 1) := by decide +kernel
theorem dX7_planBest_27 : decode cX7_planBest 27 = .ok (.invokevirtual 100, 3) := by decide +kernel
theorem dX7_planBest_30 : decode cX7_planBest 30 = .ok (.ifCond .eq 14, 3) := by decide +kernel
theorem dX7_planBest_33 : decode cX7_planBest 33 = .ok (.aload_n 0, 1) := by decide +kernel
theorem dX7_planBest_34 : decode cX7_planBest 34 = .ok (.getfield 58, 3) := by decide +kernel
theorem dX7_planBest_37 : decode cX7_planBest 37 = .ok (.iload_n 1, 1) := by decide +kernel
theorem dX7_planBest_38 : decode cX7_planBest 38 = .ok (.aload_n 0, 1) := by decide +kernel
theorem dX7_planBest_39 : decode cX7_planBest 39 = .ok (.iload_n 1, 1) := by decide +kernel
theorem dX7_planBest_40 : decode cX7_planBest 40 = .ok (.invokevirtual 368, 3) := by decide +kernel
theorem dX7_planBest_43 : decode cX7_planBest 43 = .ok (.iastore, 1) := by decide +kernel
theorem dX7_planBest_44 : decode cX7_planBest 44 = .ok (.iinc 1 1, 3) := by decide +kernel
theorem dX7_planBest_47 : decode cX7_planBest 47 = .ok (.goto (-37), 3) := by decide +kernel
theorem dX7_planBest_50 : decode cX7_planBest 50 = .ok (.return_, 1) := by decide +kernel
theorem dX7_bestDayFor_0 : decode cX7_bestDayFor 0 = .ok (.aload_n 0, 1) := by decide +kernel
theorem dX7_bestDayFor_1 : decode cX7_bestDayFor 1 = .ok (.getfield 10, 3) := by decide +kernel
theorem dX7_bestDayFor_4 : decode cX7_bestDayFor 4 = .ok (.iload_n 1, 1) := by decide +kernel
theorem dX7_bestDayFor_5 : decode cX7_bestDayFor 5 = .ok (.invokevirtual 84, 3) := by decide +kernel
theorem dX7_bestDayFor_8 : decode cX7_bestDayFor 8 = .ok (.ifCond .ne 5, 3) := by decide +kernel
theorem dX7_bestDayFor_11 : decode cX7_bestDayFor 11 = .ok (.iconst 0, 1) := by decide +kernel
theorem dX7_bestDayFor_12 : decode cX7_bestDayFor 12 = .ok (.ireturn, 1) := by decide +kernel
theorem dX7_bestDayFor_13 : decode cX7_bestDayFor 13 = .ok (.lconst 0, 1) := by decide +kernel
theorem dX7_bestDayFor_14 : decode cX7_bestDayFor 14 = .ok (.lstore_n 2, 1) := by decide +kernel
theorem dX7_bestDayFor_15 : decode cX7_bestDayFor 15 = .ok (.iconst 0, 1) := by decide +kernel
theorem dX7_bestDayFor_16 : decode cX7_bestDayFor 16 = .ok (.istore 4, 2) := by decide +kernel
theorem dX7_bestDayFor_18 : decode cX7_bestDayFor 18 = .ok (.iconst 1, 1) := by decide +kernel
theorem dX7_bestDayFor_19 : decode cX7_bestDayFor 19 = .ok (.istore 5, 2) := by decide +kernel
theorem dX7_bestDayFor_21 : decode cX7_bestDayFor 21 = .ok (.iload 5, 2) := by decide +kernel
theorem dX7_bestDayFor_23 : decode cX7_bestDayFor 23 = .ok (.aload_n 0, 1) := by decide +kernel
theorem dX7_bestDayFor_24 : decode cX7_bestDayFor 24 = .ok (.getfield 10, 3) := by decide +kernel
theorem dX7_bestDayFor_27 : decode cX7_bestDayFor 27 = .ok (.iload_n 1, 1) := by decide +kernel
theorem dX7_bestDayFor_28 : decode cX7_bestDayFor 28 = .ok (.invokevirtual 91, 3) := by decide +kernel
theorem dX7_bestDayFor_31 : decode cX7_bestDayFor 31 = .ok (.if_icmp .gt 37, 3) := by decide +kernel
theorem dX7_bestDayFor_34 : decode cX7_bestDayFor 34 = .ok (.aload_n 0, 1) := by decide +kernel
theorem dX7_bestDayFor_35 : decode cX7_bestDayFor 35 = .ok (.getfield 58, 3) := by decide +kernel
theorem dX7_bestDayFor_38 : decode cX7_bestDayFor 38 = .ok (.iload_n 1, 1) := by decide +kernel
theorem dX7_bestDayFor_39 : decode cX7_bestDayFor 39 = .ok (.iload 5, 2) := by decide +kernel
theorem dX7_bestDayFor_41 : decode cX7_bestDayFor 41 = .ok (.iastore, 1) := by decide +kernel
theorem dX7_bestDayFor_42 : decode cX7_bestDayFor 42 = .ok (.aload_n 0, 1) := by decide +kernel
theorem dX7_bestDayFor_43 : decode cX7_bestDayFor 43 = .ok (.invokevirtual 210, 3) := by decide +kernel
theorem dX7_bestDayFor_46 : decode cX7_bestDayFor 46 = .ok (.lstore 6, 2) := by decide +kernel
theorem dX7_bestDayFor_48 : decode cX7_bestDayFor 48 = .ok (.lload 6, 2) := by decide +kernel
theorem dX7_bestDayFor_50 : decode cX7_bestDayFor 50 = .ok (.lload_n 2, 1) := by decide +kernel
theorem dX7_bestDayFor_51 : decode cX7_bestDayFor 51 = .ok (.lcmp, 1) := by decide +kernel
theorem dX7_bestDayFor_52 : decode cX7_bestDayFor 52 = .ok (.ifCond .le 10, 3) := by decide +kernel
theorem dX7_bestDayFor_55 : decode cX7_bestDayFor 55 = .ok (.lload 6, 2) := by decide +kernel
theorem dX7_bestDayFor_57 : decode cX7_bestDayFor 57 = .ok (.lstore_n 2, 1) := by decide +kernel
theorem dX7_bestDayFor_58 : decode cX7_bestDayFor 58 = .ok (.iload 5, 2) := by decide +kernel
theorem dX7_bestDayFor_60 : decode cX7_bestDayFor 60 = .ok (.istore 4, 2) := by decide +kernel
theorem dX7_bestDayFor_62 : decode cX7_bestDayFor 62 = .ok (.iinc 5 1, 3) := by decide +kernel
theorem dX7_bestDayFor_65 : decode cX7_bestDayFor 65 = .ok (.goto (-44), 3) := by decide +kernel
theorem dX7_bestDayFor_68 : decode cX7_bestDayFor 68 = .ok (.iload 4, 2) := by decide +kernel
theorem dX7_bestDayFor_70 : decode cX7_bestDayFor 70 = .ok (.ireturn, 1) := by decide +kernel
theorem dX7_planWays_0 : decode cX7_planWays 0 = .ok (.aload_n 0, 1) := by decide +kernel
theorem dX7_planWays_1 : decode cX7_planWays 1 = .ok (.getfield 62, 3) := by decide +kernel
theorem dX7_planWays_4 : decode cX7_planWays 4 = .ok (.aload_n 0, 1) := by decide +kernel
theorem dX7_planWays_5 : decode cX7_planWays 5 = .ok (.getfield 10, 3) := by decide +kernel
theorem dX7_planWays_8 : decode cX7_planWays 8 = .ok (.aload_n 0, 1) := by decide +kernel
theorem dX7_planWays_9 : decode cX7_planWays 9 = .ok (.getfield 58, 3) := by decide +kernel
theorem dX7_planWays_12 : decode cX7_planWays 12 = .ok (.invokevirtual 358, 3) := by decide +kernel
theorem dX7_planWays_15 : decode cX7_planWays 15 = .ok (.aload_n 0, 1) := by decide +kernel
theorem dX7_planWays_16 : decode cX7_planWays 16 = .ok (.getfield 33, 3) := by decide +kernel
theorem dX7_planWays_19 : decode cX7_planWays 19 = .ok (.aload_n 0, 1) := by decide +kernel
theorem dX7_planWays_20 : decode cX7_planWays 20 = .ok (.getfield 62, 3) := by decide +kernel
theorem dX7_planWays_23 : decode cX7_planWays 23 = .ok (.invokevirtual 175, 3) := by decide +kernel
theorem dX7_planWays_26 : decode cX7_planWays 26 = .ok (.lreturn, 1) := by decide +kernel
theorem dX7_knownPart_0 : decode cX7_knownPart 0 = .ok (.aload_n 0, 1) := by decide +kernel
theorem dX7_knownPart_1 : decode cX7_knownPart 1 = .ok (.getfield 33, 3) := by decide +kernel
theorem dX7_knownPart_4 : decode cX7_knownPart 4 = .ok (.invokevirtual 185, 3) := by decide +kernel
theorem dX7_knownPart_7 : decode cX7_knownPart 7 = .ok (.lstore 4, 2) := by decide +kernel
theorem dX7_knownPart_9 : decode cX7_knownPart 9 = .ok (.lload 4, 2) := by decide +kernel
theorem dX7_knownPart_11 : decode cX7_knownPart 11 = .ok (.lload_n 1, 1) := by decide +kernel
theorem dX7_knownPart_12 : decode cX7_knownPart 12 = .ok (.lsub, 1) := by decide +kernel
theorem dX7_knownPart_13 : decode cX7_knownPart 13 = .ok (.lload 4, 2) := by decide +kernel
theorem dX7_knownPart_15 : decode cX7_knownPart 15 = .ok (.iload_n 3, 1) := by decide +kernel
theorem dX7_knownPart_16 : decode cX7_knownPart 16 = .ok (.invokestatic 195, 3) := by decide +kernel
theorem dX7_knownPart_19 : decode cX7_knownPart 19 = .ok (.lreturn, 1) := by decide +kernel
theorem dX7_isDay_0 : decode cX7_isDay 0 = .ok (.iload_n 0, 1) := by decide +kernel
theorem dX7_isDay_1 : decode cX7_isDay 1 = .ok (.iconst 1, 1) := by decide +kernel
theorem dX7_isDay_2 : decode cX7_isDay 2 = .ok (.if_icmp .lt 13, 3) := by decide +kernel
theorem dX7_isDay_5 : decode cX7_isDay 5 = .ok (.iload_n 0, 1) := by decide +kernel
theorem dX7_isDay_6 : decode cX7_isDay 6 = .ok (.bipush 8, 2) := by decide +kernel
theorem dX7_isDay_8 : decode cX7_isDay 8 = .ok (.if_icmp .gt 7, 3) := by decide +kernel
theorem dX7_isDay_11 : decode cX7_isDay 11 = .ok (.iconst 1, 1) := by decide +kernel
theorem dX7_isDay_12 : decode cX7_isDay 12 = .ok (.goto 4, 3) := by decide +kernel
theorem dX7_isDay_15 : decode cX7_isDay 15 = .ok (.iconst 0, 1) := by decide +kernel
theorem dX7_isDay_16 : decode cX7_isDay 16 = .ok (.ireturn, 1) := by decide +kernel
theorem dX7_isTenths_0 : decode cX7_isTenths 0 = .ok (.iload_n 0, 1) := by decide +kernel
theorem dX7_isTenths_1 : decode cX7_isTenths 1 = .ok (.iconst 1, 1) := by decide +kernel
theorem dX7_isTenths_2 : decode cX7_isTenths 2 = .ok (.if_icmp .lt 13, 3) := by decide +kernel
theorem dX7_isTenths_5 : decode cX7_isTenths 5 = .ok (.iload_n 0, 1) := by decide +kernel
theorem dX7_isTenths_6 : decode cX7_isTenths 6 = .ok (.bipush 9, 2) := by decide +kernel
theorem dX7_isTenths_8 : decode cX7_isTenths 8 = .ok (.if_icmp .gt 7, 3) := by decide +kernel
theorem dX7_isTenths_11 : decode cX7_isTenths 11 = .ok (.iconst 1, 1) := by decide +kernel
theorem dX7_isTenths_12 : decode cX7_isTenths 12 = .ok (.goto 4, 3) := by decide +kernel
theorem dX7_isTenths_15 : decode cX7_isTenths 15 = .ok (.iconst 0, 1) := by decide +kernel
theorem dX7_isTenths_16 : decode cX7_isTenths 16 = .ok (.ireturn, 1) := by decide +kernel
theorem dX7_isPart_0 : decode cX7_isPart 0 = .ok (.iload_n 0, 1) := by decide +kernel
theorem dX7_isPart_1 : decode cX7_isPart 1 = .ok (.ifCond .eq 8, 3) := by decide +kernel
theorem dX7_isPart_4 : decode cX7_isPart 4 = .ok (.iload_n 0, 1) := by decide +kernel
theorem dX7_isPart_5 : decode cX7_isPart 5 = .ok (.iconst 1, 1) := by decide +kernel
theorem dX7_isPart_6 : decode cX7_isPart 6 = .ok (.if_icmp .ne 7, 3) := by decide +kernel
theorem dX7_isPart_9 : decode cX7_isPart 9 = .ok (.iconst 1, 1) := by decide +kernel
theorem dX7_isPart_10 : decode cX7_isPart 10 = .ok (.goto 4, 3) := by decide +kernel
theorem dX7_isPart_13 : decode cX7_isPart 13 = .ok (.iconst 0, 1) := by decide +kernel
theorem dX7_isPart_14 : decode cX7_isPart 14 = .ok (.ireturn, 1) := by decide +kernel
theorem dX7_bit_0 : decode cX7_bit 0 = .ok (.iload_n 0, 1) := by decide +kernel
theorem dX7_bit_1 : decode cX7_bit 1 = .ok (.iload_n 1, 1) := by decide +kernel
theorem dX7_bit_2 : decode cX7_bit 2 = .ok (.ishr, 1) := by decide +kernel
theorem dX7_bit_3 : decode cX7_bit 3 = .ok (.iconst 1, 1) := by decide +kernel
theorem dX7_bit_4 : decode cX7_bit 4 = .ok (.iand, 1) := by decide +kernel
theorem dX7_bit_5 : decode cX7_bit 5 = .ok (.ireturn, 1) := by decide +kernel
theorem dX7_withBit_0 : decode cX7_withBit 0 = .ok (.iload_n 2, 1) := by decide +kernel
theorem dX7_withBit_1 : decode cX7_withBit 1 = .ok (.ifCond .eq 11, 3) := by decide +kernel
theorem dX7_withBit_4 : decode cX7_withBit 4 = .ok (.iload_n 0, 1) := by decide +kernel
theorem dX7_withBit_5 : decode cX7_withBit 5 = .ok (.iconst 1, 1) := by decide +kernel
theorem dX7_withBit_6 : decode cX7_withBit 6 = .ok (.iload_n 1, 1) := by decide +kernel
theorem dX7_withBit_7 : decode cX7_withBit 7 = .ok (.ishl, 1) := by decide +kernel
theorem dX7_withBit_8 : decode cX7_withBit 8 = .ok (.ior, 1) := by decide +kernel
theorem dX7_withBit_9 : decode cX7_withBit 9 = .ok (.goto 10, 3) := by decide +kernel
theorem dX7_withBit_12 : decode cX7_withBit 12 = .ok (.iload_n 0, 1) := by decide +kernel
theorem dX7_withBit_13 : decode cX7_withBit 13 = .ok (.iconst 1, 1) := by decide +kernel
theorem dX7_withBit_14 : decode cX7_withBit 14 = .ok (.iload_n 1, 1) := by decide +kernel
theorem dX7_withBit_15 : decode cX7_withBit 15 = .ok (.ishl, 1) := by decide +kernel
theorem dX7_withBit_16 : decode cX7_withBit 16 = .ok (.iconst (-1), 1) := by decide +kernel
theorem dX7_withBit_17 : decode cX7_withBit 17 = .ok (.ixor, 1) := by decide +kernel
theorem dX7_withBit_18 : decode cX7_withBit 18 = .ok (.iand, 1) := by decide +kernel
theorem dX7_withBit_19 : decode cX7_withBit 19 = .ok (.ireturn, 1) := by decide +kernel
theorem dX7_power_0 : decode cX7_power 0 = .ok (.lconst 1, 1) := by decide +kernel
theorem dX7_power_1 : decode cX7_power 1 = .ok (.lstore_n 2, 1) := by decide +kernel
theorem dX7_power_2 : decode cX7_power 2 = .ok (.iconst 0, 1) := by decide +kernel
theorem dX7_power_3 : decode cX7_power 3 = .ok (.istore 4, 2) := by decide +kernel
theorem dX7_power_5 : decode cX7_power 5 = .ok (.iload 4, 2) := by decide +kernel
theorem dX7_power_7 : decode cX7_power 7 = .ok (.iload_n 1, 1) := by decide +kernel
theorem dX7_power_8 : decode cX7_power 8 = .ok (.if_icmp .ge 14, 3) := by decide +kernel
theorem dX7_power_11 : decode cX7_power 11 = .ok (.lload_n 2, 1) := by decide +kernel
theorem dX7_power_12 : decode cX7_power 12 = .ok (.iload_n 0, 1) := by decide +kernel
theorem dX7_power_13 : decode cX7_power 13 = .ok (.i2l, 1) := by decide +kernel
theorem dX7_power_14 : decode cX7_power 14 = .ok (.lmul, 1) := by decide +kernel
theorem dX7_power_15 : decode cX7_power 15 = .ok (.lstore_n 2, 1) := by decide +kernel
theorem dX7_power_16 : decode cX7_power 16 = .ok (.iinc 4 1, 3) := by decide +kernel
theorem dX7_power_19 : decode cX7_power 19 = .ok (.goto (-14), 3) := by decide +kernel
theorem dX7_power_22 : decode cX7_power 22 = .ok (.lload_n 2, 1) := by decide +kernel
theorem dX7_power_23 : decode cX7_power 23 = .ok (.lreturn, 1) := by decide +kernel
theorem dX7_lowest_0 : decode cX7_lowest 0 = .ok (.lload_n 0, 1) := by decide +kernel
theorem dX7_lowest_1 : decode cX7_lowest 1 = .ok (.lload_n 2, 1) := by decide +kernel
theorem dX7_lowest_2 : decode cX7_lowest 2 = .ok (.invokestatic 371, 3) := by decide +kernel
theorem dX7_lowest_5 : decode cX7_lowest 5 = .ok (.lstore 5, 2) := by decide +kernel
theorem dX7_lowest_7 : decode cX7_lowest 7 = .ok (.lload 5, 2) := by decide +kernel
theorem dX7_lowest_9 : decode cX7_lowest 9 = .ok (.lconst 0, 1) := by decide +kernel
theorem dX7_lowest_10 : decode cX7_lowest 10 = .ok (.lcmp, 1) := by decide +kernel
theorem dX7_lowest_11 : decode cX7_lowest 11 = .ok (.ifCond .ne 7, 3) := by decide +kernel
theorem dX7_lowest_14 : decode cX7_lowest 14 = .ok (.ldc2_w 189, 3) := by decide +kernel
theorem dX7_lowest_17 : decode cX7_lowest 17 = .ok (.lreturn, 1) := by decide +kernel
theorem dX7_lowest_18 : decode cX7_lowest 18 = .ok (.iload 4, 2) := by decide +kernel
theorem dX7_lowest_20 : decode cX7_lowest 20 = .ok (.ifCond .ne 10, 3) := by decide +kernel
theorem dX7_lowest_23 : decode cX7_lowest 23 = .ok (.lload_n 0, 1) := by decide +kernel
theorem dX7_lowest_24 : decode cX7_lowest 24 = .ok (.lload 5, 2) := by decide +kernel
theorem dX7_lowest_26 : decode cX7_lowest 26 = .ok (.ldiv, 1) := by decide +kernel
theorem dX7_lowest_27 : decode cX7_lowest 27 = .ok (.goto 7, 3) := by decide +kernel
theorem dX7_lowest_30 : decode cX7_lowest 30 = .ok (.lload_n 2, 1) := by decide +kernel
theorem dX7_lowest_31 : decode cX7_lowest 31 = .ok (.lload 5, 2) := by decide +kernel
theorem dX7_lowest_33 : decode cX7_lowest 33 = .ok (.ldiv, 1) := by decide +kernel
theorem dX7_lowest_34 : decode cX7_lowest 34 = .ok (.lreturn, 1) := by decide +kernel
theorem dX7_commonDivisor_0 : decode cX7_commonDivisor 0 = .ok (.lload_n 0, 1) := by decide +kernel
theorem dX7_commonDivisor_1 : decode cX7_commonDivisor 1 = .ok (.lstore 4, 2) := by decide +kernel
theorem dX7_commonDivisor_3 : decode cX7_commonDivisor 3 = .ok (.lload_n 2, 1) := by decide +kernel
theorem dX7_commonDivisor_4 : decode cX7_commonDivisor 4 = .ok (.lstore 6, 2) := by decide +kernel
theorem dX7_commonDivisor_6 : decode cX7_commonDivisor 6 = .ok (.iconst 0, 1) := by decide +kernel
theorem dX7_commonDivisor_7 : decode cX7_commonDivisor 7 = .ok (.istore 8, 2) := by decide +kernel
theorem dX7_commonDivisor_9 : decode cX7_commonDivisor 9 = .ok (.iload 8, 2) := by decide +kernel
theorem dX7_commonDivisor_11 : decode cX7_commonDivisor 11 = .ok (.bipush 100, 2) := by decide +kernel
theorem dX7_commonDivisor_13 : decode cX7_commonDivisor 13 = .ok (.if_icmp .ge 31, 3) := by decide +kernel
theorem dX7_commonDivisor_16 : decode cX7_commonDivisor 16 = .ok (.lload 6, 2) := by decide +kernel
theorem dX7_commonDivisor_18 : decode cX7_commonDivisor 18 = .ok (.lconst 0, 1) := by decide +kernel
theorem dX7_commonDivisor_19 : decode cX7_commonDivisor 19 = .ok (.lcmp, 1) := by decide +kernel
theorem dX7_commonDivisor_20 : decode cX7_commonDivisor 20 = .ok (.ifCond .eq 24, 3) := by decide +kernel
theorem dX7_commonDivisor_23 : decode cX7_commonDivisor 23 = .ok (.lload 4, 2) := by decide +kernel
theorem dX7_commonDivisor_25 : decode cX7_commonDivisor 25 = .ok (.lload 6, 2) := by decide +kernel
theorem dX7_commonDivisor_27 : decode cX7_commonDivisor 27 = .ok (.lrem, 1) := by decide +kernel
theorem dX7_commonDivisor_28 : decode cX7_commonDivisor 28 = .ok (.lstore 9, 2) := by decide +kernel
theorem dX7_commonDivisor_30 : decode cX7_commonDivisor 30 = .ok (.lload 6, 2) := by decide +kernel
theorem dX7_commonDivisor_32 : decode cX7_commonDivisor 32 = .ok (.lstore 4, 2) := by decide +kernel
theorem dX7_commonDivisor_34 : decode cX7_commonDivisor 34 = .ok (.lload 9, 2) := by decide +kernel
theorem dX7_commonDivisor_36 : decode cX7_commonDivisor 36 = .ok (.lstore 6, 2) := by decide +kernel
theorem dX7_commonDivisor_38 : decode cX7_commonDivisor 38 = .ok (.iinc 8 1, 3) := by decide +kernel
theorem dX7_commonDivisor_41 : decode cX7_commonDivisor 41 = .ok (.goto (-32), 3) := by decide +kernel
theorem dX7_commonDivisor_44 : decode cX7_commonDivisor 44 = .ok (.lload 4, 2) := by decide +kernel
theorem dX7_commonDivisor_46 : decode cX7_commonDivisor 46 = .ok (.lreturn, 1) := by decide +kernel
theorem dX7_nextSeed_0 : decode cX7_nextSeed 0 = .ok (.ldc2_w 374, 3) := by decide +kernel
theorem dX7_nextSeed_3 : decode cX7_nextSeed 3 = .ok (.iload_n 0, 1) := by decide +kernel
theorem dX7_nextSeed_4 : decode cX7_nextSeed 4 = .ok (.i2l, 1) := by decide +kernel
theorem dX7_nextSeed_5 : decode cX7_nextSeed 5 = .ok (.lmul, 1) := by decide +kernel
theorem dX7_nextSeed_6 : decode cX7_nextSeed 6 = .ok (.ldc2_w 376, 3) := by decide +kernel
theorem dX7_nextSeed_9 : decode cX7_nextSeed 9 = .ok (.ladd, 1) := by decide +kernel
theorem dX7_nextSeed_10 : decode cX7_nextSeed 10 = .ok (.ldc2_w 378, 3) := by decide +kernel
theorem dX7_nextSeed_13 : decode cX7_nextSeed 13 = .ok (.land, 1) := by decide +kernel
theorem dX7_nextSeed_14 : decode cX7_nextSeed 14 = .ok (.l2i, 1) := by decide +kernel
theorem dX7_nextSeed_15 : decode cX7_nextSeed 15 = .ok (.ireturn, 1) := by decide +kernel
theorem dX7_drawOf_0 : decode cX7_drawOf 0 = .ok (.iload_n 0, 1) := by decide +kernel
theorem dX7_drawOf_1 : decode cX7_drawOf 1 = .ok (.ldc_w 380, 3) := by decide +kernel
theorem dX7_drawOf_4 : decode cX7_drawOf 4 = .ok (.idiv, 1) := by decide +kernel
theorem dX7_drawOf_5 : decode cX7_drawOf 5 = .ok (.bipush 10, 2) := by decide +kernel
theorem dX7_drawOf_7 : decode cX7_drawOf 7 = .ok (.irem, 1) := by decide +kernel
theorem dX7_drawOf_8 : decode cX7_drawOf 8 = .ok (.ireturn, 1) := by decide +kernel
theorem dX8_init_0 : decode cX8_init 0 = .ok (.aload_n 0, 1) := by decide +kernel
theorem dX8_init_1 : decode cX8_init 1 = .ok (.invokespecial 1, 3) := by decide +kernel
theorem dX8_init_4 : decode cX8_init 4 = .ok (.aload_n 0, 1) := by decide +kernel
theorem dX8_init_5 : decode cX8_init 5 = .ok (.bipush 9, 2) := by decide +kernel
theorem dX8_init_7 : decode cX8_init 7 = .ok (.newarray .int, 2) := by decide +kernel
theorem dX8_init_9 : decode cX8_init 9 = .ok (.putfield 7, 3) := by decide +kernel
theorem dX8_init_12 : decode cX8_init 12 = .ok (.aload_n 0, 1) := by decide +kernel
theorem dX8_init_13 : decode cX8_init 13 = .ok (.bipush 9, 2) := by decide +kernel
theorem dX8_init_15 : decode cX8_init 15 = .ok (.newarray .int, 2) := by decide +kernel
theorem dX8_init_17 : decode cX8_init 17 = .ok (.putfield 13, 3) := by decide +kernel
theorem dX8_init_20 : decode cX8_init 20 = .ok (.aload_n 0, 1) := by decide +kernel
theorem dX8_init_21 : decode cX8_init 21 = .ok (.bipush 9, 2) := by decide +kernel
theorem dX8_init_23 : decode cX8_init 23 = .ok (.newarray .int, 2) := by decide +kernel
theorem dX8_init_25 : decode cX8_init 25 = .ok (.putfield 16, 3) := by decide +kernel
theorem dX8_init_28 : decode cX8_init 28 = .ok (.aload_n 0, 1) := by decide +kernel
theorem dX8_init_29 : decode cX8_init 29 = .ok (.bipush 81, 2) := by decide +kernel
theorem dX8_init_31 : decode cX8_init 31 = .ok (.newarray .int, 2) := by decide +kernel
theorem dX8_init_33 : decode cX8_init 33 = .ok (.putfield 19, 3) := by decide +kernel
theorem dX8_init_36 : decode cX8_init 36 = .ok (.aload_n 0, 1) := by decide +kernel
theorem dX8_init_37 : decode cX8_init 37 = .ok (.bipush 9, 2) := by decide +kernel
theorem dX8_init_39 : decode cX8_init 39 = .ok (.newarray .int, 2) := by decide +kernel
theorem dX8_init_41 : decode cX8_init 41 = .ok (.putfield 22, 3) := by decide +kernel
theorem dX8_init_44 : decode cX8_init 44 = .ok (.aload_n 0, 1) := by decide +kernel
theorem dX8_init_45 : decode cX8_init 45 = .ok (.bipush 60, 2) := by decide +kernel
theorem dX8_init_47 : decode cX8_init 47 = .ok (.newarray .int, 2) := by decide +kernel
theorem dX8_init_49 : decode cX8_init 49 = .ok (.putfield 25, 3) := by decide +kernel
theorem dX8_init_52 : decode cX8_init 52 = .ok (.aload_n 0, 1) := by decide +kernel
theorem dX8_init_53 : decode cX8_init 53 = .ok (.bipush 45, 2) := by decide +kernel
theorem dX8_init_55 : decode cX8_init 55 = .ok (.newarray .int, 2) := by decide +kernel
theorem dX8_init_57 : decode cX8_init 57 = .ok (.putfield 28, 3) := by decide +kernel
theorem dX8_init_60 : decode cX8_init 60 = .ok (.aload_n 0, 1) := by decide +kernel
theorem dX8_init_61 : decode cX8_init 61 = .ok (.bipush 9, 2) := by decide +kernel
theorem dX8_init_63 : decode cX8_init 63 = .ok (.newarray .int, 2) := by decide +kernel
theorem dX8_init_65 : decode cX8_init 65 = .ok (.putfield 31, 3) := by decide +kernel
theorem dX8_init_68 : decode cX8_init 68 = .ok (.aload_n 0, 1) := by decide +kernel
theorem dX8_init_69 : decode cX8_init 69 = .ok (.bipush 9, 2) := by decide +kernel
theorem dX8_init_71 : decode cX8_init 71 = .ok (.newarray .int, 2) := by decide +kernel
theorem dX8_init_73 : decode cX8_init 73 = .ok (.putfield 34, 3) := by decide +kernel
theorem dX8_init_76 : decode cX8_init 76 = .ok (.aload_n 0, 1) := by decide +kernel
theorem dX8_init_77 : decode cX8_init 77 = .ok (.bipush 9, 2) := by decide +kernel
theorem dX8_init_79 : decode cX8_init 79 = .ok (.newarray .int, 2) := by decide +kernel
theorem dX8_init_81 : decode cX8_init 81 = .ok (.putfield 37, 3) := by decide +kernel
theorem dX8_init_84 : decode cX8_init 84 = .ok (.aload_n 0, 1) := by decide +kernel
theorem dX8_init_85 : decode cX8_init 85 = .ok (.bipush 8, 2) := by decide +kernel
theorem dX8_init_87 : decode cX8_init 87 = .ok (.newarray .int, 2) := by decide +kernel
theorem dX8_init_89 : decode cX8_init 89 = .ok (.putfield 40, 3) := by decide +kernel
theorem dX8_init_92 : decode cX8_init 92 = .ok (.aload_n 0, 1) := by decide +kernel
theorem dX8_init_93 : decode cX8_init 93 = .ok (.bipush 8, 2) := by decide +kernel
theorem dX8_init_95 : decode cX8_init 95 = .ok (.newarray .int, 2) := by decide +kernel
theorem dX8_init_97 : decode cX8_init 97 = .ok (.putfield 43, 3) := by decide +kernel
theorem dX8_init_100 : decode cX8_init 100 = .ok (.aload_n 0, 1) := by decide +kernel
theorem dX8_init_101 : decode cX8_init 101 = .ok (.bipush 24, 2) := by decide +kernel
theorem dX8_init_103 : decode cX8_init 103 = .ok (.newarray .int, 2) := by decide +kernel
theorem dX8_init_105 : decode cX8_init 105 = .ok (.putfield 46, 3) := by decide +kernel
theorem dX8_init_108 : decode cX8_init 108 = .ok (.aload_n 0, 1) := by decide +kernel
theorem dX8_init_109 : decode cX8_init 109 = .ok (.bipush 9, 2) := by decide +kernel
theorem dX8_init_111 : decode cX8_init 111 = .ok (.newarray .int, 2) := by decide +kernel
theorem dX8_init_113 : decode cX8_init 113 = .ok (.putfield 49, 3) := by decide +kernel
theorem dX8_init_116 : decode cX8_init 116 = .ok (.aload_n 0, 1) := by decide +kernel
theorem dX8_init_117 : decode cX8_init 117 = .ok (.bipush 81, 2) := by decide +kernel
theorem dX8_init_119 : decode cX8_init 119 = .ok (.newarray .int, 2) := by decide +kernel
theorem dX8_init_121 : decode cX8_init 121 = .ok (.putfield 52, 3) := by decide +kernel
theorem dX8_init_124 : decode cX8_init 124 = .ok (.aload_n 0, 1) := by decide +kernel
theorem dX8_init_125 : decode cX8_init 125 = .ok (.bipush 8, 2) := by decide +kernel
theorem dX8_init_127 : decode cX8_init 127 = .ok (.newarray .int, 2) := by decide +kernel
theorem dX8_init_129 : decode cX8_init 129 = .ok (.putfield 55, 3) := by decide +kernel
theorem dX8_init_132 : decode cX8_init 132 = .ok (.aload_n 0, 1) := by decide +kernel
theorem dX8_init_133 : decode cX8_init 133 = .ok (.iconst (-1), 1) := by decide +kernel
theorem dX8_init_134 : decode cX8_init 134 = .ok (.putfield 58, 3) := by decide +kernel
theorem dX8_init_137 : decode cX8_init 137 = .ok (.return_, 1) := by decide +kernel
theorem dX8_in_0 : decode cX8_in 0 = .ok (.lload_n 0, 1) := by decide +kernel
theorem dX8_in_1 : decode cX8_in 1 = .ok (.lload_n 2, 1) := by decide +kernel
theorem dX8_in_2 : decode cX8_in 2 = .ok (.lcmp, 1) := by decide +kernel
theorem dX8_in_3 : decode cX8_in 3 = .ok (.ifCond .lt 14, 3) := by decide +kernel
theorem dX8_in_6 : decode cX8_in 6 = .ok (.lload_n 0, 1) := by decide +kernel
theorem dX8_in_7 : decode cX8_in 7 = .ok (.lload 4, 2) := by decide +kernel
theorem dX8_in_9 : decode cX8_in 9 = .ok (.lcmp, 1) := by decide +kernel
theorem dX8_in_10 : decode cX8_in 10 = .ok (.ifCond .gt 7, 3) := by decide +kernel
theorem dX8_in_13 : decode cX8_in 13 = .ok (.iconst 1, 1) := by decide +kernel
theorem dX8_in_14 : decode cX8_in 14 = .ok (.goto 4, 3) := by decide +kernel
theorem dX8_in_17 : decode cX8_in 17 = .ok (.iconst 0, 1) := by decide +kernel
theorem dX8_in_18 : decode cX8_in 18 = .ok (.ireturn, 1) := by decide +kernel
theorem dX8_isGuest_0 : decode cX8_isGuest 0 = .ok (.iload_n 1, 1) := by decide +kernel
theorem dX8_isGuest_1 : decode cX8_isGuest 1 = .ok (.i2l, 1) := by decide +kernel
theorem dX8_isGuest_2 : decode cX8_isGuest 2 = .ok (.lconst 0, 1) := by decide +kernel
theorem dX8_isGuest_3 : decode cX8_isGuest 3 = .ok (.aload_n 0, 1) := by decide +kernel
theorem dX8_isGuest_4 : decode cX8_isGuest 4 = .ok (.getfield 62, 3) := by decide +kernel
theorem dX8_isGuest_7 : decode cX8_isGuest 7 = .ok (.iconst 1, 1) := by decide +kernel
theorem dX8_isGuest_8 : decode cX8_isGuest 8 = .ok (.isub, 1) := by decide +kernel
theorem dX8_isGuest_9 : decode cX8_isGuest 9 = .ok (.i2l, 1) := by decide +kernel
theorem dX8_isGuest_10 : decode cX8_isGuest 10 = .ok (.invokestatic 65, 3) := by decide +kernel
theorem dX8_isGuest_13 : decode cX8_isGuest 13 = .ok (.ireturn, 1) := by decide +kernel
theorem dX8_isNeeded_0 : decode cX8_isNeeded 0 = .ok (.iload_n 0, 1) := by decide +kernel
theorem dX8_isNeeded_1 : decode cX8_isNeeded 1 = .ok (.iconst 2, 1) := by decide +kernel
theorem dX8_isNeeded_2 : decode cX8_isNeeded 2 = .ok (.if_icmp .eq 8, 3) := by decide +kernel
theorem dX8_isNeeded_5 : decode cX8_isNeeded 5 = .ok (.iload_n 0, 1) := by decide +kernel
theorem dX8_isNeeded_6 : decode cX8_isNeeded 6 = .ok (.iconst 4, 1) := by decide +kernel
theorem dX8_isNeeded_7 : decode cX8_isNeeded 7 = .ok (.if_icmp .ne 7, 3) := by decide +kernel
theorem dX8_isNeeded_10 : decode cX8_isNeeded 10 = .ok (.iconst 1, 1) := by decide +kernel
theorem dX8_isNeeded_11 : decode cX8_isNeeded 11 = .ok (.goto 4, 3) := by decide +kernel
theorem dX8_isNeeded_14 : decode cX8_isNeeded 14 = .ok (.iconst 0, 1) := by decide +kernel
theorem dX8_isNeeded_15 : decode cX8_isNeeded 15 = .ok (.ireturn, 1) := by decide +kernel
theorem dX8_guest_0 : decode cX8_guest 0 = .ok (.iload_n 1, 1) := by decide +kernel
theorem dX8_guest_1 : decode cX8_guest 1 = .ok (.i2l, 1) := by decide +kernel
theorem dX8_guest_2 : decode cX8_guest 2 = .ok (.lconst 0, 1) := by decide +kernel
theorem dX8_guest_3 : decode cX8_guest 3 = .ok (.ldc2_w 69, 3) := by decide +kernel
theorem dX8_guest_6 : decode cX8_guest 6 = .ok (.invokestatic 65, 3) := by decide +kernel
theorem dX8_guest_9 : decode cX8_guest 9 = .ok (.ifCond .eq 29, 3) := by decide +kernel
theorem dX8_guest_12 : decode cX8_guest 12 = .ok (.iload_n 1, 1) := by decide +kernel
theorem dX8_guest_13 : decode cX8_guest 13 = .ok (.invokestatic 71, 3) := by decide +kernel
theorem dX8_guest_16 : decode cX8_guest 16 = .ok (.ifCond .eq 18, 3) := by decide +kernel
theorem dX8_guest_19 : decode cX8_guest 19 = .ok (.iload_n 2, 1) := by decide +kernel
theorem dX8_guest_20 : decode cX8_guest 20 = .ok (.i2l, 1) := by decide +kernel
theorem dX8_guest_21 : decode cX8_guest 21 = .ok (.lconst 1, 1) := by decide +kernel
theorem dX8_guest_22 : decode cX8_guest 22 = .ok (.ldc2_w 75, 3) := by decide +kernel
theorem dX8_guest_25 : decode cX8_guest 25 = .ok (.invokestatic 65, 3) := by decide +kernel
theorem dX8_guest_28 : decode cX8_guest 28 = .ok (.ifCond .ne 13, 3) := by decide +kernel
theorem dX8_guest_31 : decode cX8_guest 31 = .ok (.goto 7, 3) := by decide +kernel
theorem dX8_guest_34 : decode cX8_guest 34 = .ok (.iload_n 2, 1) := by decide +kernel
theorem dX8_guest_35 : decode cX8_guest 35 = .ok (.ifCond .eq 6, 3) := by decide +kernel
theorem dX8_guest_38 : decode cX8_guest 38 = .ok (.bipush (-102), 2) := by decide +kernel
theorem dX8_guest_40 : decode cX8_guest 40 = .ok (.ireturn, 1) := by decide +kernel
theorem dX8_guest_41 : decode cX8_guest 41 = .ok (.aload_n 0, 1) := by decide +kernel
theorem dX8_guest_42 : decode cX8_guest 42 = .ok (.getfield 62, 3) := by decide +kernel
theorem dX8_guest_45 : decode cX8_guest 45 = .ok (.bipush 9, 2) := by decide +kernel
theorem dX8_guest_47 : decode cX8_guest 47 = .ok (.if_icmp .ne 6, 3) := by decide +kernel
theorem dX8_guest_50 : decode cX8_guest 50 = .ok (.bipush (-104), 2) := by decide +kernel
theorem dX8_guest_52 : decode cX8_guest 52 = .ok (.ireturn, 1) := by decide +kernel
theorem dX8_guest_53 : decode cX8_guest 53 = .ok (.aload_n 0, 1) := by decide +kernel
theorem dX8_guest_54 : decode cX8_guest 54 = .ok (.getfield 7, 3) := by decide +kernel
theorem dX8_guest_57 : decode cX8_guest 57 = .ok (.aload_n 0, 1) := by decide +kernel
theorem dX8_guest_58 : decode cX8_guest 58 = .ok (.getfield 62, 3) := by decide +kernel
theorem dX8_guest_61 : decode cX8_guest 61 = .ok (.iload_n 1, 1) := by decide +kernel
theorem dX8_guest_62 : decode cX8_guest 62 = .ok (.iastore, 1) := by decide +kernel
theorem dX8_guest_63 : decode cX8_guest 63 = .ok (.aload_n 0, 1) := by decide +kernel
theorem dX8_guest_64 : decode cX8_guest 64 = .ok (.getfield 13, 3) := by decide +kernel
theorem dX8_guest_67 : decode cX8_guest 67 = .ok (.aload_n 0, 1) := by decide +kernel
theorem dX8_guest_68 : decode cX8_guest 68 = .ok (.getfield 62, 3) := by decide +kernel
theorem dX8_guest_71 : decode cX8_guest 71 = .ok (.iload_n 2, 1) := by decide +kernel
theorem dX8_guest_72 : decode cX8_guest 72 = .ok (.iastore, 1) := by decide +kernel
theorem dX8_guest_73 : decode cX8_guest 73 = .ok (.aload_n 0, 1) := by decide +kernel
theorem dX8_guest_74 : decode cX8_guest 74 = .ok (.getfield 16, 3) := by decide +kernel
theorem dX8_guest_77 : decode cX8_guest 77 = .ok (.aload_n 0, 1) := by decide +kernel
theorem dX8_guest_78 : decode cX8_guest 78 = .ok (.getfield 62, 3) := by decide +kernel
theorem dX8_guest_81 : decode cX8_guest 81 = .ok (.iconst 0, 1) := by decide +kernel
theorem dX8_guest_82 : decode cX8_guest 82 = .ok (.iastore, 1) := by decide +kernel
theorem dX8_guest_83 : decode cX8_guest 83 = .ok (.aload_n 0, 1) := by decide +kernel
theorem dX8_guest_84 : decode cX8_guest 84 = .ok (.dup, 1) := by decide +kernel
theorem dX8_guest_85 : decode cX8_guest 85 = .ok (.getfield 62, 3) := by decide +kernel
theorem dX8_guest_88 : decode cX8_guest 88 = .ok (.iconst 1, 1) := by decide +kernel
theorem dX8_guest_89 : decode cX8_guest 89 = .ok (.iadd, 1) := by decide +kernel
theorem dX8_guest_90 : decode cX8_guest 90 = .ok (.putfield 62, 3) := by decide +kernel
theorem dX8_guest_93 : decode cX8_guest 93 = .ok (.aload_n 0, 1) := by decide +kernel
theorem dX8_guest_94 : decode cX8_guest 94 = .ok (.getfield 62, 3) := by decide +kernel
theorem dX8_guest_97 : decode cX8_guest 97 = .ok (.iconst 1, 1) := by decide +kernel
theorem dX8_guest_98 : decode cX8_guest 98 = .ok (.isub, 1) := by decide +kernel
theorem dX8_guest_99 : decode cX8_guest 99 = .ok (.ireturn, 1) := by decide +kernel
theorem dX8_spread_0 : decode cX8_spread 0 = .ok (.iconst 1, 1) := by decide +kernel
theorem dX8_spread_1 : decode cX8_spread 1 = .ok (.istore_n 2, 1) := by decide +kernel
theorem dX8_spread_2 : decode cX8_spread 2 = .ok (.iload_n 2, 1) := by decide +kernel
theorem dX8_spread_3 : decode cX8_spread 3 = .ok (.bipush 9, 2) := by decide +kernel
theorem dX8_spread_5 : decode cX8_spread 5 = .ok (.if_icmp .ge 144, 3) := by decide +kernel
theorem dX8_spread_8 : decode cX8_spread 8 = .ok (.iconst 0, 1) := by decide +kernel
theorem dX8_spread_9 : decode cX8_spread 9 = .ok (.istore_n 3, 1) := by decide +kernel
theorem dX8_spread_10 : decode cX8_spread 10 = .ok (.iload_n 3, 1) := by decide +kernel
theorem dX8_spread_11 : decode cX8_spread 11 = .ok (.aload_n 0, 1) := by decide +kernel
theorem dX8_spread_12 : decode cX8_spread 12 = .ok (.getfield 62, 3) := by decide +kernel
theorem dX8_spread_15 : decode cX8_spread 15 = .ok (.if_icmp .ge 128, 3) := by decide +kernel
theorem dX8_spread_18 : decode cX8_spread 18 = .ok (.aload_n 0, 1) := by decide +kernel
theorem dX8_spread_19 : decode cX8_spread 19 = .ok (.getfield 22, 3) := by decide +kernel
theorem dX8_spread_22 : decode cX8_spread 22 = .ok (.iload_n 3, 1) := by decide +kernel
theorem dX8_spread_23 : decode cX8_spread 23 = .ok (.iaload, 1) := by decide +kernel
theorem dX8_spread_24 : decode cX8_spread 24 = .ok (.iload_n 2, 1) := by decide +kernel
theorem dX8_spread_25 : decode cX8_spread 25 = .ok (.if_icmp .gt 21, 3) := by decide +kernel
theorem dX8_spread_28 : decode cX8_spread 28 = .ok (.iload_n 1, 1) := by decide +kernel
theorem dX8_spread_29 : decode cX8_spread 29 = .ok (.ifCond .ne 13, 3) := by decide +kernel
theorem dX8_spread_32 : decode cX8_spread 32 = .ok (.aload_n 0, 1) := by decide +kernel
theorem dX8_spread_33 : decode cX8_spread 33 = .ok (.getfield 7, 3) := by decide +kernel
theorem dX8_spread_36 : decode cX8_spread 36 = .ok (.iload_n 3, 1) := by decide +kernel
theorem dX8_spread_37 : decode cX8_spread 37 = .ok (.iaload, 1) := by decide +kernel
theorem dX8_spread_38 : decode cX8_spread 38 = .ok (.iconst 1, 1) := by decide +kernel
theorem dX8_spread_39 : decode cX8_spread 39 = .ok (.if_icmp .ne 7, 3) := by decide +kernel
theorem dX8_spread_42 : decode cX8_spread 42 = .ok (.iconst 1, 1) := by decide +kernel
theorem dX8_spread_43 : decode cX8_spread 43 = .ok (.goto 4, 3) := by decide +kernel
theorem dX8_spread_46 : decode cX8_spread 46 = .ok (.iconst 0, 1) := by decide +kernel
theorem dX8_spread_47 : decode cX8_spread 47 = .ok (.istore 4, 2) := by decide +kernel
theorem dX8_spread_49 : decode cX8_spread 49 = .ok (.iconst 0, 1) := by decide +kernel
theorem dX8_spread_50 : decode cX8_spread 50 = .ok (.istore 5, 2) := by decide +kernel
theorem dX8_spread_52 : decode cX8_spread 52 = .ok (.iload 5, 2) := by decide +kernel
theorem dX8_spread_54 : decode cX8_spread 54 = .ok (.aload_n 0, 1) := by decide +kernel
theorem dX8_spread_55 : decode cX8_spread 55 = .ok (.getfield 62, 3) := by decide +kernel
theorem dX8_spread_58 : decode cX8_spread 58 = .ok (.if_icmp .ge 79, 3) := by decide +kernel
theorem dX8_spread_61 : decode cX8_spread 61 = .ok (.iload 4, 2) := by decide +kernel
theorem dX8_spread_63 : decode cX8_spread 63 = .ok (.ifCond .eq 74, 3) := by decide +kernel
theorem dX8_spread_66 : decode cX8_spread 66 = .ok (.aload_n 0, 1) := by decide +kernel
theorem dX8_spread_67 : decode cX8_spread 67 = .ok (.getfield 19, 3) := by decide +kernel
theorem dX8_spread_70 : decode cX8_spread 70 = .ok (.bipush 9, 2) := by decide +kernel
theorem dX8_spread_72 : decode cX8_spread 72 = .ok (.iload_n 3, 1) := by decide +kernel
theorem dX8_spread_73 : decode cX8_spread 73 = .ok (.imul, 1) := by decide +kernel
theorem dX8_spread_74 : decode cX8_spread 74 = .ok (.iload 5, 2) := by decide +kernel
theorem dX8_spread_76 : decode cX8_spread 76 = .ok (.iadd, 1) := by decide +kernel
theorem dX8_spread_77 : decode cX8_spread 77 = .ok (.iaload, 1) := by decide +kernel
theorem dX8_spread_78 : decode cX8_spread 78 = .ok (.iload_n 2, 1) := by decide +kernel
theorem dX8_spread_79 : decode cX8_spread 79 = .ok (.ishr, 1) := by decide +kernel
theorem dX8_spread_80 : decode cX8_spread 80 = .ok (.iconst 1, 1) := by decide +kernel
theorem dX8_spread_81 : decode cX8_spread 81 = .ok (.iand, 1) := by decide +kernel
theorem dX8_spread_82 : decode cX8_spread 82 = .ok (.iconst 1, 1) := by decide +kernel
theorem dX8_spread_83 : decode cX8_spread 83 = .ok (.if_icmp .ne 7, 3) := by decide +kernel
theorem dX8_spread_86 : decode cX8_spread 86 = .ok (.iconst 1, 1) := by decide +kernel
theorem dX8_spread_87 : decode cX8_spread 87 = .ok (.goto 4, 3) := by decide +kernel
theorem dX8_spread_90 : decode cX8_spread 90 = .ok (.iconst 0, 1) := by decide +kernel
theorem dX8_spread_91 : decode cX8_spread 91 = .ok (.istore 6, 2) := by decide +kernel
theorem dX8_spread_93 : decode cX8_spread 93 = .ok (.aload_n 0, 1) := by decide +kernel
theorem dX8_spread_94 : decode cX8_spread 94 = .ok (.getfield 22, 3) := by decide +kernel
theorem dX8_spread_97 : decode cX8_spread 97 = .ok (.iload 5, 2) := by decide +kernel
theorem dX8_spread_99 : decode cX8_spread 99 = .ok (.iload 6, 2) := by decide +kernel
theorem dX8_spread_101 : decode cX8_spread 101 = .ok (.ifCond .eq 22, 3) := by decide +kernel
theorem dX8_spread_104 : decode cX8_spread 104 = .ok (.iload_n 2, 1) := by decide +kernel
theorem dX8_spread_105 : decode cX8_spread 105 = .ok (.iconst 1, 1) := by decide +kernel
theorem dX8_spread_106 : decode cX8_spread 106 = .ok (.iadd, 1) := by decide +kernel
theorem dX8_spread_107 : decode cX8_spread 107 = .ok (.aload_n 0, 1) := by decide +kernel
theorem dX8_spread_108 : decode cX8_spread 108 = .ok (.getfield 22, 3) := by decide +kernel
theorem dX8_spread_111 : decode cX8_spread 111 = .ok (.iload 5, 2) := by decide +kernel
theorem dX8_spread_113 : decode cX8_spread 113 = .ok (.iaload, 1) := by decide +kernel
theorem dX8_spread_114 : decode cX8_spread 114 = .ok (.if_icmp .ge 9, 3) := by decide +kernel
theorem dX8_spread_117 : decode cX8_spread 117 = .ok (.iload_n 2, 1) := by decide +kernel
theorem dX8_spread_118 : decode cX8_spread 118 = .ok (.iconst 1, 1) := by decide +kernel
theorem dX8_spread_119 : decode cX8_spread 119 = .ok (.iadd, 1) := by decide +kernel
theorem dX8_spread_120 : decode cX8_spread 120 = .ok (.goto 10, 3) := by decide +kernel
theorem dX8_spread_123 : decode cX8_spread 123 = .ok (.aload_n 0, 1) := by decide +kernel
theorem dX8_spread_124 : decode cX8_spread 124 = .ok (.getfield 22, 3) := by decide +kernel
theorem dX8_spread_127 : decode cX8_spread 127 = .ok (.iload 5, 2) := by decide +kernel
theorem dX8_spread_129 : decode cX8_spread 129 = .ok (.iaload, 1) := by decide +kernel
theorem dX8_spread_130 : decode cX8_spread 130 = .ok (.iastore, 1) := by decide +kernel
theorem dX8_spread_131 : decode cX8_spread 131 = .ok (.iinc 5 1, 3) := by decide +kernel
theorem dX8_spread_134 : decode cX8_spread 134 = .ok (.goto (-82), 3) := by decide +kernel
theorem dX8_spread_137 : decode cX8_spread 137 = .ok (.iinc 3 1, 3) := by decide +kernel
theorem dX8_spread_140 : decode cX8_spread 140 = .ok (.goto (-130), 3) := by decide +kernel
theorem dX8_spread_143 : decode cX8_spread 143 = .ok (.iinc 2 1, 3) := by decide +kernel
theorem dX8_spread_146 : decode cX8_spread 146 = .ok (.goto (-144), 3) := by decide +kernel
theorem dX8_spread_149 : decode cX8_spread 149 = .ok (.return_, 1) := by decide +kernel
theorem dX8_layKnows_0 : decode cX8_layKnows 0 = .ok (.iconst 0, 1) := by decide +kernel
theorem dX8_layKnows_1 : decode cX8_layKnows 1 = .ok (.istore_n 2, 1) := by decide +kernel
theorem dX8_layKnows_2 : decode cX8_layKnows 2 = .ok (.iload_n 2, 1) := by decide +kernel
theorem dX8_layKnows_3 : decode cX8_layKnows 3 = .ok (.aload_n 0, 1) := by decide +kernel
theorem dX8_layKnows_4 : decode cX8_layKnows 4 = .ok (.getfield 62, 3) := by decide +kernel
theorem dX8_layKnows_7 : decode cX8_layKnows 7 = .ok (.if_icmp .ge 29, 3) := by decide +kernel
theorem dX8_layKnows_10 : decode cX8_layKnows 10 = .ok (.aload_n 0, 1) := by decide +kernel
theorem dX8_layKnows_11 : decode cX8_layKnows 11 = .ok (.getfield 22, 3) := by decide +kernel
theorem dX8_layKnows_14 : decode cX8_layKnows 14 = .ok (.iload_n 2, 1) := by decide +kernel
theorem dX8_layKnows_15 : decode cX8_layKnows 15 = .ok (.aload_n 1, 1) := by decide +kernel
theorem dX8_layKnows_16 : decode cX8_layKnows 16 = .ok (.iload_n 2, 1) := by decide +kernel
theorem dX8_layKnows_17 : decode cX8_layKnows 17 = .ok (.iaload, 1) := by decide +kernel
theorem dX8_layKnows_18 : decode cX8_layKnows 18 = .ok (.ifCond .ne 8, 3) := by decide +kernel
