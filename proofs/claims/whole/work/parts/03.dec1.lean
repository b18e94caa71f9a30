theorem dX0_init_0 : decode cX0_init 0 = .ok (.aload_n 0, 1) := by decide +kernel
theorem dX0_init_1 : decode cX0_init 1 = .ok (.invokespecial 3, 3) := by decide +kernel
theorem dX0_init_4 : decode cX0_init 4 = .ok (.aload_n 0, 1) := by decide +kernel
theorem dX0_init_5 : decode cX0_init 5 = .ok (.bipush 9, 2) := by decide +kernel
theorem dX0_init_7 : decode cX0_init 7 = .ok (.newarray .int, 2) := by decide +kernel
theorem dX0_init_9 : decode cX0_init 9 = .ok (.putfield 11, 3) := by decide +kernel
theorem dX0_init_12 : decode cX0_init 12 = .ok (.aload_n 0, 1) := by decide +kernel
theorem dX0_init_13 : decode cX0_init 13 = .ok (.bipush 9, 2) := by decide +kernel
theorem dX0_init_15 : decode cX0_init 15 = .ok (.newarray .int, 2) := by decide +kernel
theorem dX0_init_17 : decode cX0_init 17 = .ok (.putfield 15, 3) := by decide +kernel
theorem dX0_init_20 : decode cX0_init 20 = .ok (.aload_n 0, 1) := by decide +kernel
theorem dX0_init_21 : decode cX0_init 21 = .ok (.bipush 9, 2) := by decide +kernel
theorem dX0_init_23 : decode cX0_init 23 = .ok (.newarray .int, 2) := by decide +kernel
theorem dX0_init_25 : decode cX0_init 25 = .ok (.putfield 18, 3) := by decide +kernel
theorem dX0_init_28 : decode cX0_init 28 = .ok (.aload_n 0, 1) := by decide +kernel
theorem dX0_init_29 : decode cX0_init 29 = .ok (.bipush 72, 2) := by decide +kernel
theorem dX0_init_31 : decode cX0_init 31 = .ok (.newarray .int, 2) := by decide +kernel
theorem dX0_init_33 : decode cX0_init 33 = .ok (.putfield 21, 3) := by decide +kernel
theorem dX0_init_36 : decode cX0_init 36 = .ok (.aload_n 0, 1) := by decide +kernel
theorem dX0_init_37 : decode cX0_init 37 = .ok (.iconst 0, 1) := by decide +kernel
theorem dX0_init_38 : decode cX0_init 38 = .ok (.putfield 24, 3) := by decide +kernel
theorem dX0_init_41 : decode cX0_init 41 = .ok (.aload_n 0, 1) := by decide +kernel
theorem dX0_init_42 : decode cX0_init 42 = .ok (.iconst 0, 1) := by decide +kernel
theorem dX0_init_43 : decode cX0_init 43 = .ok (.putfield 28, 3) := by decide +kernel
theorem dX0_init_46 : decode cX0_init 46 = .ok (.return_, 1) := by decide +kernel
theorem dX0_isKind_0 : decode cX0_isKind 0 = .ok (.iload_n 0, 1) := by decide +kernel
theorem dX0_isKind_1 : decode cX0_isKind 1 = .ok (.ifCond .lt 12, 3) := by decide +kernel
theorem dX0_isKind_4 : decode cX0_isKind 4 = .ok (.iload_n 0, 1) := by decide +kernel
theorem dX0_isKind_5 : decode cX0_isKind 5 = .ok (.iconst 4, 1) := by decide +kernel
theorem dX0_isKind_6 : decode cX0_isKind 6 = .ok (.if_icmp .gt 7, 3) := by decide +kernel
theorem dX0_isKind_9 : decode cX0_isKind 9 = .ok (.iconst 1, 1) := by decide +kernel
theorem dX0_isKind_10 : decode cX0_isKind 10 = .ok (.goto 4, 3) := by decide +kernel
theorem dX0_isKind_13 : decode cX0_isKind 13 = .ok (.iconst 0, 1) := by decide +kernel
theorem dX0_isKind_14 : decode cX0_isKind 14 = .ok (.ireturn, 1) := by decide +kernel
theorem dX0_suits_0 : decode cX0_suits 0 = .ok (.iload_n 0, 1) := by decide +kernel
theorem dX0_suits_1 : decode cX0_suits 1 = .ok (.iconst 2, 1) := by decide +kernel
theorem dX0_suits_2 : decode cX0_suits 2 = .ok (.if_icmp .eq 8, 3) := by decide +kernel
theorem dX0_suits_5 : decode cX0_suits 5 = .ok (.iload_n 0, 1) := by decide +kernel
theorem dX0_suits_6 : decode cX0_suits 6 = .ok (.iconst 4, 1) := by decide +kernel
theorem dX0_suits_7 : decode cX0_suits 7 = .ok (.if_icmp .ne 10, 3) := by decide +kernel
theorem dX0_suits_10 : decode cX0_suits 10 = .ok (.iload_n 1, 1) := by decide +kernel
theorem dX0_suits_11 : decode cX0_suits 11 = .ok (.invokestatic 31, 3) := by decide +kernel
theorem dX0_suits_14 : decode cX0_suits 14 = .ok (.goto 12, 3) := by decide +kernel
theorem dX0_suits_17 : decode cX0_suits 17 = .ok (.iload_n 1, 1) := by decide +kernel
theorem dX0_suits_18 : decode cX0_suits 18 = .ok (.ifCond .ne 7, 3) := by decide +kernel
theorem dX0_suits_21 : decode cX0_suits 21 = .ok (.iconst 1, 1) := by decide +kernel
theorem dX0_suits_22 : decode cX0_suits 22 = .ok (.goto 4, 3) := by decide +kernel
theorem dX0_suits_25 : decode cX0_suits 25 = .ok (.iconst 0, 1) := by decide +kernel
theorem dX0_suits_26 : decode cX0_suits 26 = .ok (.ireturn, 1) := by decide +kernel
theorem dX0_size_0 : decode cX0_size 0 = .ok (.aload_n 0, 1) := by decide +kernel
theorem dX0_size_1 : decode cX0_size 1 = .ok (.getfield 28, 3) := by decide +kernel
theorem dX0_size_4 : decode cX0_size 4 = .ok (.ireturn, 1) := by decide +kernel
theorem dX0_has_0 : decode cX0_has 0 = .ok (.iload_n 1, 1) := by decide +kernel
theorem dX0_has_1 : decode cX0_has 1 = .ok (.ifCond .lt 15, 3) := by decide +kernel
theorem dX0_has_4 : decode cX0_has 4 = .ok (.iload_n 1, 1) := by decide +kernel
theorem dX0_has_5 : decode cX0_has 5 = .ok (.aload_n 0, 1) := by decide +kernel
theorem dX0_has_6 : decode cX0_has 6 = .ok (.getfield 28, 3) := by decide +kernel
theorem dX0_has_9 : decode cX0_has 9 = .ok (.if_icmp .ge 7, 3) := by decide +kernel
theorem dX0_has_12 : decode cX0_has 12 = .ok (.iconst 1, 1) := by decide +kernel
theorem dX0_has_13 : decode cX0_has 13 = .ok (.goto 4, 3) := by decide +kernel
theorem dX0_has_16 : decode cX0_has 16 = .ok (.iconst 0, 1) := by decide +kernel
theorem dX0_has_17 : decode cX0_has 17 = .ok (.ireturn, 1) := by decide +kernel
theorem dX0_add_0 : decode cX0_add 0 = .ok (.aload_n 0, 1) := by decide +kernel
theorem dX0_add_1 : decode cX0_add 1 = .ok (.getfield 28, 3) := by decide +kernel
theorem dX0_add_4 : decode cX0_add 4 = .ok (.bipush 9, 2) := by decide +kernel
theorem dX0_add_6 : decode cX0_add 6 = .ok (.if_icmp .lt 6, 3) := by decide +kernel
theorem dX0_add_9 : decode cX0_add 9 = .ok (.bipush (-104), 2) := by decide +kernel
theorem dX0_add_11 : decode cX0_add 11 = .ok (.ireturn, 1) := by decide +kernel
theorem dX0_add_12 : decode cX0_add 12 = .ok (.aload_n 0, 1) := by decide +kernel
theorem dX0_add_13 : decode cX0_add 13 = .ok (.getfield 11, 3) := by decide +kernel
theorem dX0_add_16 : decode cX0_add 16 = .ok (.aload_n 0, 1) := by decide +kernel
theorem dX0_add_17 : decode cX0_add 17 = .ok (.getfield 28, 3) := by decide +kernel
theorem dX0_add_20 : decode cX0_add 20 = .ok (.iload_n 1, 1) := by decide +kernel
theorem dX0_add_21 : decode cX0_add 21 = .ok (.iastore, 1) := by decide +kernel
theorem dX0_add_22 : decode cX0_add 22 = .ok (.aload_n 0, 1) := by decide +kernel
theorem dX0_add_23 : decode cX0_add 23 = .ok (.getfield 15, 3) := by decide +kernel
theorem dX0_add_26 : decode cX0_add 26 = .ok (.aload_n 0, 1) := by decide +kernel
theorem dX0_add_27 : decode cX0_add 27 = .ok (.getfield 28, 3) := by decide +kernel
theorem dX0_add_30 : decode cX0_add 30 = .ok (.iload_n 2, 1) := by decide +kernel
theorem dX0_add_31 : decode cX0_add 31 = .ok (.iastore, 1) := by decide +kernel
theorem dX0_add_32 : decode cX0_add 32 = .ok (.aload_n 0, 1) := by decide +kernel
theorem dX0_add_33 : decode cX0_add 33 = .ok (.aload_n 0, 1) := by decide +kernel
theorem dX0_add_34 : decode cX0_add 34 = .ok (.getfield 24, 3) := by decide +kernel
theorem dX0_add_37 : decode cX0_add 37 = .ok (.aload_n 0, 1) := by decide +kernel
theorem dX0_add_38 : decode cX0_add 38 = .ok (.getfield 28, 3) := by decide +kernel
theorem dX0_add_41 : decode cX0_add 41 = .ok (.iload_n 1, 1) := by decide +kernel
theorem dX0_add_42 : decode cX0_add 42 = .ok (.iconst 1, 1) := by decide +kernel
theorem dX0_add_43 : decode cX0_add 43 = .ok (.if_icmp .ne 7, 3) := by decide +kernel
theorem dX0_add_46 : decode cX0_add 46 = .ok (.iconst 1, 1) := by decide +kernel
theorem dX0_add_47 : decode cX0_add 47 = .ok (.goto 4, 3) := by decide +kernel
theorem dX0_add_50 : decode cX0_add 50 = .ok (.iconst 0, 1) := by decide +kernel
theorem dX0_add_51 : decode cX0_add 51 = .ok (.invokestatic 35, 3) := by decide +kernel
theorem dX0_add_54 : decode cX0_add 54 = .ok (.putfield 24, 3) := by decide +kernel
theorem dX0_add_57 : decode cX0_add 57 = .ok (.aload_n 0, 1) := by decide +kernel
theorem dX0_add_58 : decode cX0_add 58 = .ok (.dup, 1) := by decide +kernel
theorem dX0_add_59 : decode cX0_add 59 = .ok (.getfield 28, 3) := by decide +kernel
theorem dX0_add_62 : decode cX0_add 62 = .ok (.iconst 1, 1) := by decide +kernel
theorem dX0_add_63 : decode cX0_add 63 = .ok (.iadd, 1) := by decide +kernel
theorem dX0_add_64 : decode cX0_add 64 = .ok (.putfield 28, 3) := by decide +kernel
theorem dX0_add_67 : decode cX0_add 67 = .ok (.aload_n 0, 1) := by decide +kernel
theorem dX0_add_68 : decode cX0_add 68 = .ok (.getfield 28, 3) := by decide +kernel
theorem dX0_add_71 : decode cX0_add 71 = .ok (.iconst 1, 1) := by decide +kernel
theorem dX0_add_72 : decode cX0_add 72 = .ok (.isub, 1) := by decide +kernel
theorem dX0_add_73 : decode cX0_add 73 = .ok (.ireturn, 1) := by decide +kernel
theorem dX0_kindOf_0 : decode cX0_kindOf 0 = .ok (.aload_n 0, 1) := by decide +kernel
theorem dX0_kindOf_1 : decode cX0_kindOf 1 = .ok (.iload_n 1, 1) := by decide +kernel
theorem dX0_kindOf_2 : decode cX0_kindOf 2 = .ok (.invokevirtual 39, 3) := by decide +kernel
theorem dX0_kindOf_5 : decode cX0_kindOf 5 = .ok (.ifCond .eq 12, 3) := by decide +kernel
theorem dX0_kindOf_8 : decode cX0_kindOf 8 = .ok (.aload_n 0, 1) := by decide +kernel
theorem dX0_kindOf_9 : decode cX0_kindOf 9 = .ok (.getfield 11, 3) := by decide +kernel
theorem dX0_kindOf_12 : decode cX0_kindOf 12 = .ok (.iload_n 1, 1) := by decide +kernel
theorem dX0_kindOf_13 : decode cX0_kindOf 13 = .ok (.iaload, 1) := by decide +kernel
theorem dX0_kindOf_14 : decode cX0_kindOf 14 = .ok (.goto 4, 3) := by decide +kernel
theorem dX0_kindOf_17 : decode cX0_kindOf 17 = .ok (.iconst (-1), 1) := by decide +kernel
theorem dX0_kindOf_18 : decode cX0_kindOf 18 = .ok (.ireturn, 1) := by decide +kernel
theorem dX0_byOf_0 : decode cX0_byOf 0 = .ok (.aload_n 0, 1) := by decide +kernel
theorem dX0_byOf_1 : decode cX0_byOf 1 = .ok (.iload_n 1, 1) := by decide +kernel
theorem dX0_byOf_2 : decode cX0_byOf 2 = .ok (.invokevirtual 39, 3) := by decide +kernel
theorem dX0_byOf_5 : decode cX0_byOf 5 = .ok (.ifCond .eq 12, 3) := by decide +kernel
theorem dX0_byOf_8 : decode cX0_byOf 8 = .ok (.aload_n 0, 1) := by decide +kernel
theorem dX0_byOf_9 : decode cX0_byOf 9 = .ok (.getfield 15, 3) := by decide +kernel
theorem dX0_byOf_12 : decode cX0_byOf 12 = .ok (.iload_n 1, 1) := by decide +kernel
theorem dX0_byOf_13 : decode cX0_byOf 13 = .ok (.iaload, 1) := by decide +kernel
theorem dX0_byOf_14 : decode cX0_byOf 14 = .ok (.goto 4, 3) := by decide +kernel
theorem dX0_byOf_17 : decode cX0_byOf 17 = .ok (.iconst 0, 1) := by decide +kernel
theorem dX0_byOf_18 : decode cX0_byOf 18 = .ok (.ireturn, 1) := by decide +kernel
theorem dX0_toldOf_0 : decode cX0_toldOf 0 = .ok (.aload_n 0, 1) := by decide +kernel
theorem dX0_toldOf_1 : decode cX0_toldOf 1 = .ok (.iload_n 1, 1) := by decide +kernel
theorem dX0_toldOf_2 : decode cX0_toldOf 2 = .ok (.invokevirtual 39, 3) := by decide +kernel
theorem dX0_toldOf_5 : decode cX0_toldOf 5 = .ok (.ifCond .eq 12, 3) := by decide +kernel
theorem dX0_toldOf_8 : decode cX0_toldOf 8 = .ok (.aload_n 0, 1) := by decide +kernel
theorem dX0_toldOf_9 : decode cX0_toldOf 9 = .ok (.getfield 18, 3) := by decide +kernel
theorem dX0_toldOf_12 : decode cX0_toldOf 12 = .ok (.iload_n 1, 1) := by decide +kernel
theorem dX0_toldOf_13 : decode cX0_toldOf 13 = .ok (.iaload, 1) := by decide +kernel
theorem dX0_toldOf_14 : decode cX0_toldOf 14 = .ok (.goto 4, 3) := by decide +kernel
theorem dX0_toldOf_17 : decode cX0_toldOf 17 = .ok (.iconst 0, 1) := by decide +kernel
theorem dX0_toldOf_18 : decode cX0_toldOf 18 = .ok (.ireturn, 1) := by decide +kernel
theorem dX0_aunts_0 : decode cX0_aunts 0 = .ok (.aload_n 0, 1) := by decide +kernel
theorem dX0_aunts_1 : decode cX0_aunts 1 = .ok (.getfield 24, 3) := by decide +kernel
theorem dX0_aunts_4 : decode cX0_aunts 4 = .ok (.ireturn, 1) := by decide +kernel
theorem dX0_isA_0 : decode cX0_isA 0 = .ok (.aload_n 0, 1) := by decide +kernel
theorem dX0_isA_1 : decode cX0_isA 1 = .ok (.iload_n 1, 1) := by decide +kernel
theorem dX0_isA_2 : decode cX0_isA 2 = .ok (.invokevirtual 42, 3) := by decide +kernel
theorem dX0_isA_5 : decode cX0_isA 5 = .ok (.istore_n 3, 1) := by decide +kernel
theorem dX0_isA_6 : decode cX0_isA 6 = .ok (.iload_n 3, 1) := by decide +kernel
theorem dX0_isA_7 : decode cX0_isA 7 = .ok (.iconst (-1), 1) := by decide +kernel
theorem dX0_isA_8 : decode cX0_isA 8 = .ok (.if_icmp .eq 26, 3) := by decide +kernel
theorem dX0_isA_11 : decode cX0_isA 11 = .ok (.iload_n 2, 1) := by decide +kernel
theorem dX0_isA_12 : decode cX0_isA 12 = .ok (.ifCond .eq 18, 3) := by decide +kernel
theorem dX0_isA_15 : decode cX0_isA 15 = .ok (.iload_n 2, 1) := by decide +kernel
theorem dX0_isA_16 : decode cX0_isA 16 = .ok (.iload_n 3, 1) := by decide +kernel
theorem dX0_isA_17 : decode cX0_isA 17 = .ok (.if_icmp .eq 13, 3) := by decide +kernel
theorem dX0_isA_20 : decode cX0_isA 20 = .ok (.iload_n 2, 1) := by decide +kernel
theorem dX0_isA_21 : decode cX0_isA 21 = .ok (.iconst 2, 1) := by decide +kernel
theorem dX0_isA_22 : decode cX0_isA 22 = .ok (.if_icmp .ne 12, 3) := by decide +kernel
theorem dX0_isA_25 : decode cX0_isA 25 = .ok (.iload_n 3, 1) := by decide +kernel
theorem dX0_isA_26 : decode cX0_isA 26 = .ok (.iconst 4, 1) := by decide +kernel
theorem dX0_isA_27 : decode cX0_isA 27 = .ok (.if_icmp .ne 7, 3) := by decide +kernel
theorem dX0_isA_30 : decode cX0_isA 30 = .ok (.iconst 1, 1) := by decide +kernel
theorem dX0_isA_31 : decode cX0_isA 31 = .ok (.goto 4, 3) := by decide +kernel
theorem dX0_isA_34 : decode cX0_isA 34 = .ok (.iconst 0, 1) := by decide +kernel
theorem dX0_isA_35 : decode cX0_isA 35 = .ok (.ireturn, 1) := by decide +kernel
theorem dX0_isSoftSpoken_0 : decode cX0_isSoftSpoken 0 = .ok (.aload_n 0, 1) := by decide +kernel
theorem dX0_isSoftSpoken_1 : decode cX0_isSoftSpoken 1 = .ok (.iload_n 1, 1) := by decide +kernel
theorem dX0_isSoftSpoken_2 : decode cX0_isSoftSpoken 2 = .ok (.iconst 3, 1) := by decide +kernel
theorem dX0_isSoftSpoken_3 : decode cX0_isSoftSpoken 3 = .ok (.invokevirtual 46, 3) := by decide +kernel
theorem dX0_isSoftSpoken_6 : decode cX0_isSoftSpoken 6 = .ok (.ifCond .ne 12, 3) := by decide +kernel
theorem dX0_isSoftSpoken_9 : decode cX0_isSoftSpoken 9 = .ok (.aload_n 0, 1) := by decide +kernel
theorem dX0_isSoftSpoken_10 : decode cX0_isSoftSpoken 10 = .ok (.iload_n 1, 1) := by decide +kernel
theorem dX0_isSoftSpoken_11 : decode cX0_isSoftSpoken 11 = .ok (.iconst 4, 1) := by decide +kernel
theorem dX0_isSoftSpoken_12 : decode cX0_isSoftSpoken 12 = .ok (.invokevirtual 46, 3) := by decide +kernel
theorem dX0_isSoftSpoken_15 : decode cX0_isSoftSpoken 15 = .ok (.ifCond .eq 7, 3) := by decide +kernel
theorem dX0_isSoftSpoken_18 : decode cX0_isSoftSpoken 18 = .ok (.iconst 1, 1) := by decide +kernel
theorem dX0_isSoftSpoken_19 : decode cX0_isSoftSpoken 19 = .ok (.goto 4, 3) := by decide +kernel
theorem dX0_isSoftSpoken_22 : decode cX0_isSoftSpoken 22 = .ok (.iconst 0, 1) := by decide +kernel
theorem dX0_isSoftSpoken_23 : decode cX0_isSoftSpoken 23 = .ok (.ireturn, 1) := by decide +kernel
theorem dX0_howMany_0 : decode cX0_howMany 0 = .ok (.iconst 0, 1) := by decide +kernel
theorem dX0_howMany_1 : decode cX0_howMany 1 = .ok (.istore_n 2, 1) := by decide +kernel
theorem dX0_howMany_2 : decode cX0_howMany 2 = .ok (.iconst 0, 1) := by decide +kernel
theorem dX0_howMany_3 : decode cX0_howMany 3 = .ok (.istore_n 3, 1) := by decide +kernel
theorem dX0_howMany_4 : decode cX0_howMany 4 = .ok (.iload_n 3, 1) := by decide +kernel
theorem dX0_howMany_5 : decode cX0_howMany 5 = .ok (.aload_n 0, 1) := by decide +kernel
theorem dX0_howMany_6 : decode cX0_howMany 6 = .ok (.getfield 28, 3) := by decide +kernel
theorem dX0_howMany_9 : decode cX0_howMany 9 = .ok (.if_icmp .ge 21, 3) := by decide +kernel
theorem dX0_howMany_12 : decode cX0_howMany 12 = .ok (.aload_n 0, 1) := by decide +kernel
theorem dX0_howMany_13 : decode cX0_howMany 13 = .ok (.iload_n 3, 1) := by decide +kernel
theorem dX0_howMany_14 : decode cX0_howMany 14 = .ok (.iload_n 1, 1) := by decide +kernel
theorem dX0_howMany_15 : decode cX0_howMany 15 = .ok (.invokevirtual 46, 3) := by decide +kernel
theorem dX0_howMany_18 : decode cX0_howMany 18 = .ok (.ifCond .eq 6, 3) := by decide +kernel
theorem dX0_howMany_21 : decode cX0_howMany 21 = .ok (.iinc 2 1, 3) := by decide +kernel
theorem dX0_howMany_24 : decode cX0_howMany 24 = .ok (.iinc 3 1, 3) := by decide +kernel
theorem dX0_howMany_27 : decode cX0_howMany 27 = .ok (.goto (-23), 3) := by decide +kernel
theorem dX0_howMany_30 : decode cX0_howMany 30 = .ok (.iload_n 2, 1) := by decide +kernel
theorem dX0_howMany_31 : decode cX0_howMany 31 = .ok (.ireturn, 1) := by decide +kernel
theorem dX0_putTold_0 : decode cX0_putTold 0 = .ok (.aload_n 0, 1) := by decide +kernel
theorem dX0_putTold_1 : decode cX0_putTold 1 = .ok (.iload_n 1, 1) := by decide +kernel
theorem dX0_putTold_2 : decode cX0_putTold 2 = .ok (.invokevirtual 39, 3) := by decide +kernel
theorem dX0_putTold_5 : decode cX0_putTold 5 = .ok (.ifCond .eq 10, 3) := by decide +kernel
theorem dX0_putTold_8 : decode cX0_putTold 8 = .ok (.aload_n 0, 1) := by decide +kernel
theorem dX0_putTold_9 : decode cX0_putTold 9 = .ok (.getfield 18, 3) := by decide +kernel
theorem dX0_putTold_12 : decode cX0_putTold 12 = .ok (.iload_n 1, 1) := by decide +kernel
theorem dX0_putTold_13 : decode cX0_putTold 13 = .ok (.iload_n 2, 1) := by decide +kernel
theorem dX0_putTold_14 : decode cX0_putTold 14 = .ok (.iastore, 1) := by decide +kernel
theorem dX0_putTold_15 : decode cX0_putTold 15 = .ok (.return_, 1) := by decide +kernel
theorem dX0_copyTold_0 : decode cX0_copyTold 0 = .ok (.iconst 0, 1) := by decide +kernel
theorem dX0_copyTold_1 : decode cX0_copyTold 1 = .ok (.istore_n 2, 1) := by decide +kernel
theorem dX0_copyTold_2 : decode cX0_copyTold 2 = .ok (.iload_n 2, 1) := by decide +kernel
theorem dX0_copyTold_3 : decode cX0_copyTold 3 = .ok (.bipush 9, 2) := by decide +kernel
theorem dX0_copyTold_5 : decode cX0_copyTold 5 = .ok (.if_icmp .ge 24, 3) := by decide +kernel
theorem dX0_copyTold_8 : decode cX0_copyTold 8 = .ok (.iload_n 2, 1) := by decide +kernel
theorem dX0_copyTold_9 : decode cX0_copyTold 9 = .ok (.aload_n 1, 1) := by decide +kernel
theorem dX0_copyTold_10 : decode cX0_copyTold 10 = .ok (.arraylength, 1) := by decide +kernel
theorem dX0_copyTold_11 : decode cX0_copyTold 11 = .ok (.if_icmp .ge 18, 3) := by decide +kernel
theorem dX0_copyTold_14 : decode cX0_copyTold 14 = .ok (.aload_n 1, 1) := by decide +kernel
theorem dX0_copyTold_15 : decode cX0_copyTold 15 = .ok (.iload_n 2, 1) := by decide +kernel
theorem dX0_copyTold_16 : decode cX0_copyTold 16 = .ok (.aload_n 0, 1) := by decide +kernel
theorem dX0_copyTold_17 : decode cX0_copyTold 17 = .ok (.getfield 18, 3) := by decide +kernel
theorem dX0_copyTold_20 : decode cX0_copyTold 20 = .ok (.iload_n 2, 1) := by decide +kernel
theorem dX0_copyTold_21 : decode cX0_copyTold 21 = .ok (.iaload, 1) := by decide +kernel
theorem dX0_copyTold_22 : decode cX0_copyTold 22 = .ok (.iastore, 1) := by decide +kernel
theorem dX0_copyTold_23 : decode cX0_copyTold 23 = .ok (.iinc 2 1, 3) := by decide +kernel
theorem dX0_copyTold_26 : decode cX0_copyTold 26 = .ok (.goto (-24), 3) := by decide +kernel
theorem dX0_copyTold_29 : decode cX0_copyTold 29 = .ok (.return_, 1) := by decide +kernel
theorem dX0_seenBy_0 : decode cX0_seenBy 0 = .ok (.aload_n 0, 1) := by decide +kernel
theorem dX0_seenBy_1 : decode cX0_seenBy 1 = .ok (.iload_n 1, 1) := by decide +kernel
theorem dX0_seenBy_2 : decode cX0_seenBy 2 = .ok (.invokevirtual 39, 3) := by decide +kernel
theorem dX0_seenBy_5 : decode cX0_seenBy 5 = .ok (.ifCond .eq 26, 3) := by decide +kernel
theorem dX0_seenBy_8 : decode cX0_seenBy 8 = .ok (.iload_n 2, 1) := by decide +kernel
theorem dX0_seenBy_9 : decode cX0_seenBy 9 = .ok (.invokestatic 31, 3) := by decide +kernel
theorem dX0_seenBy_12 : decode cX0_seenBy 12 = .ok (.ifCond .eq 19, 3) := by decide +kernel
theorem dX0_seenBy_15 : decode cX0_seenBy 15 = .ok (.aload_n 0, 1) := by decide +kernel
theorem dX0_seenBy_16 : decode cX0_seenBy 16 = .ok (.getfield 21, 3) := by decide +kernel
theorem dX0_seenBy_19 : decode cX0_seenBy 19 = .ok (.iload_n 2, 1) := by decide +kernel
theorem dX0_seenBy_20 : decode cX0_seenBy 20 = .ok (.iconst 1, 1) := by decide +kernel
theorem dX0_seenBy_21 : decode cX0_seenBy 21 = .ok (.isub, 1) := by decide +kernel
theorem dX0_seenBy_22 : decode cX0_seenBy 22 = .ok (.bipush 9, 2) := by decide +kernel
theorem dX0_seenBy_24 : decode cX0_seenBy 24 = .ok (.imul, 1) := by decide +kernel
theorem dX0_seenBy_25 : decode cX0_seenBy 25 = .ok (.iload_n 1, 1) := by decide +kernel
theorem dX0_seenBy_26 : decode cX0_seenBy 26 = .ok (.iadd, 1) := by decide +kernel
theorem dX0_seenBy_27 : decode cX0_seenBy 27 = .ok (.iaload, 1) := by decide +kernel
theorem dX0_seenBy_28 : decode cX0_seenBy 28 = .ok (.goto 4, 3) := by decide +kernel
theorem dX0_seenBy_31 : decode cX0_seenBy 31 = .ok (.iconst 0, 1) := by decide +kernel
theorem dX0_seenBy_32 : decode cX0_seenBy 32 = .ok (.ireturn, 1) := by decide +kernel
theorem dX0_putSeen_0 : decode cX0_putSeen 0 = .ok (.aload_n 0, 1) := by decide +kernel
theorem dX0_putSeen_1 : decode cX0_putSeen 1 = .ok (.iload_n 1, 1) := by decide +kernel
theorem dX0_putSeen_2 : decode cX0_putSeen 2 = .ok (.invokevirtual 39, 3) := by decide +kernel
theorem dX0_putSeen_5 : decode cX0_putSeen 5 = .ok (.ifCond .eq 43, 3) := by decide +kernel
theorem dX0_putSeen_8 : decode cX0_putSeen 8 = .ok (.aload_n 0, 1) := by decide +kernel
theorem dX0_putSeen_9 : decode cX0_putSeen 9 = .ok (.iload_n 2, 1) := by decide +kernel
theorem dX0_putSeen_10 : decode cX0_putSeen 10 = .ok (.invokevirtual 39, 3) := by decide +kernel
theorem dX0_putSeen_13 : decode cX0_putSeen 13 = .ok (.ifCond .eq 35, 3) := by decide +kernel
theorem dX0_putSeen_16 : decode cX0_putSeen 16 = .ok (.iload_n 3, 1) := by decide +kernel
theorem dX0_putSeen_17 : decode cX0_putSeen 17 = .ok (.invokestatic 31, 3) := by decide +kernel
theorem dX0_putSeen_20 : decode cX0_putSeen 20 = .ok (.ifCond .eq 28, 3) := by decide +kernel
theorem dX0_putSeen_23 : decode cX0_putSeen 23 = .ok (.aload_n 0, 1) := by decide +kernel
theorem dX0_putSeen_24 : decode cX0_putSeen 24 = .ok (.getfield 21, 3) := by decide +kernel
theorem dX0_putSeen_27 : decode cX0_putSeen 27 = .ok (.iload_n 3, 1) := by decide +kernel
theorem dX0_putSeen_28 : decode cX0_putSeen 28 = .ok (.iconst 1, 1) := by decide +kernel
theorem dX0_putSeen_29 : decode cX0_putSeen 29 = .ok (.isub, 1) := by decide +kernel
theorem dX0_putSeen_30 : decode cX0_putSeen 30 = .ok (.bipush 9, 2) := by decide +kernel
theorem dX0_putSeen_32 : decode cX0_putSeen 32 = .ok (.imul, 1) := by decide +kernel
theorem dX0_putSeen_33 : decode cX0_putSeen 33 = .ok (.iload_n 1, 1) := by decide +kernel
theorem dX0_putSeen_34 : decode cX0_putSeen 34 = .ok (.iadd, 1) := by decide +kernel
theorem dX0_putSeen_35 : decode cX0_putSeen 35 = .ok (.aload_n 0, 1) := by decide +kernel
theorem dX0_putSeen_36 : decode cX0_putSeen 36 = .ok (.iload_n 1, 1) := by decide +kernel
theorem dX0_putSeen_37 : decode cX0_putSeen 37 = .ok (.iload_n 3, 1) := by decide +kernel
theorem dX0_putSeen_38 : decode cX0_putSeen 38 = .ok (.invokevirtual 50, 3) := by decide +kernel
theorem dX0_putSeen_41 : decode cX0_putSeen 41 = .ok (.iload_n 2, 1) := by decide +kernel
theorem dX0_putSeen_42 : decode cX0_putSeen 42 = .ok (.iload 4, 2) := by decide +kernel
theorem dX0_putSeen_44 : decode cX0_putSeen 44 = .ok (.invokestatic 35, 3) := by decide +kernel
theorem dX0_putSeen_47 : decode cX0_putSeen 47 = .ok (.iastore, 1) := by decide +kernel
theorem dX0_putSeen_48 : decode cX0_putSeen 48 = .ok (.return_, 1) := by decide +kernel
theorem dX0_seenByAny_0 : decode cX0_seenByAny 0 = .ok (.iload_n 2, 1) := by decide +kernel
theorem dX0_seenByAny_1 : decode cX0_seenByAny 1 = .ok (.invokestatic 31, 3) := by decide +kernel
theorem dX0_seenByAny_4 : decode cX0_seenByAny 4 = .ok (.ifCond .ne 5, 3) := by decide +kernel
theorem dX0_seenByAny_7 : decode cX0_seenByAny 7 = .ok (.iconst 0, 1) := by decide +kernel
theorem dX0_seenByAny_8 : decode cX0_seenByAny 8 = .ok (.ireturn, 1) := by decide +kernel
theorem dX0_seenByAny_9 : decode cX0_seenByAny 9 = .ok (.iload_n 2, 1) := by decide +kernel
theorem dX0_seenByAny_10 : decode cX0_seenByAny 10 = .ok (.iconst 1, 1) := by decide +kernel
theorem dX0_seenByAny_11 : decode cX0_seenByAny 11 = .ok (.isub, 1) := by decide +kernel
theorem dX0_seenByAny_12 : decode cX0_seenByAny 12 = .ok (.bipush 9, 2) := by decide +kernel
theorem dX0_seenByAny_14 : decode cX0_seenByAny 14 = .ok (.imul, 1) := by decide +kernel
theorem dX0_seenByAny_15 : decode cX0_seenByAny 15 = .ok (.istore_n 3, 1) := by decide +kernel
theorem dX0_seenByAny_16 : decode cX0_seenByAny 16 = .ok (.iconst 0, 1) := by decide +kernel
theorem dX0_seenByAny_17 : decode cX0_seenByAny 17 = .ok (.istore 4, 2) := by decide +kernel
theorem dX0_seenByAny_19 : decode cX0_seenByAny 19 = .ok (.iconst 0, 1) := by decide +kernel
theorem dX0_seenByAny_20 : decode cX0_seenByAny 20 = .ok (.istore 5, 2) := by decide +kernel
theorem dX0_seenByAny_22 : decode cX0_seenByAny 22 = .ok (.iload 5, 2) := by decide +kernel
theorem dX0_seenByAny_24 : decode cX0_seenByAny 24 = .ok (.aload_n 0, 1) := by decide +kernel
theorem dX0_seenByAny_25 : decode cX0_seenByAny 25 = .ok (.getfield 28, 3) := by decide +kernel
theorem dX0_seenByAny_28 : decode cX0_seenByAny 28 = .ok (.if_icmp .ge 33, 3) := by decide +kernel
theorem dX0_seenByAny_31 : decode cX0_seenByAny 31 = .ok (.iload_n 1, 1) := by decide +kernel
theorem dX0_seenByAny_32 : decode cX0_seenByAny 32 = .ok (.iload 5, 2) := by decide +kernel
theorem dX0_seenByAny_34 : decode cX0_seenByAny 34 = .ok (.invokestatic 54, 3) := by decide +kernel
theorem dX0_seenByAny_37 : decode cX0_seenByAny 37 = .ok (.iconst 1, 1) := by decide +kernel
theorem dX0_seenByAny_38 : decode cX0_seenByAny 38 = .ok (.if_icmp .ne 17, 3) := by decide +kernel
theorem dX0_seenByAny_41 : decode cX0_seenByAny 41 = .ok (.iload 4, 2) := by decide +kernel
theorem dX0_seenByAny_43 : decode cX0_seenByAny 43 = .ok (.aload_n 0, 1) := by decide +kernel
theorem dX0_seenByAny_44 : decode cX0_seenByAny 44 = .ok (.getfield 21, 3) := by decide +kernel
theorem dX0_seenByAny_47 : decode cX0_seenByAny 47 = .ok (.iload_n 3, 1) := by decide +kernel
theorem dX0_seenByAny_48 : decode cX0_seenByAny 48 = .ok (.iload 5, 2) := by decide +kernel
theorem dX0_seenByAny_50 : decode cX0_seenByAny 50 = .ok (.iadd, 1) := by decide +kernel
theorem dX0_seenByAny_51 : decode cX0_seenByAny 51 = .ok (.iaload, 1) := by decide +kernel
theorem dX0_seenByAny_52 : decode cX0_seenByAny 52 = .ok (.ior, 1) := by decide +kernel
theorem dX0_seenByAny_53 : decode cX0_seenByAny 53 = .ok (.istore 4, 2) := by decide +kernel
theorem dX0_seenByAny_55 : decode cX0_seenByAny 55 = .ok (.iinc 5 1, 3) := by decide +kernel
theorem dX0_seenByAny_58 : decode cX0_seenByAny 58 = .ok (.goto (-36), 3) := by decide +kernel
theorem dX0_seenByAny_61 : decode cX0_seenByAny 61 = .ok (.iload 4, 2) := by decide +kernel
theorem dX0_seenByAny_63 : decode cX0_seenByAny 63 = .ok (.ireturn, 1) := by decide +kernel
theorem dX1_init_0 : decode cX1_init 0 = .ok (.aload_n 0, 1) := by decide +kernel
theorem dX1_init_1 : decode cX1_init 1 = .ok (.invokespecial 3, 3) := by decide +kernel
theorem dX1_init_4 : decode cX1_init 4 = .ok (.aload_n 0, 1) := by decide +kernel
theorem dX1_init_5 : decode cX1_init 5 = .ok (.bipush 9, 2) := by decide +kernel
theorem dX1_init_7 : decode cX1_init 7 = .ok (.newarray .int, 2) := by decide +kernel
theorem dX1_init_9 : decode cX1_init 9 = .ok (.putfield 11, 3) := by decide +kernel
theorem dX1_init_12 : decode cX1_init 12 = .ok (.aload_n 0, 1) := by decide +kernel
theorem dX1_init_13 : decode cX1_init 13 = .ok (.bipush 72, 2) := by decide +kernel
theorem dX1_init_15 : decode cX1_init 15 = .ok (.newarray .int, 2) := by decide +kernel
theorem dX1_init_17 : decode cX1_init 17 = .ok (.putfield 17, 3) := by decide +kernel
theorem dX1_init_20 : decode cX1_init 20 = .ok (.aload_n 0, 1) := by decide +kernel
theorem dX1_init_21 : decode cX1_init 21 = .ok (.bipush 8, 2) := by decide +kernel
theorem dX1_init_23 : decode cX1_init 23 = .ok (.newarray .int, 2) := by decide +kernel
theorem dX1_init_25 : decode cX1_init 25 = .ok (.putfield 22, 3) := by decide +kernel
theorem dX1_init_28 : decode cX1_init 28 = .ok (.aload_n 0, 1) := by decide +kernel
theorem dX1_init_29 : decode cX1_init 29 = .ok (.iconst (-1), 1) := by decide +kernel
theorem dX1_init_30 : decode cX1_init 30 = .ok (.putfield 25, 3) := by decide +kernel
theorem dX1_init_33 : decode cX1_init 33 = .ok (.aload_n 0, 1) := by decide +kernel
theorem dX1_init_34 : decode cX1_init 34 = .ok (.iconst (-1), 1) := by decide +kernel
theorem dX1_init_35 : decode cX1_init 35 = .ok (.putfield 29, 3) := by decide +kernel
theorem dX1_init_38 : decode cX1_init 38 = .ok (.return_, 1) := by decide +kernel
theorem dX1_keep_0 : decode cX1_keep 0 = .ok (.aload_n 1, 1) := by decide +kernel
theorem dX1_keep_1 : decode cX1_keep 1 = .ok (.getfield 32, 3) := by decide +kernel
theorem dX1_keep_4 : decode cX1_keep 4 = .ok (.iconst 0, 1) := by decide +kernel
theorem dX1_keep_5 : decode cX1_keep 5 = .ok (.aload_n 0, 1) := by decide +kernel
theorem dX1_keep_6 : decode cX1_keep 6 = .ok (.getfield 11, 3) := by decide +kernel
theorem dX1_keep_9 : decode cX1_keep 9 = .ok (.iconst 0, 1) := by decide +kernel
theorem dX1_keep_10 : decode cX1_keep 10 = .ok (.aload_n 0, 1) := by decide +kernel
theorem dX1_keep_11 : decode cX1_keep 11 = .ok (.getfield 11, 3) := by decide +kernel
theorem dX1_keep_14 : decode cX1_keep 14 = .ok (.arraylength, 1) := by decide +kernel
theorem dX1_keep_15 : decode cX1_keep 15 = .ok (.invokestatic 33, 3) := by decide +kernel
theorem dX1_keep_18 : decode cX1_keep 18 = .ok (.aload_n 1, 1) := by decide +kernel
theorem dX1_keep_19 : decode cX1_keep 19 = .ok (.getfield 39, 3) := by decide +kernel
theorem dX1_keep_22 : decode cX1_keep 22 = .ok (.iconst 0, 1) := by decide +kernel
theorem dX1_keep_23 : decode cX1_keep 23 = .ok (.aload_n 0, 1) := by decide +kernel
theorem dX1_keep_24 : decode cX1_keep 24 = .ok (.getfield 17, 3) := by decide +kernel
theorem dX1_keep_27 : decode cX1_keep 27 = .ok (.iconst 0, 1) := by decide +kernel
theorem dX1_keep_28 : decode cX1_keep 28 = .ok (.aload_n 0, 1) := by decide +kernel
theorem dX1_keep_29 : decode cX1_keep 29 = .ok (.getfield 17, 3) := by decide +kernel
theorem dX1_keep_32 : decode cX1_keep 32 = .ok (.arraylength, 1) := by decide +kernel
theorem dX1_keep_33 : decode cX1_keep 33 = .ok (.invokestatic 33, 3) := by decide +kernel
theorem dX1_keep_36 : decode cX1_keep 36 = .ok (.aload_n 2, 1) := by decide +kernel
theorem dX1_keep_37 : decode cX1_keep 37 = .ok (.getfield 40, 3) := by decide +kernel
theorem dX1_keep_40 : decode cX1_keep 40 = .ok (.iconst 0, 1) := by decide +kernel
theorem dX1_keep_41 : decode cX1_keep 41 = .ok (.aload_n 0, 1) := by decide +kernel
theorem dX1_keep_42 : decode cX1_keep 42 = .ok (.getfield 22, 3) := by decide +kernel
theorem dX1_keep_45 : decode cX1_keep 45 = .ok (.iconst 0, 1) := by decide +kernel
theorem dX1_keep_46 : decode cX1_keep 46 = .ok (.aload_n 0, 1) := by decide +kernel
theorem dX1_keep_47 : decode cX1_keep 47 = .ok (.getfield 22, 3) := by decide +kernel
theorem dX1_keep_50 : decode cX1_keep 50 = .ok (.arraylength, 1) := by decide +kernel
theorem dX1_keep_51 : decode cX1_keep 51 = .ok (.invokestatic 33, 3) := by decide +kernel
theorem dX1_keep_54 : decode cX1_keep 54 = .ok (.aload_n 0, 1) := by decide +kernel
theorem dX1_keep_55 : decode cX1_keep 55 = .ok (.aload_n 1, 1) := by decide +kernel
theorem dX1_keep_56 : decode cX1_keep 56 = .ok (.invokevirtual 41, 3) := by decide +kernel
theorem dX1_keep_59 : decode cX1_keep 59 = .ok (.putfield 25, 3) := by decide +kernel
theorem dX1_keep_62 : decode cX1_keep 62 = .ok (.aload_n 0, 1) := by decide +kernel
theorem dX1_keep_63 : decode cX1_keep 63 = .ok (.aload_n 2, 1) := by decide +kernel
theorem dX1_keep_64 : decode cX1_keep 64 = .ok (.invokevirtual 45, 3) := by decide +kernel
theorem dX1_keep_67 : decode cX1_keep 67 = .ok (.putfield 29, 3) := by decide +kernel
theorem dX1_keep_70 : decode cX1_keep 70 = .ok (.return_, 1) := by decide +kernel
theorem dX1_fits_0 : decode cX1_fits 0 = .ok (.aload_n 0, 1) := by decide +kernel
theorem dX1_fits_1 : decode cX1_fits 1 = .ok (.getfield 25, 3) := by decide +kernel
theorem dX1_fits_4 : decode cX1_fits 4 = .ok (.aload_n 1, 1) := by decide +kernel
theorem dX1_fits_5 : decode cX1_fits 5 = .ok (.invokevirtual 41, 3) := by decide +kernel
theorem dX1_fits_8 : decode cX1_fits 8 = .ok (.if_icmp .ne 18, 3) := by decide +kernel
theorem dX1_fits_11 : decode cX1_fits 11 = .ok (.aload_n 0, 1) := by decide +kernel
theorem dX1_fits_12 : decode cX1_fits 12 = .ok (.getfield 29, 3) := by decide +kernel
theorem dX1_fits_15 : decode cX1_fits 15 = .ok (.aload_n 2, 1) := by decide +kernel
theorem dX1_fits_16 : decode cX1_fits 16 = .ok (.invokevirtual 45, 3) := by decide +kernel
theorem dX1_fits_19 : decode cX1_fits 19 = .ok (.if_icmp .ne 7, 3) := by decide +kernel
theorem dX1_fits_22 : decode cX1_fits 22 = .ok (.iconst 1, 1) := by decide +kernel
theorem dX1_fits_23 : decode cX1_fits 23 = .ok (.goto 4, 3) := by decide +kernel
theorem dX1_fits_26 : decode cX1_fits 26 = .ok (.iconst 0, 1) := by decide +kernel
theorem dX1_fits_27 : decode cX1_fits 27 = .ok (.ireturn, 1) := by decide +kernel
theorem dX1_giveBack_0 : decode cX1_giveBack 0 = .ok (.aload_n 0, 1) := by decide +kernel
theorem dX1_giveBack_1 : decode cX1_giveBack 1 = .ok (.getfield 11, 3) := by decide +kernel
theorem dX1_giveBack_4 : decode cX1_giveBack 4 = .ok (.iconst 0, 1) := by decide +kernel
theorem dX1_giveBack_5 : decode cX1_giveBack 5 = .ok (.aload_n 1, 1) := by decide +kernel
theorem dX1_giveBack_6 : decode cX1_giveBack 6 = .ok (.getfield 32, 3) := by decide +kernel
theorem dX1_giveBack_9 : decode cX1_giveBack 9 = .ok (.iconst 0, 1) := by decide +kernel
theorem dX1_giveBack_10 : decode cX1_giveBack 10 = .ok (.aload_n 0, 1) := by decide +kernel
theorem dX1_giveBack_11 : decode cX1_giveBack 11 = .ok (.getfield 11, 3) := by decide +kernel
theorem dX1_giveBack_14 : decode cX1_giveBack 14 = .ok (.arraylength, 1) := by decide +kernel
theorem dX1_giveBack_15 : decode cX1_giveBack 15 = .ok (.invokestatic 33, 3) := by decide +kernel
theorem dX1_giveBack_18 : decode cX1_giveBack 18 = .ok (.aload_n 0, 1) := by decide +kernel
theorem dX1_giveBack_19 : decode cX1_giveBack 19 = .ok (.getfield 17, 3) := by decide +kernel
theorem dX1_giveBack_22 : decode cX1_giveBack 22 = .ok (.iconst 0, 1) := by decide +kernel
theorem dX1_giveBack_23 : decode cX1_giveBack 23 = .ok (.aload_n 1, 1) := by decide +kernel
theorem dX1_giveBack_24 : decode cX1_giveBack 24 = .ok (.getfield 39, 3) := by decide +kernel
theorem dX1_giveBack_27 : decode cX1_giveBack 27 = .ok (.iconst 0, 1) := by decide +kernel
theorem dX1_giveBack_28 : decode cX1_giveBack 28 = .ok (.aload_n 0, 1) := by decide +kernel
theorem dX1_giveBack_29 : decode cX1_giveBack 29 = .ok (.getfield 17, 3) := by decide +kernel
theorem dX1_giveBack_32 : decode cX1_giveBack 32 = .ok (.arraylength, 1) := by decide +kernel
theorem dX1_giveBack_33 : decode cX1_giveBack 33 = .ok (.invokestatic 33, 3) := by decide +kernel
theorem dX1_giveBack_36 : decode cX1_giveBack 36 = .ok (.aload_n 0, 1) := by decide +kernel
theorem dX1_giveBack_37 : decode cX1_giveBack 37 = .ok (.getfield 22, 3) := by decide +kernel
theorem dX1_giveBack_40 : decode cX1_giveBack 40 = .ok (.iconst 0, 1) := by decide +kernel
theorem dX1_giveBack_41 : decode cX1_giveBack 41 = .ok (.aload_n 2, 1) := by decide +kernel
theorem dX1_giveBack_42 : decode cX1_giveBack 42 = .ok (.getfield 40, 3) := by decide +kernel
theorem dX1_giveBack_45 : decode cX1_giveBack 45 = .ok (.iconst 0, 1) := by decide +kernel
theorem dX1_giveBack_46 : decode cX1_giveBack 46 = .ok (.aload_n 0, 1) := by decide +kernel
theorem dX1_giveBack_47 : decode cX1_giveBack 47 = .ok (.getfield 22, 3) := by decide +kernel
theorem dX1_giveBack_50 : decode cX1_giveBack 50 = .ok (.arraylength, 1) := by decide +kernel
theorem dX1_giveBack_51 : decode cX1_giveBack 51 = .ok (.invokestatic 33, 3) := by decide +kernel
theorem dX1_giveBack_54 : decode cX1_giveBack 54 = .ok (.return_, 1) := by decide +kernel
theorem dX2_init_0 : decode cX2_init 0 = .ok (.aload_n 0, 1) := by decide +kernel
theorem dX2_init_1 : decode cX2_init 1 = .ok (.invokespecial 3, 3) := by decide +kernel
theorem dX2_init_4 : decode cX2_init 4 = .ok (.aload_n 0, 1) := by decide +kernel
theorem dX2_init_5 : decode cX2_init 5 = .ok (.bipush 15, 2) := by decide +kernel
theorem dX2_init_7 : decode cX2_init 7 = .ok (.newarray .int, 2) := by decide +kernel
theorem dX2_init_9 : decode cX2_init 9 = .ok (.putfield 11, 3) := by decide +kernel
theorem dX2_init_12 : decode cX2_init 12 = .ok (.aload_n 0, 1) := by decide +kernel
theorem dX2_init_13 : decode cX2_init 13 = .ok (.bipush 15, 2) := by decide +kernel
theorem dX2_init_15 : decode cX2_init 15 = .ok (.newarray .int, 2) := by decide +kernel
theorem dX2_init_17 : decode cX2_init 17 = .ok (.putfield 15, 3) := by decide +kernel
theorem dX2_init_20 : decode cX2_init 20 = .ok (.aload_n 0, 1) := by decide +kernel
theorem dX2_init_21 : decode cX2_init 21 = .ok (.bipush 15, 2) := by decide +kernel
theorem dX2_init_23 : decode cX2_init 23 = .ok (.newarray .int, 2) := by decide +kernel
theorem dX2_init_25 : decode cX2_init 25 = .ok (.putfield 18, 3) := by decide +kernel
theorem dX2_init_28 : decode cX2_init 28 = .ok (.aload_n 0, 1) := by decide +kernel
theorem dX2_init_29 : decode cX2_init 29 = .ok (.bipush 15, 2) := by decide +kernel
theorem dX2_init_31 : decode cX2_init 31 = .ok (.newarray .int, 2) := by decide +kernel
theorem dX2_init_33 : decode cX2_init 33 = .ok (.putfield 21, 3) := by decide +kernel
theorem dX2_init_36 : decode cX2_init 36 = .ok (.aload_n 0, 1) := by decide +kernel
theorem dX2_init_37 : decode cX2_init 37 = .ok (.iconst 0, 1) := by decide +kernel
theorem dX2_init_38 : decode cX2_init 38 = .ok (.putfield 24, 3) := by decide +kernel
theorem dX2_init_41 : decode cX2_init 41 = .ok (.return_, 1) := by decide +kernel
theorem dX2_size_0 : decode cX2_size 0 = .ok (.aload_n 0, 1) := by decide +kernel
theorem dX2_size_1 : decode cX2_size 1 = .ok (.getfield 24, 3) := by decide +kernel
theorem dX2_size_4 : decode cX2_size 4 = .ok (.ireturn, 1) := by decide +kernel
theorem dX2_has_0 : decode cX2_has 0 = .ok (.iload_n 1, 1) := by decide +kernel
theorem dX2_has_1 : decode cX2_has 1 = .ok (.ifCond .lt 15, 3) := by decide +kernel
theorem dX2_has_4 : decode cX2_has 4 = .ok (.iload_n 1, 1) := by decide +kernel
theorem dX2_has_5 : decode cX2_has 5 = .ok (.aload_n 0, 1) := by decide +kernel
theorem dX2_has_6 : decode cX2_has 6 = .ok (.getfield 24, 3) := by decide +kernel
theorem dX2_has_9 : decode cX2_has 9 = .ok (.if_icmp .ge 7, 3) := by decide +kernel
theorem dX2_has_12 : decode cX2_has 12 = .ok (.iconst 1, 1) := by decide +kernel
theorem dX2_has_13 : decode cX2_has 13 = .ok (.goto 4, 3) := by decide +kernel
theorem dX2_has_16 : decode cX2_has 16 = .ok (.iconst 0, 1) := by decide +kernel
theorem dX2_has_17 : decode cX2_has 17 = .ok (.ireturn, 1) := by decide +kernel
theorem dX2_clear_0 : decode cX2_clear 0 = .ok (.aload_n 0, 1) := by decide +kernel
theorem dX2_clear_1 : decode cX2_clear 1 = .ok (.iconst 0, 1) := by decide +kernel
theorem dX2_clear_2 : decode cX2_clear 2 = .ok (.putfield 24, 3) := by decide +kernel
theorem dX2_clear_5 : decode cX2_clear 5 = .ok (.return_, 1) := by decide +kernel
theorem dX2_add_0 : decode cX2_add 0 = .ok (.aload_n 0, 1) := by decide +kernel
theorem dX2_add_1 : decode cX2_add 1 = .ok (.getfield 24, 3) := by decide +kernel
theorem dX2_add_4 : decode cX2_add 4 = .ok (.bipush 15, 2) := by decide +kernel
theorem dX2_add_6 : decode cX2_add 6 = .ok (.if_icmp .lt 4, 3) := by decide +kernel
theorem dX2_add_9 : decode cX2_add 9 = .ok (.return_, 1) := by decide +kernel
theorem dX2_add_10 : decode cX2_add 10 = .ok (.aload_n 0, 1) := by decide +kernel
theorem dX2_add_11 : decode cX2_add 11 = .ok (.getfield 24, 3) := by decide +kernel
theorem dX2_add_14 : decode cX2_add 14 = .ok (.istore 5, 2) := by decide +kernel
theorem dX2_add_16 : decode cX2_add 16 = .ok (.iload 5, 2) := by decide +kernel
theorem dX2_add_18 : decode cX2_add 18 = .ok (.ifCond .le 86, 3) := by decide +kernel
theorem dX2_add_21 : decode cX2_add 21 = .ok (.aload_n 0, 1) := by decide +kernel
theorem dX2_add_22 : decode cX2_add 22 = .ok (.getfield 15, 3) := by decide +kernel
theorem dX2_add_25 : decode cX2_add 25 = .ok (.iload 5, 2) := by decide +kernel
theorem dX2_add_27 : decode cX2_add 27 = .ok (.iconst 1, 1) := by decide +kernel
theorem dX2_add_28 : decode cX2_add 28 = .ok (.isub, 1) := by decide +kernel
theorem dX2_add_29 : decode cX2_add 29 = .ok (.iaload, 1) := by decide +kernel
theorem dX2_add_30 : decode cX2_add 30 = .ok (.iload_n 2, 1) := by decide +kernel
theorem dX2_add_31 : decode cX2_add 31 = .ok (.if_icmp .le 73, 3) := by decide +kernel
theorem dX2_add_34 : decode cX2_add 34 = .ok (.aload_n 0, 1) := by decide +kernel
theorem dX2_add_35 : decode cX2_add 35 = .ok (.getfield 11, 3) := by decide +kernel
theorem dX2_add_38 : decode cX2_add 38 = .ok (.iload 5, 2) := by decide +kernel
theorem dX2_add_40 : decode cX2_add 40 = .ok (.aload_n 0, 1) := by decide +kernel
theorem dX2_add_41 : decode cX2_add 41 = .ok (.getfield 11, 3) := by decide +kernel
theorem dX2_add_44 : decode cX2_add 44 = .ok (.iload 5, 2) := by decide +kernel
theorem dX2_add_46 : decode cX2_add 46 = .ok (.iconst 1, 1) := by decide +kernel
theorem dX2_add_47 : decode cX2_add 47 = .ok (.isub, 1) := by decide +kernel
theorem dX2_add_48 : decode cX2_add 48 = .ok (.iaload, 1) := by decide +kernel
theorem dX2_add_49 : decode cX2_add 49 = .ok (.iastore, 1) := by decide +kernel
theorem dX2_add_50 : decode cX2_add 50 = .ok (.aload_n 0, 1) := by decide +kernel
theorem dX2_add_51 : decode cX2_add 51 = .ok (.getfield 15, 3) := by decide +kernel
theorem dX2_add_54 : decode cX2_add 54 = .ok (.iload 5, 2) := by decide +kernel
theorem dX2_add_56 : decode cX2_add 56 = .ok (.aload_n 0, 1) := by decide +kernel
theorem dX2_add_57 : decode cX2_add 57 = .ok (.getfield 15, 3) := by decide +kernel
theorem dX2_add_60 : decode cX2_add 60 = .ok (.iload 5, 2) := by decide +kernel
theorem dX2_add_62 : decode cX2_add 62 = .ok (.iconst 1, 1) := by decide +kernel
theorem dX2_add_63 : decode cX2_add 63 = .ok (.isub, 1) := by decide +kernel
theorem dX2_add_64 : decode cX2_add 64 = .ok (.iaload, 1) := by decide +kernel
theorem dX2_add_65 : decode cX2_add 65 = .ok (.iastore, 1) := by decide +kernel
theorem dX2_add_66 : decode cX2_add 66 = .ok (.aload_n 0, 1) := by decide +kernel
theorem dX2_add_67 : decode cX2_add 67 = .ok (.getfield 18, 3) := by decide +kernel
theorem dX2_add_70 : decode cX2_add 70 = .ok (.iload 5, 2) := by decide +kernel
theorem dX2_add_72 : decode cX2_add 72 = .ok (.aload_n 0, 1) := by decide +kernel
theorem dX2_add_73 : decode cX2_add 73 = .ok (.getfield 18, 3) := by decide +kernel
theorem dX2_add_76 : decode cX2_add 76 = .ok (.iload 5, 2) := by decide +kernel
theorem dX2_add_78 : decode cX2_add 78 = .ok (.iconst 1, 1) := by decide +kernel
theorem dX2_add_79 : decode cX2_add 79 = .ok (.isub, 1) := by decide +kernel
theorem dX2_add_80 : decode cX2_add 80 = .ok (.iaload, 1) := by decide +kernel
theorem dX2_add_81 : decode cX2_add 81 = .ok (.iastore, 1) := by decide +kernel
theorem dX2_add_82 : decode cX2_add 82 = .ok (.aload_n 0, 1) := by decide +kernel
theorem dX2_add_83 : decode cX2_add 83 = .ok (.getfield 21, 3) := by decide +kernel
theorem dX2_add_86 : decode cX2_add 86 = .ok (.iload 5, 2) := by decide +kernel
theorem dX2_add_88 : decode cX2_add 88 = .ok (.aload_n 0, 1) := by decide +kernel
theorem dX2_add_89 : decode cX2_add 89 = .ok (.getfield 21, 3) := by decide +kernel
theorem dX2_add_92 : decode cX2_add 92 = .ok (.iload 5, 2) := by decide +kernel
theorem dX2_add_94 : decode cX2_add 94 = .ok (.iconst 1, 1) := by decide +kernel
theorem dX2_add_95 : decode cX2_add 95 = .ok (.isub, 1) := by decide +kernel
theorem dX2_add_96 : decode cX2_add 96 = .ok (.iaload, 1) := by decide +kernel
theorem dX2_add_97 : decode cX2_add 97 = .ok (.iastore, 1) := by decide +kernel
theorem dX2_add_98 : decode cX2_add 98 = .ok (.iinc 5 (-1), 3) := by decide +kernel
theorem dX2_add_101 : decode cX2_add 101 = .ok (.goto (-85), 3) := by decide +kernel
theorem dX2_add_104 : decode cX2_add 104 = .ok (.aload_n 0, 1) := by decide +kernel
theorem dX2_add_105 : decode cX2_add 105 = .ok (.getfield 11, 3) := by decide +kernel
theorem dX2_add_108 : decode cX2_add 108 = .ok (.iload 5, 2) := by decide +kernel
theorem dX2_add_110 : decode cX2_add 110 = .ok (.iload_n 1, 1) := by decide +kernel
theorem dX2_add_111 : decode cX2_add 111 = .ok (.iastore, 1) := by decide +kernel
theorem dX2_add_112 : decode cX2_add 112 = .ok (.aload_n 0, 1) := by decide +kernel
theorem dX2_add_113 : decode cX2_add 113 = .ok (.getfield 15, 3) := by decide +kernel
theorem dX2_add_116 : decode cX2_add 116 = .ok (.iload 5, 2) := by decide +kernel
theorem dX2_add_118 : decode cX2_add 118 = .ok (.iload_n 2, 1) := by decide +kernel
theorem dX2_add_119 : decode cX2_add 119 = .ok (.iastore, 1) := by decide +kernel
theorem dX2_add_120 : decode cX2_add 120 = .ok (.aload_n 0, 1) := by decide +kernel
theorem dX2_add_121 : decode cX2_add 121 = .ok (.getfield 18, 3) := by decide +kernel
theorem dX2_add_124 : decode cX2_add 124 = .ok (.iload 5, 2) := by decide +kernel
theorem dX2_add_126 : decode cX2_add 126 = .ok (.iload_n 3, 1) := by decide +kernel
theorem dX2_add_127 : decode cX2_add 127 = .ok (.iastore, 1) := by decide +kernel
theorem dX2_add_128 : decode cX2_add 128 = .ok (.aload_n 0, 1) := by decide +kernel
theorem dX2_add_129 : decode cX2_add 129 = .ok (.getfield 21, 3) := by decide +kernel
theorem dX2_add_132 : decode cX2_add 132 = .ok (.iload 5, 2) := by decide +kernel
theorem dX2_add_134 : decode cX2_add 134 = .ok (.iload 4, 2) := by decide +kernel
theorem dX2_add_136 : decode cX2_add 136 = .ok (.iastore, 1) := by decide +kernel
theorem dX2_add_137 : decode cX2_add 137 = .ok (.aload_n 0, 1) := by decide +kernel
theorem dX2_add_138 : decode cX2_add 138 = .ok (.dup, 1) := by decide +kernel
theorem dX2_add_139 : decode cX2_add 139 = .ok (.getfield 24, 3) := by decide +kernel
theorem dX2_add_142 : decode cX2_add 142 = .ok (.iconst 1, 1) := by decide +kernel
theorem dX2_add_143 : decode cX2_add 143 = .ok (.iadd, 1) := by decide +kernel
theorem dX2_add_144 : decode cX2_add 144 = .ok (.putfield 24, 3) := by decide +kernel
theorem dX2_add_147 : decode cX2_add 147 = .ok (.return_, 1) := by decide +kernel
theorem dX2_guestOf_0 : decode cX2_guestOf 0 = .ok (.aload_n 0, 1) := by decide +kernel
theorem dX2_guestOf_1 : decode cX2_guestOf 1 = .ok (.iload_n 1, 1) := by decide +kernel
theorem dX2_guestOf_2 : decode cX2_guestOf 2 = .ok (.invokevirtual 28, 3) := by decide +kernel
theorem dX2_guestOf_5 : decode cX2_guestOf 5 = .ok (.ifCond .eq 12, 3) := by decide +kernel
theorem dX2_guestOf_8 : decode cX2_guestOf 8 = .ok (.aload_n 0, 1) := by decide +kernel
theorem dX2_guestOf_9 : decode cX2_guestOf 9 = .ok (.getfield 11, 3) := by decide +kernel
theorem dX2_guestOf_12 : decode cX2_guestOf 12 = .ok (.iload_n 1, 1) := by decide +kernel
theorem dX2_guestOf_13 : decode cX2_guestOf 13 = .ok (.iaload, 1) := by decide +kernel
theorem dX2_guestOf_14 : decode cX2_guestOf 14 = .ok (.goto 4, 3) := by decide +kernel
theorem dX2_guestOf_17 : decode cX2_guestOf 17 = .ok (.iconst (-1), 1) := by decide +kernel
theorem dX2_guestOf_18 : decode cX2_guestOf 18 = .ok (.ireturn, 1) := by decide +kernel
theorem dX2_dayOf_0 : decode cX2_dayOf 0 = .ok (.aload_n 0, 1) := by decide +kernel
theorem dX2_dayOf_1 : decode cX2_dayOf 1 = .ok (.iload_n 1, 1) := by decide +kernel
theorem dX2_dayOf_2 : decode cX2_dayOf 2 = .ok (.invokevirtual 28, 3) := by decide +kernel
theorem dX2_dayOf_5 : decode cX2_dayOf 5 = .ok (.ifCond .eq 12, 3) := by decide +kernel
theorem dX2_dayOf_8 : decode cX2_dayOf 8 = .ok (.aload_n 0, 1) := by decide +kernel
theorem dX2_dayOf_9 : decode cX2_dayOf 9 = .ok (.getfield 15, 3) := by decide +kernel
theorem dX2_dayOf_12 : decode cX2_dayOf 12 = .ok (.iload_n 1, 1) := by decide +kernel
theorem dX2_dayOf_13 : decode cX2_dayOf 13 = .ok (.iaload, 1) := by decide +kernel
theorem dX2_dayOf_14 : decode cX2_dayOf 14 = .ok (.goto 4, 3) := by decide +kernel
theorem dX2_dayOf_17 : decode cX2_dayOf 17 = .ok (.iconst 0, 1) := by decide +kernel
theorem dX2_dayOf_18 : decode cX2_dayOf 18 = .ok (.ireturn, 1) := by decide +kernel
theorem dX2_tenthsOf_0 : decode cX2_tenthsOf 0 = .ok (.aload_n 0, 1) := by decide +kernel
theorem dX2_tenthsOf_1 : decode cX2_tenthsOf 1 = .ok (.iload_n 1, 1) := by decide +kernel
theorem dX2_tenthsOf_2 : decode cX2_tenthsOf 2 = .ok (.invokevirtual 28, 3) := by decide +kernel
theorem dX2_tenthsOf_5 : decode cX2_tenthsOf 5 = .ok (.ifCond .eq 12, 3) := by decide +kernel
theorem dX2_tenthsOf_8 : decode cX2_tenthsOf 8 = .ok (.aload_n 0, 1) := by decide +kernel
theorem dX2_tenthsOf_9 : decode cX2_tenthsOf 9 = .ok (.getfield 18, 3) := by decide +kernel
theorem dX2_tenthsOf_12 : decode cX2_tenthsOf 12 = .ok (.iload_n 1, 1) := by decide +kernel
theorem dX2_tenthsOf_13 : decode cX2_tenthsOf 13 = .ok (.iaload, 1) := by decide +kernel
theorem dX2_tenthsOf_14 : decode cX2_tenthsOf 14 = .ok (.goto 4, 3) := by decide +kernel
theorem dX2_tenthsOf_17 : decode cX2_tenthsOf 17 = .ok (.iconst 0, 1) := by decide +kernel
theorem dX2_tenthsOf_18 : decode cX2_tenthsOf 18 = .ok (.ireturn, 1) := by decide +kernel
theorem dX2_isOfKnowing_0 : decode cX2_isOfKnowing 0 = .ok (.aload_n 0, 1) := by decide +kernel
theorem dX2_isOfKnowing_1 : decode cX2_isOfKnowing 1 = .ok (.iload_n 1, 1) := by decide +kernel
theorem dX2_isOfKnowing_2 : decode cX2_isOfKnowing 2 = .ok (.invokevirtual 28, 3) := by decide +kernel
theorem dX2_isOfKnowing_5 : decode cX2_isOfKnowing 5 = .ok (.ifCond .eq 26, 3) := by decide +kernel
theorem dX2_isOfKnowing_8 : decode cX2_isOfKnowing 8 = .ok (.aload_n 2, 1) := by decide +kernel
theorem dX2_isOfKnowing_9 : decode cX2_isOfKnowing 9 = .ok (.aload_n 0, 1) := by decide +kernel
theorem dX2_isOfKnowing_10 : decode cX2_isOfKnowing 10 = .ok (.getfield 11, 3) := by decide +kernel
theorem dX2_isOfKnowing_13 : decode cX2_isOfKnowing 13 = .ok (.iload_n 1, 1) := by decide +kernel
theorem dX2_isOfKnowing_14 : decode cX2_isOfKnowing 14 = .ok (.iaload, 1) := by decide +kernel
theorem dX2_isOfKnowing_15 : decode cX2_isOfKnowing 15 = .ok (.aload_n 0, 1) := by decide +kernel
theorem dX2_isOfKnowing_16 : decode cX2_isOfKnowing 16 = .ok (.getfield 15, 3) := by decide +kernel
theorem dX2_isOfKnowing_19 : decode cX2_isOfKnowing 19 = .ok (.iload_n 1, 1) := by decide +kernel
theorem dX2_isOfKnowing_20 : decode cX2_isOfKnowing 20 = .ok (.iaload, 1) := by decide +kernel
theorem dX2_isOfKnowing_21 : decode cX2_isOfKnowing 21 = .ok (.invokevirtual 32, 3) := by decide +kernel
theorem dX2_isOfKnowing_24 : decode cX2_isOfKnowing 24 = .ok (.ifCond .eq 7, 3) := by decide +kernel
theorem dX2_isOfKnowing_27 : decode cX2_isOfKnowing 27 = .ok (.iconst 1, 1) := by decide +kernel
theorem dX2_isOfKnowing_28 : decode cX2_isOfKnowing 28 = .ok (.goto 4, 3) := by decide +kernel
theorem dX2_isOfKnowing_31 : decode cX2_isOfKnowing 31 = .ok (.iconst 0, 1) := by decide +kernel
theorem dX2_isOfKnowing_32 : decode cX2_isOfKnowing 32 = .ok (.ireturn, 1) := by decide +kernel
theorem dX2_slipOf_0 : decode cX2_slipOf 0 = .ok (.aload_n 0, 1) := by decide +kernel
theorem dX2_slipOf_1 : decode cX2_slipOf 1 = .ok (.iload_n 1, 1) := by decide +kernel
theorem dX2_slipOf_2 : decode cX2_slipOf 2 = .ok (.invokevirtual 28, 3) := by decide +kernel
theorem dX2_slipOf_5 : decode cX2_slipOf 5 = .ok (.ifCond .eq 22, 3) := by decide +kernel
theorem dX2_slipOf_8 : decode cX2_slipOf 8 = .ok (.aload_n 2, 1) := by decide +kernel
theorem dX2_slipOf_9 : decode cX2_slipOf 9 = .ok (.aload_n 0, 1) := by decide +kernel
theorem dX2_slipOf_10 : decode cX2_slipOf 10 = .ok (.getfield 11, 3) := by decide +kernel
theorem dX2_slipOf_13 : decode cX2_slipOf 13 = .ok (.iload_n 1, 1) := by decide +kernel
theorem dX2_slipOf_14 : decode cX2_slipOf 14 = .ok (.iaload, 1) := by decide +kernel
theorem dX2_slipOf_15 : decode cX2_slipOf 15 = .ok (.aload_n 0, 1) := by decide +kernel
theorem dX2_slipOf_16 : decode cX2_slipOf 16 = .ok (.getfield 15, 3) := by decide +kernel
theorem dX2_slipOf_19 : decode cX2_slipOf 19 = .ok (.iload_n 1, 1) := by decide +kernel
theorem dX2_slipOf_20 : decode cX2_slipOf 20 = .ok (.iaload, 1) := by decide +kernel
theorem dX2_slipOf_21 : decode cX2_slipOf 21 = .ok (.invokevirtual 32, 3) := by decide +kernel
theorem dX2_slipOf_24 : decode cX2_slipOf 24 = .ok (.ifCond .ne 5, 3) := by decide +kernel
theorem dX2_slipOf_27 : decode cX2_slipOf 27 = .ok (.iconst 0, 1) := by decide +kernel
theorem dX2_slipOf_28 : decode cX2_slipOf 28 = .ok (.ireturn, 1) := by decide +kernel
theorem dX2_slipOf_29 : decode cX2_slipOf 29 = .ok (.aload_n 0, 1) := by decide +kernel
theorem dX2_slipOf_30 : decode cX2_slipOf 30 = .ok (.getfield 21, 3) := by decide +kernel
theorem dX2_slipOf_33 : decode cX2_slipOf 33 = .ok (.iload_n 1, 1) := by decide +kernel
theorem dX2_slipOf_34 : decode cX2_slipOf 34 = .ok (.iaload, 1) := by decide +kernel
theorem dX2_slipOf_35 : decode cX2_slipOf 35 = .ok (.ireturn, 1) := by decide +kernel
theorem dX2_allWays_0 : decode cX2_allWays 0 = .ok (.bipush 10, 2) := by decide +kernel
theorem dX2_allWays_2 : decode cX2_allWays 2 = .ok (.aload_n 0, 1) := by decide +kernel
theorem dX2_allWays_3 : decode cX2_allWays 3 = .ok (.getfield 24, 3) := by decide +kernel
theorem dX2_allWays_6 : decode cX2_allWays 6 = .ok (.invokestatic 38, 3) := by decide +kernel
theorem dX2_allWays_9 : decode cX2_allWays 9 = .ok (.lreturn, 1) := by decide +kernel
theorem dX2_silentWays_0 : decode cX2_silentWays 0 = .ok (.lconst 1, 1) := by decide +kernel
theorem dX2_silentWays_1 : decode cX2_silentWays 1 = .ok (.lstore_n 2, 1) := by decide +kernel
theorem dX2_silentWays_2 : decode cX2_silentWays 2 = .ok (.iconst 0, 1) := by decide +kernel
theorem dX2_silentWays_3 : decode cX2_silentWays 3 = .ok (.istore 4, 2) := by decide +kernel
theorem dX2_silentWays_5 : decode cX2_silentWays 5 = .ok (.iload 4, 2) := by decide +kernel
theorem dX2_silentWays_7 : decode cX2_silentWays 7 = .ok (.aload_n 0, 1) := by decide +kernel
theorem dX2_silentWays_8 : decode cX2_silentWays 8 = .ok (.getfield 24, 3) := by decide +kernel
theorem dX2_silentWays_11 : decode cX2_silentWays 11 = .ok (.if_icmp .ge 23, 3) := by decide +kernel
theorem dX2_silentWays_14 : decode cX2_silentWays 14 = .ok (.lload_n 2, 1) := by decide +kernel
theorem dX2_silentWays_15 : decode cX2_silentWays 15 = .ok (.bipush 10, 2) := by decide +kernel
theorem dX2_silentWays_17 : decode cX2_silentWays 17 = .ok (.aload_n 0, 1) := by decide +kernel
theorem dX2_silentWays_18 : decode cX2_silentWays 18 = .ok (.iload 4, 2) := by decide +kernel
theorem dX2_silentWays_20 : decode cX2_silentWays 20 = .ok (.aload_n 1, 1) := by decide +kernel
theorem dX2_silentWays_21 : decode cX2_silentWays 21 = .ok (.invokevirtual 42, 3) := by decide +kernel
theorem dX2_silentWays_24 : decode cX2_silentWays 24 = .ok (.isub, 1) := by decide +kernel
theorem dX2_silentWays_25 : decode cX2_silentWays 25 = .ok (.i2l, 1) := by decide +kernel
theorem dX2_silentWays_26 : decode cX2_silentWays 26 = .ok (.lmul, 1) := by decide +kernel
theorem dX2_silentWays_27 : decode cX2_silentWays 27 = .ok (.lstore_n 2, 1) := by decide +kernel
theorem dX2_silentWays_28 : decode cX2_silentWays 28 = .ok (.iinc 4 1, 3) := by decide +kernel
theorem dX2_silentWays_31 : decode cX2_silentWays 31 = .ok (.goto (-26), 3) := by decide +kernel
theorem dX2_silentWays_34 : decode cX2_silentWays 34 = .ok (.lload_n 2, 1) := by decide +kernel
theorem dX2_silentWays_35 : decode cX2_silentWays 35 = .ok (.lreturn, 1) := by decide +kernel
theorem dX2_firstSlipWays_0 : decode cX2_firstSlipWays 0 = .ok (.lconst 1, 1) := by decide +kernel
theorem dX2_firstSlipWays_1 : decode cX2_firstSlipWays 1 = .ok (.lstore_n 3, 1) := by decide +kernel
theorem dX2_firstSlipWays_2 : decode cX2_firstSlipWays 2 = .ok (.lconst 0, 1) := by decide +kernel
theorem dX2_firstSlipWays_3 : decode cX2_firstSlipWays 3 = .ok (.lstore 5, 2) := by decide +kernel
theorem dX2_firstSlipWays_5 : decode cX2_firstSlipWays 5 = .ok (.iconst 0, 1) := by decide +kernel
theorem dX2_firstSlipWays_6 : decode cX2_firstSlipWays 6 = .ok (.istore 7, 2) := by decide +kernel
theorem dX2_firstSlipWays_8 : decode cX2_firstSlipWays 8 = .ok (.iload 7, 2) := by decide +kernel
theorem dX2_firstSlipWays_10 : decode cX2_firstSlipWays 10 = .ok (.aload_n 0, 1) := by decide +kernel
theorem dX2_firstSlipWays_11 : decode cX2_firstSlipWays 11 = .ok (.getfield 24, 3) := by decide +kernel
theorem dX2_firstSlipWays_14 : decode cX2_firstSlipWays 14 = .ok (.if_icmp .ge 56, 3) := by decide +kernel
theorem dX2_firstSlipWays_17 : decode cX2_firstSlipWays 17 = .ok (.aload_n 0, 1) := by decide +kernel
theorem dX2_firstSlipWays_18 : decode cX2_firstSlipWays 18 = .ok (.iload 7, 2) := by decide +kernel
theorem dX2_firstSlipWays_20 : decode cX2_firstSlipWays 20 = .ok (.aload_n 2, 1) := by decide +kernel
theorem dX2_firstSlipWays_21 : decode cX2_firstSlipWays 21 = .ok (.invokevirtual 42, 3) := by decide +kernel
theorem dX2_firstSlipWays_24 : decode cX2_firstSlipWays 24 = .ok (.istore 8, 2) := by decide +kernel
theorem dX2_firstSlipWays_26 : decode cX2_firstSlipWays 26 = .ok (.lload 5, 2) := by decide +kernel
theorem dX2_firstSlipWays_28 : decode cX2_firstSlipWays 28 = .ok (.ldc2_w 46, 3) := by decide +kernel
theorem dX2_firstSlipWays_31 : decode cX2_firstSlipWays 31 = .ok (.lmul, 1) := by decide +kernel
theorem dX2_firstSlipWays_32 : decode cX2_firstSlipWays 32 = .ok (.lstore 5, 2) := by decide +kernel
theorem dX2_firstSlipWays_34 : decode cX2_firstSlipWays 34 = .ok (.aload_n 0, 1) := by decide +kernel
theorem dX2_firstSlipWays_35 : decode cX2_firstSlipWays 35 = .ok (.getfield 11, 3) := by decide +kernel
theorem dX2_firstSlipWays_38 : decode cX2_firstSlipWays 38 = .ok (.iload 7, 2) := by decide +kernel
theorem dX2_firstSlipWays_40 : decode cX2_firstSlipWays 40 = .ok (.iaload, 1) := by decide +kernel
theorem dX2_firstSlipWays_41 : decode cX2_firstSlipWays 41 = .ok (.iload_n 1, 1) := by decide +kernel
theorem dX2_firstSlipWays_42 : decode cX2_firstSlipWays 42 = .ok (.if_icmp .ne 13, 3) := by decide +kernel
theorem dX2_firstSlipWays_45 : decode cX2_firstSlipWays 45 = .ok (.lload 5, 2) := by decide +kernel
theorem dX2_firstSlipWays_47 : decode cX2_firstSlipWays 47 = .ok (.lload_n 3, 1) := by decide +kernel
theorem dX2_firstSlipWays_48 : decode cX2_firstSlipWays 48 = .ok (.iload 8, 2) := by decide +kernel
theorem dX2_firstSlipWays_50 : decode cX2_firstSlipWays 50 = .ok (.i2l, 1) := by decide +kernel
theorem dX2_firstSlipWays_51 : decode cX2_firstSlipWays 51 = .ok (.lmul, 1) := by decide +kernel
theorem dX2_firstSlipWays_52 : decode cX2_firstSlipWays 52 = .ok (.ladd, 1) := by decide +kernel
theorem dX2_firstSlipWays_53 : decode cX2_firstSlipWays 53 = .ok (.lstore 5, 2) := by decide +kernel
theorem dX2_firstSlipWays_55 : decode cX2_firstSlipWays 55 = .ok (.lload_n 3, 1) := by decide +kernel
theorem dX2_firstSlipWays_56 : decode cX2_firstSlipWays 56 = .ok (.bipush 10, 2) := by decide +kernel
theorem dX2_firstSlipWays_58 : decode cX2_firstSlipWays 58 = .ok (.iload 8, 2) := by decide +kernel
theorem dX2_firstSlipWays_60 : decode cX2_firstSlipWays 60 = .ok (.isub, 1) := by decide +kernel
theorem dX2_firstSlipWays_61 : decode cX2_firstSlipWays 61 = .ok (.i2l, 1) := by decide +kernel
theorem dX2_firstSlipWays_62 : decode cX2_firstSlipWays 62 = .ok (.lmul, 1) := by decide +kernel
theorem dX2_firstSlipWays_63 : decode cX2_firstSlipWays 63 = .ok (.lstore_n 3, 1) := by decide +kernel
theorem dX2_firstSlipWays_64 : decode cX2_firstSlipWays 64 = .ok (.iinc 7 1, 3) := by decide +kernel
theorem dX2_firstSlipWays_67 : decode cX2_firstSlipWays 67 = .ok (.goto (-59), 3) := by decide +kernel
theorem dX2_firstSlipWays_70 : decode cX2_firstSlipWays 70 = .ok (.lload 5, 2) := by decide +kernel
theorem dX2_firstSlipWays_72 : decode cX2_firstSlipWays 72 = .ok (.lreturn, 1) := by decide +kernel
theorem dX3_init_0 : decode cX3_init 0 = .ok (.aload_n 0, 1) := by decide +kernel
theorem dX3_init_1 : decode cX3_init 1 = .ok (.invokespecial 7, 3) := by decide +kernel
theorem dX3_init_4 : decode cX3_init 4 = .ok (.aload_n 0, 1) := by decide +kernel
theorem dX3_init_5 : decode cX3_init 5 = .ok (.bipush 60, 2) := by decide +kernel
theorem dX3_init_7 : decode cX3_init 7 = .ok (.newarray .int, 2) := by decide +kernel
theorem dX3_init_9 : decode cX3_init 9 = .ok (.putfield 13, 3) := by decide +kernel
theorem dX3_init_12 : decode cX3_init 12 = .ok (.aload_n 0, 1) := by decide +kernel
theorem dX3_init_13 : decode cX3_init 13 = .ok (.iconst 0, 1) := by decide +kernel
theorem dX3_init_14 : decode cX3_init 14 = .ok (.putfield 17, 3) := by decide +kernel
theorem dX3_init_17 : decode cX3_init 17 = .ok (.return_, 1) := by decide +kernel
theorem dX3_lettersIn_0 : decode cX3_lettersIn 0 = .ok (.iconst 0, 1) := by decide +kernel
theorem dX3_lettersIn_1 : decode cX3_lettersIn 1 = .ok (.istore_n 2, 1) := by decide +kernel
theorem dX3_lettersIn_2 : decode cX3_lettersIn 2 = .ok (.iconst 0, 1) := by decide +kernel
theorem dX3_lettersIn_3 : decode cX3_lettersIn 3 = .ok (.istore_n 3, 1) := by decide +kernel
theorem dX3_lettersIn_4 : decode cX3_lettersIn 4 = .ok (.iconst 0, 1) := by decide +kernel
theorem dX3_lettersIn_5 : decode cX3_lettersIn 5 = .ok (.istore 4, 2) := by decide +kernel
theorem dX3_lettersIn_7 : decode cX3_lettersIn 7 = .ok (.iload 4, 2) := by decide +kernel
theorem dX3_lettersIn_9 : decode cX3_lettersIn 9 = .ok (.bipush 8, 2) := by decide +kernel
theorem dX3_lettersIn_11 : decode cX3_lettersIn 11 = .ok (.if_icmp .ge 48, 3) := by decide +kernel
theorem dX3_lettersIn_14 : decode cX3_lettersIn 14 = .ok (.lload_n 0, 1) := by decide +kernel
theorem dX3_lettersIn_15 : decode cX3_lettersIn 15 = .ok (.iload 4, 2) := by decide +kernel
theorem dX3_lettersIn_17 : decode cX3_lettersIn 17 = .ok (.invokestatic 21, 3) := by decide +kernel
theorem dX3_lettersIn_20 : decode cX3_lettersIn 20 = .ok (.istore 5, 2) := by decide +kernel
theorem dX3_lettersIn_22 : decode cX3_lettersIn 22 = .ok (.iload 5, 2) := by decide +kernel
theorem dX3_lettersIn_24 : decode cX3_lettersIn 24 = .ok (.bipush 126, 2) := by decide +kernel
theorem dX3_lettersIn_26 : decode cX3_lettersIn 26 = .ok (.if_icmp .gt 12, 3) := by decide +kernel
theorem dX3_lettersIn_29 : decode cX3_lettersIn 29 = .ok (.iload_n 3, 1) := by decide +kernel
theorem dX3_lettersIn_30 : decode cX3_lettersIn 30 = .ok (.ifCond .eq 10, 3) := by decide +kernel
theorem dX3_lettersIn_33 : decode cX3_lettersIn 33 = .ok (.iload 5, 2) := by decide +kernel
theorem dX3_lettersIn_35 : decode cX3_lettersIn 35 = .ok (.ifCond .eq 5, 3) := by decide +kernel
theorem dX3_lettersIn_38 : decode cX3_lettersIn 38 = .ok (.iconst (-1), 1) := by decide +kernel
theorem dX3_lettersIn_39 : decode cX3_lettersIn 39 = .ok (.ireturn, 1) := by decide +kernel
theorem dX3_lettersIn_40 : decode cX3_lettersIn 40 = .ok (.iload 5, 2) := by decide +kernel
theorem dX3_lettersIn_42 : decode cX3_lettersIn 42 = .ok (.ifCond .ne 8, 3) := by decide +kernel
theorem dX3_lettersIn_45 : decode cX3_lettersIn 45 = .ok (.iconst 1, 1) := by decide +kernel
theorem dX3_lettersIn_46 : decode cX3_lettersIn 46 = .ok (.istore_n 3, 1) := by decide +kernel
theorem dX3_lettersIn_47 : decode cX3_lettersIn 47 = .ok (.goto 6, 3) := by decide +kernel
theorem dX3_lettersIn_50 : decode cX3_lettersIn 50 = .ok (.iinc 2 1, 3) := by decide +kernel
theorem dX3_lettersIn_53 : decode cX3_lettersIn 53 = .ok (.iinc 4 1, 3) := by decide +kernel
theorem dX3_lettersIn_56 : decode cX3_lettersIn 56 = .ok (.goto (-49), 3) := by decide +kernel
theorem dX3_lettersIn_59 : decode cX3_lettersIn 59 = .ok (.iload_n 2, 1) := by decide +kernel
theorem dX3_lettersIn_60 : decode cX3_lettersIn 60 = .ok (.ireturn, 1) := by decide +kernel
theorem dX3_codeIn_0 : decode cX3_codeIn 0 = .ok (.lload_n 0, 1) := by decide +kernel
theorem dX3_codeIn_1 : decode cX3_codeIn 1 = .ok (.bipush 8, 2) := by decide +kernel
theorem dX3_codeIn_3 : decode cX3_codeIn 3 = .ok (.iload_n 2, 1) := by decide +kernel
theorem dX3_codeIn_4 : decode cX3_codeIn 4 = .ok (.imul, 1) := by decide +kernel
theorem dX3_codeIn_5 : decode cX3_codeIn 5 = .ok (.lushr, 1) := by decide +kernel
theorem dX3_codeIn_6 : decode cX3_codeIn 6 = .ok (.ldc2_w 25, 3) := by decide +kernel
theorem dX3_codeIn_9 : decode cX3_codeIn 9 = .ok (.land, 1) := by decide +kernel
theorem dX3_codeIn_10 : decode cX3_codeIn 10 = .ok (.l2i, 1) := by decide +kernel
theorem dX3_codeIn_11 : decode cX3_codeIn 11 = .ok (.ireturn, 1) := by decide +kernel
theorem dX3_size_0 : decode cX3_size 0 = .ok (.aload_n 0, 1) := by decide +kernel
theorem dX3_size_1 : decode cX3_size 1 = .ok (.getfield 17, 3) := by decide +kernel
theorem dX3_size_4 : decode cX3_size 4 = .ok (.ireturn, 1) := by decide +kernel
theorem dX3_clear_0 : decode cX3_clear 0 = .ok (.aload_n 0, 1) := by decide +kernel
theorem dX3_clear_1 : decode cX3_clear 1 = .ok (.iconst 0, 1) := by decide +kernel
theorem dX3_clear_2 : decode cX3_clear 2 = .ok (.putfield 17, 3) := by decide +kernel
theorem dX3_clear_5 : decode cX3_clear 5 = .ok (.return_, 1) := by decide +kernel
theorem dX3_append_0 : decode cX3_append 0 = .ok (.iconst 0, 1) := by decide +kernel
theorem dX3_append_1 : decode cX3_append 1 = .ok (.istore 4, 2) := by decide +kernel
theorem dX3_append_3 : decode cX3_append 3 = .ok (.iload 4, 2) := by decide +kernel
theorem dX3_append_5 : decode cX3_append 5 = .ok (.iload_n 3, 1) := by decide +kernel
theorem dX3_append_6 : decode cX3_append 6 = .ok (.if_icmp .ge 43, 3) := by decide +kernel
theorem dX3_append_9 : decode cX3_append 9 = .ok (.aload_n 0, 1) := by decide +kernel
theorem dX3_append_10 : decode cX3_append 10 = .ok (.getfield 17, 3) := by decide +kernel
theorem dX3_append_13 : decode cX3_append 13 = .ok (.bipush 60, 2) := by decide +kernel
theorem dX3_append_15 : decode cX3_append 15 = .ok (.if_icmp .ge 34, 3) := by decide +kernel
theorem dX3_append_18 : decode cX3_append 18 = .ok (.aload_n 0, 1) := by decide +kernel
theorem dX3_append_19 : decode cX3_append 19 = .ok (.getfield 13, 3) := by decide +kernel
theorem dX3_append_22 : decode cX3_append 22 = .ok (.aload_n 0, 1) := by decide +kernel
theorem dX3_append_23 : decode cX3_append 23 = .ok (.getfield 17, 3) := by decide +kernel
theorem dX3_append_26 : decode cX3_append 26 = .ok (.lload_n 1, 1) := by decide +kernel
theorem dX3_append_27 : decode cX3_append 27 = .ok (.iload 4, 2) := by decide +kernel
theorem dX3_append_29 : decode cX3_append 29 = .ok (.invokestatic 21, 3) := by decide +kernel
theorem dX3_append_32 : decode cX3_append 32 = .ok (.iastore, 1) := by decide +kernel
theorem dX3_append_33 : decode cX3_append 33 = .ok (.aload_n 0, 1) := by decide +kernel
theorem dX3_append_34 : decode cX3_append 34 = .ok (.dup, 1) := by decide +kernel
theorem dX3_append_35 : decode cX3_append 35 = .ok (.getfield 17, 3) := by decide +kernel
theorem dX3_append_38 : decode cX3_append 38 = .ok (.iconst 1, 1) := by decide +kernel
theorem dX3_append_39 : decode cX3_append 39 = .ok (.iadd, 1) := by decide +kernel
theorem dX3_append_40 : decode cX3_append 40 = .ok (.putfield 17, 3) := by decide +kernel
theorem dX3_append_43 : decode cX3_append 43 = .ok (.iinc 4 1, 3) := by decide +kernel
theorem dX3_append_46 : decode cX3_append 46 = .ok (.goto (-43), 3) := by decide +kernel
theorem dX3_append_49 : decode cX3_append 49 = .ok (.return_, 1) := by decide +kernel
theorem dX3_codeAt_0 : decode cX3_codeAt 0 = .ok (.iload_n 1, 1) := by decide +kernel
theorem dX3_codeAt_1 : decode cX3_codeAt 1 = .ok (.ifCond .lt 20, 3) := by decide +kernel
theorem dX3_codeAt_4 : decode cX3_codeAt 4 = .ok (.iload_n 1, 1) := by decide +kernel
theorem dX3_codeAt_5 : decode cX3_codeAt 5 = .ok (.aload_n 0, 1) := by decide +kernel
theorem dX3_codeAt_6 : decode cX3_codeAt 6 = .ok (.getfield 17, 3) := by decide +kernel
theorem dX3_codeAt_9 : decode cX3_codeAt 9 = .ok (.if_icmp .ge 12, 3) := by decide +kernel
theorem dX3_codeAt_12 : decode cX3_codeAt 12 = .ok (.aload_n 0, 1) := by decide +kernel
theorem dX3_codeAt_13 : decode cX3_codeAt 13 = .ok (.getfield 13, 3) := by decide +kernel
theorem dX3_codeAt_16 : decode cX3_codeAt 16 = .ok (.iload_n 1, 1) := by decide +kernel
theorem dX3_codeAt_17 : decode cX3_codeAt 17 = .ok (.iaload, 1) := by decide +kernel
theorem dX3_codeAt_18 : decode cX3_codeAt 18 = .ok (.goto 4, 3) := by decide +kernel
theorem dX3_codeAt_21 : decode cX3_codeAt 21 = .ok (.iconst 0, 1) := by decide +kernel
theorem dX3_codeAt_22 : decode cX3_codeAt 22 = .ok (.ireturn, 1) := by decide +kernel
theorem dX3_digitAt_0 : decode cX3_digitAt 0 = .ok (.aload_n 0, 1) := by decide +kernel
theorem dX3_digitAt_1 : decode cX3_digitAt 1 = .ok (.iload_n 1, 1) := by decide +kernel
theorem dX3_digitAt_2 : decode cX3_digitAt 2 = .ok (.invokevirtual 27, 3) := by decide +kernel
theorem dX3_digitAt_5 : decode cX3_digitAt 5 = .ok (.bipush 48, 2) := by decide +kernel
theorem dX3_digitAt_7 : decode cX3_digitAt 7 = .ok (.isub, 1) := by decide +kernel
theorem dX3_digitAt_8 : decode cX3_digitAt 8 = .ok (.ireturn, 1) := by decide +kernel
theorem dX3_firstWrong_0 : decode cX3_firstWrong 0 = .ok (.iconst 0, 1) := by decide +kernel
theorem dX3_firstWrong_1 : decode cX3_firstWrong 1 = .ok (.istore_n 2, 1) := by decide +kernel
theorem dX3_firstWrong_2 : decode cX3_firstWrong 2 = .ok (.iload_n 2, 1) := by decide +kernel
theorem dX3_firstWrong_3 : decode cX3_firstWrong 3 = .ok (.aload_n 0, 1) := by decide +kernel
theorem dX3_firstWrong_4 : decode cX3_firstWrong 4 = .ok (.getfield 17, 3) := by decide +kernel
theorem dX3_firstWrong_7 : decode cX3_firstWrong 7 = .ok (.if_icmp .ge 20, 3) := by decide +kernel
theorem dX3_firstWrong_10 : decode cX3_firstWrong 10 = .ok (.aload_n 0, 1) := by decide +kernel
theorem dX3_firstWrong_11 : decode cX3_firstWrong 11 = .ok (.iload_n 2, 1) := by decide +kernel
theorem dX3_firstWrong_12 : decode cX3_firstWrong 12 = .ok (.iload_n 1, 1) := by decide +kernel
theorem dX3_firstWrong_13 : decode cX3_firstWrong 13 = .ok (.invokevirtual 31, 3) := by decide +kernel
theorem dX3_firstWrong_16 : decode cX3_firstWrong 16 = .ok (.ifCond .ne 5, 3) := by decide +kernel
theorem dX3_firstWrong_19 : decode cX3_firstWrong 19 = .ok (.iload_n 2, 1) := by decide +kernel
theorem dX3_firstWrong_20 : decode cX3_firstWrong 20 = .ok (.ireturn, 1) := by decide +kernel
theorem dX3_firstWrong_21 : decode cX3_firstWrong 21 = .ok (.iinc 2 1, 3) := by decide +kernel
theorem dX3_firstWrong_24 : decode cX3_firstWrong 24 = .ok (.goto (-22), 3) := by decide +kernel
theorem dX3_firstWrong_27 : decode cX3_firstWrong 27 = .ok (.aload_n 0, 1) := by decide +kernel
theorem dX3_firstWrong_28 : decode cX3_firstWrong 28 = .ok (.getfield 17, 3) := by decide +kernel
theorem dX3_firstWrong_31 : decode cX3_firstWrong 31 = .ok (.ireturn, 1) := by decide +kernel
theorem dX3_isList_0 : decode cX3_isList 0 = .ok (.aload_n 0, 1) := by decide +kernel
theorem dX3_isList_1 : decode cX3_isList 1 = .ok (.getfield 17, 3) := by decide +kernel
theorem dX3_isList_4 : decode cX3_isList 4 = .ok (.iconst 4, 1) := by decide +kernel
theorem dX3_isList_5 : decode cX3_isList 5 = .ok (.irem, 1) := by decide +kernel
theorem dX3_isList_6 : decode cX3_isList 6 = .ok (.iconst 3, 1) := by decide +kernel
theorem dX3_isList_7 : decode cX3_isList 7 = .ok (.if_icmp .ne 19, 3) := by decide +kernel
theorem dX3_isList_10 : decode cX3_isList 10 = .ok (.aload_n 0, 1) := by decide +kernel
theorem dX3_isList_11 : decode cX3_isList 11 = .ok (.iload_n 1, 1) := by decide +kernel
theorem dX3_isList_12 : decode cX3_isList 12 = .ok (.invokevirtual 35, 3) := by decide +kernel
theorem dX3_isList_15 : decode cX3_isList 15 = .ok (.aload_n 0, 1) := by decide +kernel
theorem dX3_isList_16 : decode cX3_isList 16 = .ok (.getfield 17, 3) := by decide +kernel
theorem dX3_isList_19 : decode cX3_isList 19 = .ok (.if_icmp .ne 7, 3) := by decide +kernel
theorem dX3_isList_22 : decode cX3_isList 22 = .ok (.iconst 1, 1) := by decide +kernel
theorem dX3_isList_23 : decode cX3_isList 23 = .ok (.goto 4, 3) := by decide +kernel
theorem dX3_isList_26 : decode cX3_isList 26 = .ok (.iconst 0, 1) := by decide +kernel
theorem dX3_isList_27 : decode cX3_isList 27 = .ok (.ireturn, 1) := by decide +kernel
theorem dX3_fits_0 : decode cX3_fits 0 = .ok (.aload_n 0, 1) := by decide +kernel
theorem dX3_fits_1 : decode cX3_fits 1 = .ok (.iload_n 1, 1) := by decide +kernel
theorem dX3_fits_2 : decode cX3_fits 2 = .ok (.invokevirtual 38, 3) := by decide +kernel
theorem dX3_fits_5 : decode cX3_fits 5 = .ok (.istore_n 3, 1) := by decide +kernel
theorem dX3_fits_6 : decode cX3_fits 6 = .ok (.iload_n 1, 1) := by decide +kernel
theorem dX3_fits_7 : decode cX3_fits 7 = .ok (.bipush 59, 2) := by decide +kernel
theorem dX3_fits_9 : decode cX3_fits 9 = .ok (.if_icmp .lt 5, 3) := by decide +kernel
theorem dX3_fits_12 : decode cX3_fits 12 = .ok (.iconst 0, 1) := by decide +kernel
theorem dX3_fits_13 : decode cX3_fits 13 = .ok (.ireturn, 1) := by decide +kernel
theorem dX3_fits_14 : decode cX3_fits 14 = .ok (.iload_n 1, 1) := by decide +kernel
theorem dX3_fits_15 : decode cX3_fits 15 = .ok (.iconst 4, 1) := by decide +kernel
theorem dX3_fits_16 : decode cX3_fits 16 = .ok (.irem, 1) := by decide +kernel
theorem dX3_fits_17 : decode cX3_fits 17 = .ok (.tableswitch 52 0 2 #[27, 42, 47], 27) := by decide +kernel
theorem dX3_fits_44 : decode cX3_fits 44 = .ok (.iload_n 3, 1) := by decide +kernel
theorem dX3_fits_45 : decode cX3_fits 45 = .ok (.ifCond .lt 12, 3) := by decide +kernel
theorem dX3_fits_48 : decode cX3_fits 48 = .ok (.iload_n 3, 1) := by decide +kernel
theorem dX3_fits_49 : decode cX3_fits 49 = .ok (.iload_n 2, 1) := by decide +kernel
theorem dX3_fits_50 : decode cX3_fits 50 = .ok (.if_icmp .ge 7, 3) := by decide +kernel
theorem dX3_fits_53 : decode cX3_fits 53 = .ok (.iconst 1, 1) := by decide +kernel
theorem dX3_fits_54 : decode cX3_fits 54 = .ok (.goto 4, 3) := by decide +kernel
theorem dX3_fits_57 : decode cX3_fits 57 = .ok (.iconst 0, 1) := by decide +kernel
theorem dX3_fits_58 : decode cX3_fits 58 = .ok (.ireturn, 1) := by decide +kernel
theorem dX3_fits_59 : decode cX3_fits 59 = .ok (.iload_n 3, 1) := by decide +kernel
theorem dX3_fits_60 : decode cX3_fits 60 = .ok (.invokestatic 41, 3) := by decide +kernel
theorem dX3_fits_63 : decode cX3_fits 63 = .ok (.ireturn, 1) := by decide +kernel
theorem dX3_fits_64 : decode cX3_fits 64 = .ok (.iload_n 3, 1) := by decide +kernel
theorem dX3_fits_65 : decode cX3_fits 65 = .ok (.invokestatic 45, 3) := by decide +kernel
theorem dX3_fits_68 : decode cX3_fits 68 = .ok (.ireturn, 1) := by decide +kernel
theorem dX3_fits_69 : decode cX3_fits 69 = .ok (.aload_n 0, 1) := by decide +kernel
theorem dX3_fits_70 : decode cX3_fits 70 = .ok (.iload_n 1, 1) := by decide +kernel
theorem dX3_fits_71 : decode cX3_fits 71 = .ok (.invokevirtual 27, 3) := by decide +kernel
theorem dX3_fits_74 : decode cX3_fits 74 = .ok (.bipush 44, 2) := by decide +kernel
theorem dX3_fits_76 : decode cX3_fits 76 = .ok (.if_icmp .ne 7, 3) := by decide +kernel
theorem dX3_fits_79 : decode cX3_fits 79 = .ok (.iconst 1, 1) := by decide +kernel
theorem dX3_fits_80 : decode cX3_fits 80 = .ok (.goto 4, 3) := by decide +kernel
theorem dX3_fits_83 : decode cX3_fits 83 = .ok (.iconst 0, 1) := by decide +kernel
theorem dX3_fits_84 : decode cX3_fits 84 = .ok (.ireturn, 1) := by decide +kernel
theorem dX4_init_0 : decode cX4_init 0 = .ok (.aload_n 0, 1) := by decide +kernel
theorem dX4_init_1 : decode cX4_init 1 = .ok (.invokespecial 3, 3) := by decide +kernel
theorem dX4_init_4 : decode cX4_init 4 = .ok (.aload_n 0, 1) := by decide +kernel
theorem dX4_init_5 : decode cX4_init 5 = .ok (.bipush 8, 2) := by decide +kernel
theorem dX4_init_7 : decode cX4_init 7 = .ok (.newarray .int, 2) := by decide +kernel
theorem dX4_init_9 : decode cX4_init 9 = .ok (.putfield 11, 3) := by decide +kernel
theorem dX4_init_12 : decode cX4_init 12 = .ok (.aload_n 0, 1) := by decide +kernel
theorem dX4_init_13 : decode cX4_init 13 = .ok (.bipush 8, 2) := by decide +kernel
theorem dX4_init_15 : decode cX4_init 15 = .ok (.newarray .int, 2) := by decide +kernel
theorem dX4_init_17 : decode cX4_init 17 = .ok (.putfield 15, 3) := by decide +kernel
theorem dX4_init_20 : decode cX4_init 20 = .ok (.aload_n 0, 1) := by decide +kernel
theorem dX4_init_21 : decode cX4_init 21 = .ok (.bipush 8, 2) := by decide +kernel
theorem dX4_init_23 : decode cX4_init 23 = .ok (.newarray .int, 2) := by decide +kernel
theorem dX4_init_25 : decode cX4_init 25 = .ok (.putfield 18, 3) := by decide +kernel
theorem dX4_init_28 : decode cX4_init 28 = .ok (.aload_n 0, 1) := by decide +kernel
theorem dX4_init_29 : decode cX4_init 29 = .ok (.iconst 0, 1) := by decide +kernel
theorem dX4_init_30 : decode cX4_init 30 = .ok (.putfield 21, 3) := by decide +kernel
theorem dX4_init_33 : decode cX4_init 33 = .ok (.return_, 1) := by decide +kernel
theorem dX4_isHow_0 : decode cX4_isHow 0 = .ok (.iload_n 0, 1) := by decide +kernel
theorem dX4_isHow_1 : decode cX4_isHow 1 = .ok (.ifCond .lt 12, 3) := by decide +kernel
theorem dX4_isHow_4 : decode cX4_isHow 4 = .ok (.iload_n 0, 1) := by decide +kernel
theorem dX4_isHow_5 : decode cX4_isHow 5 = .ok (.iconst 2, 1) := by decide +kernel
theorem dX4_isHow_6 : decode cX4_isHow 6 = .ok (.if_icmp .gt 7, 3) := by decide +kernel
theorem dX4_isHow_9 : decode cX4_isHow 9 = .ok (.iconst 1, 1) := by decide +kernel
theorem dX4_isHow_10 : decode cX4_isHow 10 = .ok (.goto 4, 3) := by decide +kernel
theorem dX4_isHow_13 : decode cX4_isHow 13 = .ok (.iconst 0, 1) := by decide +kernel
theorem dX4_isHow_14 : decode cX4_isHow 14 = .ok (.ireturn, 1) := by decide +kernel
theorem dX4_size_0 : decode cX4_size 0 = .ok (.aload_n 0, 1) := by decide +kernel
theorem dX4_size_1 : decode cX4_size 1 = .ok (.getfield 21, 3) := by decide +kernel
theorem dX4_size_4 : decode cX4_size 4 = .ok (.ireturn, 1) := by decide +kernel
theorem dX4_has_0 : decode cX4_has 0 = .ok (.iload_n 1, 1) := by decide +kernel
theorem dX4_has_1 : decode cX4_has 1 = .ok (.ifCond .lt 15, 3) := by decide +kernel
theorem dX4_has_4 : decode cX4_has 4 = .ok (.iload_n 1, 1) := by decide +kernel
theorem dX4_has_5 : decode cX4_has 5 = .ok (.aload_n 0, 1) := by decide +kernel
theorem dX4_has_6 : decode cX4_has 6 = .ok (.getfield 21, 3) := by decide +kernel
theorem dX4_has_9 : decode cX4_has 9 = .ok (.if_icmp .ge 7, 3) := by decide +kernel
theorem dX4_has_12 : decode cX4_has 12 = .ok (.iconst 1, 1) := by decide +kernel
theorem dX4_has_13 : decode cX4_has 13 = .ok (.goto 4, 3) := by decide +kernel
theorem dX4_has_16 : decode cX4_has 16 = .ok (.iconst 0, 1) := by decide +kernel
theorem dX4_has_17 : decode cX4_has 17 = .ok (.ireturn, 1) := by decide +kernel
theorem dX4_add_0 : decode cX4_add 0 = .ok (.aload_n 0, 1) := by decide +kernel
theorem dX4_add_1 : decode cX4_add 1 = .ok (.getfield 21, 3) := by decide +kernel
theorem dX4_add_4 : decode cX4_add 4 = .ok (.bipush 8, 2) := by decide +kernel
theorem dX4_add_6 : decode cX4_add 6 = .ok (.if_icmp .lt 6, 3) := by decide +kernel
theorem dX4_add_9 : decode cX4_add 9 = .ok (.bipush (-104), 2) := by decide +kernel
theorem dX4_add_11 : decode cX4_add 11 = .ok (.ireturn, 1) := by decide +kernel
theorem dX4_add_12 : decode cX4_add 12 = .ok (.aload_n 0, 1) := by decide +kernel
theorem dX4_add_13 : decode cX4_add 13 = .ok (.getfield 11, 3) := by decide +kernel
theorem dX4_add_16 : decode cX4_add 16 = .ok (.aload_n 0, 1) := by decide +kernel
theorem dX4_add_17 : decode cX4_add 17 = .ok (.getfield 21, 3) := by decide +kernel
theorem dX4_add_20 : decode cX4_add 20 = .ok (.iload_n 1, 1) := by decide +kernel
theorem dX4_add_21 : decode cX4_add 21 = .ok (.iastore, 1) := by decide +kernel
theorem dX4_add_22 : decode cX4_add 22 = .ok (.aload_n 0, 1) := by decide +kernel
theorem dX4_add_23 : decode cX4_add 23 = .ok (.getfield 15, 3) := by decide +kernel
theorem dX4_add_26 : decode cX4_add 26 = .ok (.aload_n 0, 1) := by decide +kernel
theorem dX4_add_27 : decode cX4_add 27 = .ok (.getfield 21, 3) := by decide +kernel
theorem dX4_add_30 : decode cX4_add 30 = .ok (.iload_n 2, 1) := by decide +kernel
theorem dX4_add_31 : decode cX4_add 31 = .ok (.iastore, 1) := by decide +kernel
theorem dX4_add_32 : decode cX4_add 32 = .ok (.aload_n 0, 1) := by decide +kernel
theorem dX4_add_33 : decode cX4_add 33 = .ok (.dup, 1) := by decide +kernel
theorem dX4_add_34 : decode cX4_add 34 = .ok (.getfield 21, 3) := by decide +kernel
theorem dX4_add_37 : decode cX4_add 37 = .ok (.iconst 1, 1) := by decide +kernel
theorem dX4_add_38 : decode cX4_add 38 = .ok (.iadd, 1) := by decide +kernel
theorem dX4_add_39 : decode cX4_add 39 = .ok (.putfield 21, 3) := by decide +kernel
theorem dX4_add_42 : decode cX4_add 42 = .ok (.aload_n 0, 1) := by decide +kernel
theorem dX4_add_43 : decode cX4_add 43 = .ok (.getfield 21, 3) := by decide +kernel
theorem dX4_add_46 : decode cX4_add 46 = .ok (.iconst 1, 1) := by decide +kernel
theorem dX4_add_47 : decode cX4_add 47 = .ok (.isub, 1) := by decide +kernel
theorem dX4_add_48 : decode cX4_add 48 = .ok (.ireturn, 1) := by decide +kernel
theorem dX4_withOf_0 : decode cX4_withOf 0 = .ok (.aload_n 0, 1) := by decide +kernel
theorem dX4_withOf_1 : decode cX4_withOf 1 = .ok (.iload_n 1, 1) := by decide +kernel
theorem dX4_withOf_2 : decode cX4_withOf 2 = .ok (.invokevirtual 25, 3) := by decide +kernel
theorem dX4_withOf_5 : decode cX4_withOf 5 = .ok (.ifCond .eq 12, 3) := by decide +kernel
theorem dX4_withOf_8 : decode cX4_withOf 8 = .ok (.aload_n 0, 1) := by decide +kernel
theorem dX4_withOf_9 : decode cX4_withOf 9 = .ok (.getfield 11, 3) := by decide +kernel
theorem dX4_withOf_12 : decode cX4_withOf 12 = .ok (.iload_n 1, 1) := by decide +kernel
theorem dX4_withOf_13 : decode cX4_withOf 13 = .ok (.iaload, 1) := by decide +kernel
theorem dX4_withOf_14 : decode cX4_withOf 14 = .ok (.goto 4, 3) := by decide +kernel
theorem dX4_withOf_17 : decode cX4_withOf 17 = .ok (.iconst 0, 1) := by decide +kernel
theorem dX4_withOf_18 : decode cX4_withOf 18 = .ok (.ireturn, 1) := by decide +kernel
theorem dX4_withoutOf_0 : decode cX4_withoutOf 0 = .ok (.aload_n 0, 1) := by decide +kernel
theorem dX4_withoutOf_1 : decode cX4_withoutOf 1 = .ok (.iload_n 1, 1) := by decide +kernel
theorem dX4_withoutOf_2 : decode cX4_withoutOf 2 = .ok (.invokevirtual 25, 3) := by decide +kernel
theorem dX4_withoutOf_5 : decode cX4_withoutOf 5 = .ok (.ifCond .eq 12, 3) := by decide +kernel
theorem dX4_withoutOf_8 : decode cX4_withoutOf 8 = .ok (.aload_n 0, 1) := by decide +kernel
theorem dX4_withoutOf_9 : decode cX4_withoutOf 9 = .ok (.getfield 15, 3) := by decide +kernel
theorem dX4_withoutOf_12 : decode cX4_withoutOf 12 = .ok (.iload_n 1, 1) := by decide +kernel
theorem dX4_withoutOf_13 : decode cX4_withoutOf 13 = .ok (.iaload, 1) := by decide +kernel
theorem dX4_withoutOf_14 : decode cX4_withoutOf 14 = .ok (.goto 4, 3) := by decide +kernel
theorem dX4_withoutOf_17 : decode cX4_withoutOf 17 = .ok (.iconst 0, 1) := by decide +kernel
theorem dX4_withoutOf_18 : decode cX4_withoutOf 18 = .ok (.ireturn, 1) := by decide +kernel
theorem dX4_howOf_0 : decode cX4_howOf 0 = .ok (.aload_n 0, 1) := by decide +kernel
theorem dX4_howOf_1 : decode cX4_howOf 1 = .ok (.iload_n 1, 1) := by decide +kernel
theorem dX4_howOf_2 : decode cX4_howOf 2 = .ok (.invokevirtual 25, 3) := by decide +kernel
theorem dX4_howOf_5 : decode cX4_howOf 5 = .ok (.ifCond .eq 12, 3) := by decide +kernel
theorem dX4_howOf_8 : decode cX4_howOf 8 = .ok (.aload_n 0, 1) := by decide +kernel
theorem dX4_howOf_9 : decode cX4_howOf 9 = .ok (.getfield 18, 3) := by decide +kernel
theorem dX4_howOf_12 : decode cX4_howOf 12 = .ok (.iload_n 1, 1) := by decide +kernel
theorem dX4_howOf_13 : decode cX4_howOf 13 = .ok (.iaload, 1) := by decide +kernel
theorem dX4_howOf_14 : decode cX4_howOf 14 = .ok (.goto 4, 3) := by decide +kernel
theorem dX4_howOf_17 : decode cX4_howOf 17 = .ok (.iconst 0, 1) := by decide +kernel
theorem dX4_howOf_18 : decode cX4_howOf 18 = .ok (.ireturn, 1) := by decide +kernel
theorem dX4_putHow_0 : decode cX4_putHow 0 = .ok (.aload_n 0, 1) := by decide +kernel
theorem dX4_putHow_1 : decode cX4_putHow 1 = .ok (.iload_n 1, 1) := by decide +kernel
theorem dX4_putHow_2 : decode cX4_putHow 2 = .ok (.invokevirtual 25, 3) := by decide +kernel
theorem dX4_putHow_5 : decode cX4_putHow 5 = .ok (.ifCond .eq 10, 3) := by decide +kernel
theorem dX4_putHow_8 : decode cX4_putHow 8 = .ok (.aload_n 0, 1) := by decide +kernel
theorem dX4_putHow_9 : decode cX4_putHow 9 = .ok (.getfield 18, 3) := by decide +kernel
theorem dX4_putHow_12 : decode cX4_putHow 12 = .ok (.iload_n 1, 1) := by decide +kernel
theorem dX4_putHow_13 : decode cX4_putHow 13 = .ok (.iload_n 2, 1) := by decide +kernel
theorem dX4_putHow_14 : decode cX4_putHow 14 = .ok (.iastore, 1) := by decide +kernel
theorem dX4_putHow_15 : decode cX4_putHow 15 = .ok (.return_, 1) := by decide +kernel
theorem dX4_oddsIfThereIsOne_0 : decode cX4_oddsIfThereIsOne 0 = .ok (.lconst 1, 1) := by decide +kernel
theorem dX4_oddsIfThereIsOne_1 : decode cX4_oddsIfThereIsOne 1 = .ok (.lstore_n 2, 1) := by decide +kernel
theorem dX4_oddsIfThereIsOne_2 : decode cX4_oddsIfThereIsOne 2 = .ok (.iconst 0, 1) := by decide +kernel
theorem dX4_oddsIfThereIsOne_3 : decode cX4_oddsIfThereIsOne 3 = .ok (.istore 4, 2) := by decide +kernel
theorem dX4_oddsIfThereIsOne_5 : decode cX4_oddsIfThereIsOne 5 = .ok (.iload 4, 2) := by decide +kernel
theorem dX4_oddsIfThereIsOne_7 : decode cX4_oddsIfThereIsOne 7 = .ok (.aload_n 0, 1) := by decide +kernel
theorem dX4_oddsIfThereIsOne_8 : decode cX4_oddsIfThereIsOne 8 = .ok (.getfield 21, 3) := by decide +kernel
theorem dX4_oddsIfThereIsOne_11 : decode cX4_oddsIfThereIsOne 11 = .ok (.if_icmp .ge 70, 3) := by decide +kernel
theorem dX4_oddsIfThereIsOne_14 : decode cX4_oddsIfThereIsOne 14 = .ok (.aload_n 0, 1) := by decide +kernel
theorem dX4_oddsIfThereIsOne_15 : decode cX4_oddsIfThereIsOne 15 = .ok (.getfield 18, 3) := by decide +kernel
theorem dX4_oddsIfThereIsOne_18 : decode cX4_oddsIfThereIsOne 18 = .ok (.iload 4, 2) := by decide +kernel
theorem dX4_oddsIfThereIsOne_20 : decode cX4_oddsIfThereIsOne 20 = .ok (.iaload, 1) := by decide +kernel
theorem dX4_oddsIfThereIsOne_21 : decode cX4_oddsIfThereIsOne 21 = .ok (.iconst 1, 1) := by decide +kernel
theorem dX4_oddsIfThereIsOne_22 : decode cX4_oddsIfThereIsOne 22 = .ok (.if_icmp .ne 28, 3) := by decide +kernel
theorem dX4_oddsIfThereIsOne_25 : decode cX4_oddsIfThereIsOne 25 = .ok (.lload_n 2, 1) := by decide +kernel
theorem dX4_oddsIfThereIsOne_26 : decode cX4_oddsIfThereIsOne 26 = .ok (.aload_n 0, 1) := by decide +kernel
theorem dX4_oddsIfThereIsOne_27 : decode cX4_oddsIfThereIsOne 27 = .ok (.getfield 11, 3) := by decide +kernel
theorem dX4_oddsIfThereIsOne_30 : decode cX4_oddsIfThereIsOne 30 = .ok (.iload 4, 2) := by decide +kernel
theorem dX4_oddsIfThereIsOne_32 : decode cX4_oddsIfThereIsOne 32 = .ok (.iaload, 1) := by decide +kernel
theorem dX4_oddsIfThereIsOne_33 : decode cX4_oddsIfThereIsOne 33 = .ok (.aload_n 0, 1) := by decide +kernel
theorem dX4_oddsIfThereIsOne_34 : decode cX4_oddsIfThereIsOne 34 = .ok (.getfield 15, 3) := by decide +kernel
theorem dX4_oddsIfThereIsOne_37 : decode cX4_oddsIfThereIsOne 37 = .ok (.iload 4, 2) := by decide +kernel
theorem dX4_oddsIfThereIsOne_39 : decode cX4_oddsIfThereIsOne 39 = .ok (.iaload, 1) := by decide +kernel
theorem dX4_oddsIfThereIsOne_40 : decode cX4_oddsIfThereIsOne 40 = .ok (.iload_n 1, 1) := by decide +kernel
theorem dX4_oddsIfThereIsOne_41 : decode cX4_oddsIfThereIsOne 41 = .ok (.invokestatic 29, 3) := by decide +kernel
theorem dX4_oddsIfThereIsOne_44 : decode cX4_oddsIfThereIsOne 44 = .ok (.i2l, 1) := by decide +kernel
theorem dX4_oddsIfThereIsOne_45 : decode cX4_oddsIfThereIsOne 45 = .ok (.lmul, 1) := by decide +kernel
theorem dX4_oddsIfThereIsOne_46 : decode cX4_oddsIfThereIsOne 46 = .ok (.lstore_n 2, 1) := by decide +kernel
theorem dX4_oddsIfThereIsOne_47 : decode cX4_oddsIfThereIsOne 47 = .ok (.goto 28, 3) := by decide +kernel
theorem dX4_oddsIfThereIsOne_50 : decode cX4_oddsIfThereIsOne 50 = .ok (.aload_n 0, 1) := by decide +kernel
