theorem dX0_init_0 : decode cX0_init 0 = .ok (.aload_n 0, 1) := by decide +kernel
theorem dX0_init_1 : decode cX0_init 1 = .ok (.invokespecial 3, 3) := by decide +kernel
theorem dX0_init_4 : decode cX0_init 4 = .ok (.aload_n 0, 1) := by decide +kernel
theorem dX0_init_5 : decode cX0_init 5 = .ok (.bipush 50, 2) := by decide +kernel
theorem dX0_init_7 : decode cX0_init 7 = .ok (.newarray .int, 2) := by decide +kernel
theorem dX0_init_9 : decode cX0_init 9 = .ok (.putfield 9, 3) := by decide +kernel
theorem dX0_init_12 : decode cX0_init 12 = .ok (.aload_n 0, 1) := by decide +kernel
theorem dX0_init_13 : decode cX0_init 13 = .ok (.bipush 24, 2) := by decide +kernel
theorem dX0_init_15 : decode cX0_init 15 = .ok (.newarray .int, 2) := by decide +kernel
theorem dX0_init_17 : decode cX0_init 17 = .ok (.putfield 15, 3) := by decide +kernel
theorem dX0_init_20 : decode cX0_init 20 = .ok (.aload_n 0, 1) := by decide +kernel
theorem dX0_init_21 : decode cX0_init 21 = .ok (.iconst 0, 1) := by decide +kernel
theorem dX0_init_22 : decode cX0_init 22 = .ok (.putfield 18, 3) := by decide +kernel
theorem dX0_init_25 : decode cX0_init 25 = .ok (.aload_n 0, 1) := by decide +kernel
theorem dX0_init_26 : decode cX0_init 26 = .ok (.iconst 0, 1) := by decide +kernel
theorem dX0_init_27 : decode cX0_init 27 = .ok (.putfield 22, 3) := by decide +kernel
theorem dX0_init_30 : decode cX0_init 30 = .ok (.aload_n 0, 1) := by decide +kernel
theorem dX0_init_31 : decode cX0_init 31 = .ok (.iconst 0, 1) := by decide +kernel
theorem dX0_init_32 : decode cX0_init 32 = .ok (.putfield 25, 3) := by decide +kernel
theorem dX0_init_35 : decode cX0_init 35 = .ok (.return_, 1) := by decide +kernel
theorem dX0_size_0 : decode cX0_size 0 = .ok (.aload_n 0, 1) := by decide +kernel
theorem dX0_size_1 : decode cX0_size 1 = .ok (.getfield 18, 3) := by decide +kernel
theorem dX0_size_4 : decode cX0_size 4 = .ok (.ireturn, 1) := by decide +kernel
theorem dX0_ran_0 : decode cX0_ran 0 = .ok (.aload_n 0, 1) := by decide +kernel
theorem dX0_ran_1 : decode cX0_ran 1 = .ok (.getfield 22, 3) := by decide +kernel
theorem dX0_ran_4 : decode cX0_ran 4 = .ok (.ireturn, 1) := by decide +kernel
theorem dX0_has_0 : decode cX0_has 0 = .ok (.iload_n 1, 1) := by decide +kernel
theorem dX0_has_1 : decode cX0_has 1 = .ok (.ifCond .lt 21, 3) := by decide +kernel
theorem dX0_has_4 : decode cX0_has 4 = .ok (.iload_n 1, 1) := by decide +kernel
theorem dX0_has_5 : decode cX0_has 5 = .ok (.aload_n 0, 1) := by decide +kernel
theorem dX0_has_6 : decode cX0_has 6 = .ok (.getfield 18, 3) := by decide +kernel
theorem dX0_has_9 : decode cX0_has 9 = .ok (.if_icmp .ge 13, 3) := by decide +kernel
theorem dX0_has_12 : decode cX0_has 12 = .ok (.iload_n 1, 1) := by decide +kernel
theorem dX0_has_13 : decode cX0_has 13 = .ok (.bipush 50, 2) := by decide +kernel
theorem dX0_has_15 : decode cX0_has 15 = .ok (.if_icmp .ge 7, 3) := by decide +kernel
theorem dX0_has_18 : decode cX0_has 18 = .ok (.iconst 1, 1) := by decide +kernel
theorem dX0_has_19 : decode cX0_has 19 = .ok (.goto 4, 3) := by decide +kernel
theorem dX0_has_22 : decode cX0_has 22 = .ok (.iconst 0, 1) := by decide +kernel
theorem dX0_has_23 : decode cX0_has 23 = .ok (.ireturn, 1) := by decide +kernel
theorem dX0_add_0 : decode cX0_add 0 = .ok (.aload_n 0, 1) := by decide +kernel
theorem dX0_add_1 : decode cX0_add 1 = .ok (.getfield 18, 3) := by decide +kernel
theorem dX0_add_4 : decode cX0_add 4 = .ok (.bipush 50, 2) := by decide +kernel
theorem dX0_add_6 : decode cX0_add 6 = .ok (.if_icmp .lt 6, 3) := by decide +kernel
theorem dX0_add_9 : decode cX0_add 9 = .ok (.bipush (-3), 2) := by decide +kernel
theorem dX0_add_11 : decode cX0_add 11 = .ok (.ireturn, 1) := by decide +kernel
theorem dX0_add_12 : decode cX0_add 12 = .ok (.aload_n 0, 1) := by decide +kernel
theorem dX0_add_13 : decode cX0_add 13 = .ok (.getfield 9, 3) := by decide +kernel
theorem dX0_add_16 : decode cX0_add 16 = .ok (.aload_n 0, 1) := by decide +kernel
theorem dX0_add_17 : decode cX0_add 17 = .ok (.getfield 18, 3) := by decide +kernel
theorem dX0_add_20 : decode cX0_add 20 = .ok (.iload_n 1, 1) := by decide +kernel
theorem dX0_add_21 : decode cX0_add 21 = .ok (.iastore, 1) := by decide +kernel
theorem dX0_add_22 : decode cX0_add 22 = .ok (.aload_n 0, 1) := by decide +kernel
theorem dX0_add_23 : decode cX0_add 23 = .ok (.dup, 1) := by decide +kernel
theorem dX0_add_24 : decode cX0_add 24 = .ok (.getfield 18, 3) := by decide +kernel
theorem dX0_add_27 : decode cX0_add 27 = .ok (.dup_x1, 1) := by decide +kernel
theorem dX0_add_28 : decode cX0_add 28 = .ok (.iconst 1, 1) := by decide +kernel
theorem dX0_add_29 : decode cX0_add 29 = .ok (.iadd, 1) := by decide +kernel
theorem dX0_add_30 : decode cX0_add 30 = .ok (.putfield 18, 3) := by decide +kernel
theorem dX0_add_33 : decode cX0_add 33 = .ok (.ireturn, 1) := by decide +kernel
theorem dX0_kindOf_0 : decode cX0_kindOf 0 = .ok (.aload_n 0, 1) := by decide +kernel
theorem dX0_kindOf_1 : decode cX0_kindOf 1 = .ok (.iload_n 1, 1) := by decide +kernel
theorem dX0_kindOf_2 : decode cX0_kindOf 2 = .ok (.invokevirtual 28, 3) := by decide +kernel
theorem dX0_kindOf_5 : decode cX0_kindOf 5 = .ok (.ifCond .eq 12, 3) := by decide +kernel
theorem dX0_kindOf_8 : decode cX0_kindOf 8 = .ok (.aload_n 0, 1) := by decide +kernel
theorem dX0_kindOf_9 : decode cX0_kindOf 9 = .ok (.getfield 9, 3) := by decide +kernel
theorem dX0_kindOf_12 : decode cX0_kindOf 12 = .ok (.iload_n 1, 1) := by decide +kernel
theorem dX0_kindOf_13 : decode cX0_kindOf 13 = .ok (.iaload, 1) := by decide +kernel
theorem dX0_kindOf_14 : decode cX0_kindOf 14 = .ok (.goto 5, 3) := by decide +kernel
theorem dX0_kindOf_17 : decode cX0_kindOf 17 = .ok (.bipush (-2), 2) := by decide +kernel
theorem dX0_kindOf_19 : decode cX0_kindOf 19 = .ok (.ireturn, 1) := by decide +kernel
theorem dX0_isUnder_0 : decode cX0_isUnder 0 = .ok (.iload_n 1, 1) := by decide +kernel
theorem dX0_isUnder_1 : decode cX0_isUnder 1 = .ok (.istore_n 3, 1) := by decide +kernel
theorem dX0_isUnder_2 : decode cX0_isUnder 2 = .ok (.iconst 0, 1) := by decide +kernel
theorem dX0_isUnder_3 : decode cX0_isUnder 3 = .ok (.istore 4, 2) := by decide +kernel
theorem dX0_isUnder_5 : decode cX0_isUnder 5 = .ok (.iload 4, 2) := by decide +kernel
theorem dX0_isUnder_7 : decode cX0_isUnder 7 = .ok (.bipush 8, 2) := by decide +kernel
theorem dX0_isUnder_9 : decode cX0_isUnder 9 = .ok (.if_icmp .ge 24, 3) := by decide +kernel
theorem dX0_isUnder_12 : decode cX0_isUnder 12 = .ok (.iload_n 3, 1) := by decide +kernel
theorem dX0_isUnder_13 : decode cX0_isUnder 13 = .ok (.ifCond .lt 20, 3) := by decide +kernel
theorem dX0_isUnder_16 : decode cX0_isUnder 16 = .ok (.iload_n 3, 1) := by decide +kernel
theorem dX0_isUnder_17 : decode cX0_isUnder 17 = .ok (.iload_n 2, 1) := by decide +kernel
theorem dX0_isUnder_18 : decode cX0_isUnder 18 = .ok (.if_icmp .eq 15, 3) := by decide +kernel
theorem dX0_isUnder_21 : decode cX0_isUnder 21 = .ok (.aload_n 0, 1) := by decide +kernel
theorem dX0_isUnder_22 : decode cX0_isUnder 22 = .ok (.iload_n 3, 1) := by decide +kernel
theorem dX0_isUnder_23 : decode cX0_isUnder 23 = .ok (.invokevirtual 32, 3) := by decide +kernel
theorem dX0_isUnder_26 : decode cX0_isUnder 26 = .ok (.istore_n 3, 1) := by decide +kernel
theorem dX0_isUnder_27 : decode cX0_isUnder 27 = .ok (.iinc 4 1, 3) := by decide +kernel
theorem dX0_isUnder_30 : decode cX0_isUnder 30 = .ok (.goto (-25), 3) := by decide +kernel
theorem dX0_isUnder_33 : decode cX0_isUnder 33 = .ok (.iload_n 3, 1) := by decide +kernel
theorem dX0_isUnder_34 : decode cX0_isUnder 34 = .ok (.ifCond .lt 12, 3) := by decide +kernel
theorem dX0_isUnder_37 : decode cX0_isUnder 37 = .ok (.iload_n 3, 1) := by decide +kernel
theorem dX0_isUnder_38 : decode cX0_isUnder 38 = .ok (.iload_n 2, 1) := by decide +kernel
theorem dX0_isUnder_39 : decode cX0_isUnder 39 = .ok (.if_icmp .ne 7, 3) := by decide +kernel
theorem dX0_isUnder_42 : decode cX0_isUnder 42 = .ok (.iconst 1, 1) := by decide +kernel
theorem dX0_isUnder_43 : decode cX0_isUnder 43 = .ok (.goto 4, 3) := by decide +kernel
theorem dX0_isUnder_46 : decode cX0_isUnder 46 = .ok (.iconst 0, 1) := by decide +kernel
theorem dX0_isUnder_47 : decode cX0_isUnder 47 = .ok (.ireturn, 1) := by decide +kernel
theorem dX0_kindAbove_0 : decode cX0_kindAbove 0 = .ok (.iload_n 1, 1) := by decide +kernel
theorem dX0_kindAbove_1 : decode cX0_kindAbove 1 = .ok (.ifCond .lt 19, 3) := by decide +kernel
theorem dX0_kindAbove_4 : decode cX0_kindAbove 4 = .ok (.iload_n 1, 1) := by decide +kernel
theorem dX0_kindAbove_5 : decode cX0_kindAbove 5 = .ok (.getstatic 36, 3) := by decide +kernel
theorem dX0_kindAbove_8 : decode cX0_kindAbove 8 = .ok (.arraylength, 1) := by decide +kernel
theorem dX0_kindAbove_9 : decode cX0_kindAbove 9 = .ok (.if_icmp .ge 11, 3) := by decide +kernel
theorem dX0_kindAbove_12 : decode cX0_kindAbove 12 = .ok (.getstatic 36, 3) := by decide +kernel
theorem dX0_kindAbove_15 : decode cX0_kindAbove 15 = .ok (.iload_n 1, 1) := by decide +kernel
theorem dX0_kindAbove_16 : decode cX0_kindAbove 16 = .ok (.iaload, 1) := by decide +kernel
theorem dX0_kindAbove_17 : decode cX0_kindAbove 17 = .ok (.goto 5, 3) := by decide +kernel
theorem dX0_kindAbove_20 : decode cX0_kindAbove 20 = .ok (.bipush (-2), 2) := by decide +kernel
theorem dX0_kindAbove_22 : decode cX0_kindAbove 22 = .ok (.ireturn, 1) := by decide +kernel
theorem dX0_traced_0 : decode cX0_traced 0 = .ok (.iload_n 1, 1) := by decide +kernel
theorem dX0_traced_1 : decode cX0_traced 1 = .ok (.ifCond .lt 26, 3) := by decide +kernel
theorem dX0_traced_4 : decode cX0_traced 4 = .ok (.iload_n 1, 1) := by decide +kernel
theorem dX0_traced_5 : decode cX0_traced 5 = .ok (.aload_n 0, 1) := by decide +kernel
theorem dX0_traced_6 : decode cX0_traced 6 = .ok (.getfield 22, 3) := by decide +kernel
theorem dX0_traced_9 : decode cX0_traced 9 = .ok (.if_icmp .ge 18, 3) := by decide +kernel
theorem dX0_traced_12 : decode cX0_traced 12 = .ok (.iload_n 1, 1) := by decide +kernel
theorem dX0_traced_13 : decode cX0_traced 13 = .ok (.bipush 24, 2) := by decide +kernel
theorem dX0_traced_15 : decode cX0_traced 15 = .ok (.if_icmp .ge 12, 3) := by decide +kernel
theorem dX0_traced_18 : decode cX0_traced 18 = .ok (.aload_n 0, 1) := by decide +kernel
theorem dX0_traced_19 : decode cX0_traced 19 = .ok (.getfield 15, 3) := by decide +kernel
theorem dX0_traced_22 : decode cX0_traced 22 = .ok (.iload_n 1, 1) := by decide +kernel
theorem dX0_traced_23 : decode cX0_traced 23 = .ok (.iaload, 1) := by decide +kernel
theorem dX0_traced_24 : decode cX0_traced 24 = .ok (.goto 4, 3) := by decide +kernel
theorem dX0_traced_27 : decode cX0_traced 27 = .ok (.iconst (-1), 1) := by decide +kernel
theorem dX0_traced_28 : decode cX0_traced 28 = .ok (.ireturn, 1) := by decide +kernel
theorem dX0_play_0 : decode cX0_play 0 = .ok (.aload_n 0, 1) := by decide +kernel
theorem dX0_play_1 : decode cX0_play 1 = .ok (.iconst 0, 1) := by decide +kernel
theorem dX0_play_2 : decode cX0_play 2 = .ok (.putfield 22, 3) := by decide +kernel
theorem dX0_play_5 : decode cX0_play 5 = .ok (.aload_n 0, 1) := by decide +kernel
theorem dX0_play_6 : decode cX0_play 6 = .ok (.iload_n 1, 1) := by decide +kernel
theorem dX0_play_7 : decode cX0_play 7 = .ok (.invokevirtual 28, 3) := by decide +kernel
theorem dX0_play_10 : decode cX0_play 10 = .ok (.ifCond .eq 12, 3) := by decide +kernel
theorem dX0_play_13 : decode cX0_play 13 = .ok (.iload_n 2, 1) := by decide +kernel
theorem dX0_play_14 : decode cX0_play 14 = .ok (.ifCond .lt 8, 3) := by decide +kernel
theorem dX0_play_17 : decode cX0_play 17 = .ok (.iload_n 2, 1) := by decide +kernel
theorem dX0_play_18 : decode cX0_play 18 = .ok (.iconst 4, 1) := by decide +kernel
theorem dX0_play_19 : decode cX0_play 19 = .ok (.if_icmp .lt 5, 3) := by decide +kernel
theorem dX0_play_22 : decode cX0_play 22 = .ok (.iconst 0, 1) := by decide +kernel
theorem dX0_play_23 : decode cX0_play 23 = .ok (.ireturn, 1) := by decide +kernel
theorem dX0_play_24 : decode cX0_play 24 = .ok (.aload_n 0, 1) := by decide +kernel
theorem dX0_play_25 : decode cX0_play 25 = .ok (.iload_n 1, 1) := by decide +kernel
theorem dX0_play_26 : decode cX0_play 26 = .ok (.putfield 25, 3) := by decide +kernel
theorem dX0_play_29 : decode cX0_play 29 = .ok (.aload_n 0, 1) := by decide +kernel
theorem dX0_play_30 : decode cX0_play 30 = .ok (.iload_n 2, 1) := by decide +kernel
theorem dX0_play_31 : decode cX0_play 31 = .ok (.aload_n 0, 1) := by decide +kernel
theorem dX0_play_32 : decode cX0_play 32 = .ok (.iload_n 1, 1) := by decide +kernel
theorem dX0_play_33 : decode cX0_play 33 = .ok (.invokevirtual 39, 3) := by decide +kernel
theorem dX0_play_36 : decode cX0_play 36 = .ok (.iload_n 3, 1) := by decide +kernel
theorem dX0_play_37 : decode cX0_play 37 = .ok (.iconst 0, 1) := by decide +kernel
theorem dX0_play_38 : decode cX0_play 38 = .ok (.invokevirtual 42, 3) := by decide +kernel
theorem dX0_play_41 : decode cX0_play 41 = .ok (.ireturn, 1) := by decide +kernel
theorem dX0_own_0 : decode cX0_own 0 = .ok (.aload_n 0, 1) := by decide +kernel
theorem dX0_own_1 : decode cX0_own 1 = .ok (.iload_n 1, 1) := by decide +kernel
theorem dX0_own_2 : decode cX0_own 2 = .ok (.aload_n 0, 1) := by decide +kernel
theorem dX0_own_3 : decode cX0_own 3 = .ok (.aload_n 0, 1) := by decide +kernel
theorem dX0_own_4 : decode cX0_own 4 = .ok (.getfield 25, 3) := by decide +kernel
theorem dX0_own_7 : decode cX0_own 7 = .ok (.invokevirtual 39, 3) := by decide +kernel
theorem dX0_own_10 : decode cX0_own 10 = .ok (.iload_n 2, 1) := by decide +kernel
theorem dX0_own_11 : decode cX0_own 11 = .ok (.iload_n 3, 1) := by decide +kernel
theorem dX0_own_12 : decode cX0_own 12 = .ok (.iconst 1, 1) := by decide +kernel
theorem dX0_own_13 : decode cX0_own 13 = .ok (.iadd, 1) := by decide +kernel
theorem dX0_own_14 : decode cX0_own 14 = .ok (.invokevirtual 42, 3) := by decide +kernel
theorem dX0_own_17 : decode cX0_own 17 = .ok (.ireturn, 1) := by decide +kernel
theorem dX0_upper_0 : decode cX0_upper 0 = .ok (.aload_n 0, 1) := by decide +kernel
theorem dX0_upper_1 : decode cX0_upper 1 = .ok (.iload_n 1, 1) := by decide +kernel
theorem dX0_upper_2 : decode cX0_upper 2 = .ok (.aload_n 0, 1) := by decide +kernel
theorem dX0_upper_3 : decode cX0_upper 3 = .ok (.iload_n 2, 1) := by decide +kernel
theorem dX0_upper_4 : decode cX0_upper 4 = .ok (.invokevirtual 32, 3) := by decide +kernel
theorem dX0_upper_7 : decode cX0_upper 7 = .ok (.iload_n 3, 1) := by decide +kernel
theorem dX0_upper_8 : decode cX0_upper 8 = .ok (.iload 4, 2) := by decide +kernel
theorem dX0_upper_10 : decode cX0_upper 10 = .ok (.iconst 1, 1) := by decide +kernel
theorem dX0_upper_11 : decode cX0_upper 11 = .ok (.iadd, 1) := by decide +kernel
theorem dX0_upper_12 : decode cX0_upper 12 = .ok (.invokevirtual 42, 3) := by decide +kernel
theorem dX0_upper_15 : decode cX0_upper 15 = .ok (.ireturn, 1) := by decide +kernel
theorem dX0_run_0 : decode cX0_run 0 = .ok (.iload_n 2, 1) := by decide +kernel
theorem dX0_run_1 : decode cX0_run 1 = .ok (.istore 5, 2) := by decide +kernel
theorem dX0_run_3 : decode cX0_run 3 = .ok (.iconst 0, 1) := by decide +kernel
theorem dX0_run_4 : decode cX0_run 4 = .ok (.istore 6, 2) := by decide +kernel
theorem dX0_run_6 : decode cX0_run 6 = .ok (.iload 6, 2) := by decide +kernel
theorem dX0_run_8 : decode cX0_run 8 = .ok (.bipush 8, 2) := by decide +kernel
theorem dX0_run_10 : decode cX0_run 10 = .ok (.if_icmp .ge 32, 3) := by decide +kernel
theorem dX0_run_13 : decode cX0_run 13 = .ok (.iload 5, 2) := by decide +kernel
theorem dX0_run_15 : decode cX0_run 15 = .ok (.ifCond .le 27, 3) := by decide +kernel
theorem dX0_run_18 : decode cX0_run 18 = .ok (.aload_n 0, 1) := by decide +kernel
theorem dX0_run_19 : decode cX0_run 19 = .ok (.iload_n 1, 1) := by decide +kernel
theorem dX0_run_20 : decode cX0_run 20 = .ok (.iload 5, 2) := by decide +kernel
theorem dX0_run_22 : decode cX0_run 22 = .ok (.invokevirtual 46, 3) := by decide +kernel
theorem dX0_run_25 : decode cX0_run 25 = .ok (.ifCond .ne 17, 3) := by decide +kernel
theorem dX0_run_28 : decode cX0_run 28 = .ok (.aload_n 0, 1) := by decide +kernel
theorem dX0_run_29 : decode cX0_run 29 = .ok (.iload 5, 2) := by decide +kernel
theorem dX0_run_31 : decode cX0_run 31 = .ok (.invokevirtual 32, 3) := by decide +kernel
theorem dX0_run_34 : decode cX0_run 34 = .ok (.istore 5, 2) := by decide +kernel
theorem dX0_run_36 : decode cX0_run 36 = .ok (.iinc 6 1, 3) := by decide +kernel
theorem dX0_run_39 : decode cX0_run 39 = .ok (.goto (-33), 3) := by decide +kernel
theorem dX0_run_42 : decode cX0_run 42 = .ok (.iload 4, 2) := by decide +kernel
theorem dX0_run_44 : decode cX0_run 44 = .ok (.bipush 40, 2) := by decide +kernel
theorem dX0_run_46 : decode cX0_run 46 = .ok (.if_icmp .le 5, 3) := by decide +kernel
theorem dX0_run_49 : decode cX0_run 49 = .ok (.iconst 0, 1) := by decide +kernel
theorem dX0_run_50 : decode cX0_run 50 = .ok (.ireturn, 1) := by decide +kernel
theorem dX0_run_51 : decode cX0_run 51 = .ok (.aload_n 0, 1) := by decide +kernel
theorem dX0_run_52 : decode cX0_run 52 = .ok (.iload_n 1, 1) := by decide +kernel
theorem dX0_run_53 : decode cX0_run 53 = .ok (.iload 5, 2) := by decide +kernel
theorem dX0_run_55 : decode cX0_run 55 = .ok (.invokevirtual 46, 3) := by decide +kernel
theorem dX0_run_58 : decode cX0_run 58 = .ok (.istore 6, 2) := by decide +kernel
theorem dX0_run_60 : decode cX0_run 60 = .ok (.aload_n 0, 1) := by decide +kernel
theorem dX0_run_61 : decode cX0_run 61 = .ok (.iload 6, 2) := by decide +kernel
theorem dX0_run_63 : decode cX0_run 63 = .ok (.invokevirtual 50, 3) := by decide +kernel
theorem dX0_run_66 : decode cX0_run 66 = .ok (.iload_n 1, 1) := by decide +kernel
theorem dX0_run_67 : decode cX0_run 67 = .ok (.tableswitch 61 0 2 #[25, 37, 49], 25) := by decide +kernel
theorem dX0_run_92 : decode cX0_run 92 = .ok (.aload_n 0, 1) := by decide +kernel
theorem dX0_run_93 : decode cX0_run 93 = .ok (.iload 6, 2) := by decide +kernel
theorem dX0_run_95 : decode cX0_run 95 = .ok (.iload 5, 2) := by decide +kernel
theorem dX0_run_97 : decode cX0_run 97 = .ok (.iload_n 3, 1) := by decide +kernel
theorem dX0_run_98 : decode cX0_run 98 = .ok (.iload 4, 2) := by decide +kernel
theorem dX0_run_100 : decode cX0_run 100 = .ok (.invokevirtual 54, 3) := by decide +kernel
theorem dX0_run_103 : decode cX0_run 103 = .ok (.ireturn, 1) := by decide +kernel
theorem dX0_run_104 : decode cX0_run 104 = .ok (.aload_n 0, 1) := by decide +kernel
theorem dX0_run_105 : decode cX0_run 105 = .ok (.iload 6, 2) := by decide +kernel
theorem dX0_run_107 : decode cX0_run 107 = .ok (.iload 5, 2) := by decide +kernel
theorem dX0_run_109 : decode cX0_run 109 = .ok (.iload_n 3, 1) := by decide +kernel
theorem dX0_run_110 : decode cX0_run 110 = .ok (.iload 4, 2) := by decide +kernel
theorem dX0_run_112 : decode cX0_run 112 = .ok (.invokevirtual 57, 3) := by decide +kernel
theorem dX0_run_115 : decode cX0_run 115 = .ok (.ireturn, 1) := by decide +kernel
theorem dX0_run_116 : decode cX0_run 116 = .ok (.aload_n 0, 1) := by decide +kernel
theorem dX0_run_117 : decode cX0_run 117 = .ok (.iload 6, 2) := by decide +kernel
theorem dX0_run_119 : decode cX0_run 119 = .ok (.iload 5, 2) := by decide +kernel
theorem dX0_run_121 : decode cX0_run 121 = .ok (.iload_n 3, 1) := by decide +kernel
theorem dX0_run_122 : decode cX0_run 122 = .ok (.iload 4, 2) := by decide +kernel
theorem dX0_run_124 : decode cX0_run 124 = .ok (.invokevirtual 60, 3) := by decide +kernel
theorem dX0_run_127 : decode cX0_run 127 = .ok (.ireturn, 1) := by decide +kernel
theorem dX0_run_128 : decode cX0_run 128 = .ok (.aload_n 0, 1) := by decide +kernel
theorem dX0_run_129 : decode cX0_run 129 = .ok (.iload 6, 2) := by decide +kernel
theorem dX0_run_131 : decode cX0_run 131 = .ok (.iload 5, 2) := by decide +kernel
theorem dX0_run_133 : decode cX0_run 133 = .ok (.iload_n 3, 1) := by decide +kernel
theorem dX0_run_134 : decode cX0_run 134 = .ok (.iload 4, 2) := by decide +kernel
theorem dX0_run_136 : decode cX0_run 136 = .ok (.invokevirtual 63, 3) := by decide +kernel
theorem dX0_run_139 : decode cX0_run 139 = .ok (.ireturn, 1) := by decide +kernel
theorem dX0_bodyAt_0 : decode cX0_bodyAt 0 = .ok (.iload_n 1, 1) := by decide +kernel
theorem dX0_bodyAt_1 : decode cX0_bodyAt 1 = .ok (.bipush 8, 2) := by decide +kernel
theorem dX0_bodyAt_3 : decode cX0_bodyAt 3 = .ok (.imul, 1) := by decide +kernel
theorem dX0_bodyAt_4 : decode cX0_bodyAt 4 = .ok (.iload_n 2, 1) := by decide +kernel
theorem dX0_bodyAt_5 : decode cX0_bodyAt 5 = .ok (.iadd, 1) := by decide +kernel
theorem dX0_bodyAt_6 : decode cX0_bodyAt 6 = .ok (.istore_n 3, 1) := by decide +kernel
theorem dX0_bodyAt_7 : decode cX0_bodyAt 7 = .ok (.iload_n 2, 1) := by decide +kernel
theorem dX0_bodyAt_8 : decode cX0_bodyAt 8 = .ok (.ifCond .lt 23, 3) := by decide +kernel
theorem dX0_bodyAt_11 : decode cX0_bodyAt 11 = .ok (.iload_n 3, 1) := by decide +kernel
theorem dX0_bodyAt_12 : decode cX0_bodyAt 12 = .ok (.ifCond .lt 19, 3) := by decide +kernel
theorem dX0_bodyAt_15 : decode cX0_bodyAt 15 = .ok (.iload_n 3, 1) := by decide +kernel
theorem dX0_bodyAt_16 : decode cX0_bodyAt 16 = .ok (.getstatic 66, 3) := by decide +kernel
theorem dX0_bodyAt_19 : decode cX0_bodyAt 19 = .ok (.arraylength, 1) := by decide +kernel
theorem dX0_bodyAt_20 : decode cX0_bodyAt 20 = .ok (.if_icmp .ge 11, 3) := by decide +kernel
theorem dX0_bodyAt_23 : decode cX0_bodyAt 23 = .ok (.getstatic 66, 3) := by decide +kernel
theorem dX0_bodyAt_26 : decode cX0_bodyAt 26 = .ok (.iload_n 3, 1) := by decide +kernel
theorem dX0_bodyAt_27 : decode cX0_bodyAt 27 = .ok (.iaload, 1) := by decide +kernel
theorem dX0_bodyAt_28 : decode cX0_bodyAt 28 = .ok (.goto 4, 3) := by decide +kernel
theorem dX0_bodyAt_31 : decode cX0_bodyAt 31 = .ok (.iconst 0, 1) := by decide +kernel
theorem dX0_bodyAt_32 : decode cX0_bodyAt 32 = .ok (.ireturn, 1) := by decide +kernel
theorem dX0_note_0 : decode cX0_note 0 = .ok (.aload_n 0, 1) := by decide +kernel
theorem dX0_note_1 : decode cX0_note 1 = .ok (.getfield 22, 3) := by decide +kernel
theorem dX0_note_4 : decode cX0_note 4 = .ok (.bipush 24, 2) := by decide +kernel
theorem dX0_note_6 : decode cX0_note 6 = .ok (.if_icmp .ge 13, 3) := by decide +kernel
theorem dX0_note_9 : decode cX0_note 9 = .ok (.aload_n 0, 1) := by decide +kernel
theorem dX0_note_10 : decode cX0_note 10 = .ok (.getfield 15, 3) := by decide +kernel
theorem dX0_note_13 : decode cX0_note 13 = .ok (.aload_n 0, 1) := by decide +kernel
theorem dX0_note_14 : decode cX0_note 14 = .ok (.getfield 22, 3) := by decide +kernel
theorem dX0_note_17 : decode cX0_note 17 = .ok (.iload_n 1, 1) := by decide +kernel
theorem dX0_note_18 : decode cX0_note 18 = .ok (.iastore, 1) := by decide +kernel
theorem dX0_note_19 : decode cX0_note 19 = .ok (.aload_n 0, 1) := by decide +kernel
theorem dX0_note_20 : decode cX0_note 20 = .ok (.dup, 1) := by decide +kernel
theorem dX0_note_21 : decode cX0_note 21 = .ok (.getfield 22, 3) := by decide +kernel
theorem dX0_note_24 : decode cX0_note 24 = .ok (.iconst 1, 1) := by decide +kernel
theorem dX0_note_25 : decode cX0_note 25 = .ok (.iadd, 1) := by decide +kernel
theorem dX0_note_26 : decode cX0_note 26 = .ok (.putfield 22, 3) := by decide +kernel
theorem dX0_note_29 : decode cX0_note 29 = .ok (.return_, 1) := by decide +kernel
theorem dX0_begin_0 : decode cX0_begin 0 = .ok (.iload_n 1, 1) := by decide +kernel
theorem dX0_begin_1 : decode cX0_begin 1 = .ok (.lookupswitch 66 #[(1, 35), (20, 42), (70, 54)], 35) := by decide +kernel
theorem dX0_begin_36 : decode cX0_begin 36 = .ok (.iload_n 3, 1) := by decide +kernel
theorem dX0_begin_37 : decode cX0_begin 37 = .ok (.aload_n 0, 1) := by decide +kernel
theorem dX0_begin_38 : decode cX0_begin 38 = .ok (.getfield 25, 3) := by decide +kernel
theorem dX0_begin_41 : decode cX0_begin 41 = .ok (.iadd, 1) := by decide +kernel
theorem dX0_begin_42 : decode cX0_begin 42 = .ok (.ireturn, 1) := by decide +kernel
theorem dX0_begin_43 : decode cX0_begin 43 = .ok (.aload_n 0, 1) := by decide +kernel
theorem dX0_begin_44 : decode cX0_begin 44 = .ok (.iconst 0, 1) := by decide +kernel
theorem dX0_begin_45 : decode cX0_begin 45 = .ok (.iload_n 2, 1) := by decide +kernel
theorem dX0_begin_46 : decode cX0_begin 46 = .ok (.iload_n 3, 1) := by decide +kernel
theorem dX0_begin_47 : decode cX0_begin 47 = .ok (.iload 4, 2) := by decide +kernel
theorem dX0_begin_49 : decode cX0_begin 49 = .ok (.invokevirtual 69, 3) := by decide +kernel
theorem dX0_begin_52 : decode cX0_begin 52 = .ok (.iconst 3, 1) := by decide +kernel
theorem dX0_begin_53 : decode cX0_begin 53 = .ok (.iadd, 1) := by decide +kernel
theorem dX0_begin_54 : decode cX0_begin 54 = .ok (.ireturn, 1) := by decide +kernel
theorem dX0_begin_55 : decode cX0_begin 55 = .ok (.aload_n 0, 1) := by decide +kernel
theorem dX0_begin_56 : decode cX0_begin 56 = .ok (.iconst 0, 1) := by decide +kernel
theorem dX0_begin_57 : decode cX0_begin 57 = .ok (.iload_n 2, 1) := by decide +kernel
theorem dX0_begin_58 : decode cX0_begin 58 = .ok (.iload_n 3, 1) := by decide +kernel
theorem dX0_begin_59 : decode cX0_begin 59 = .ok (.iload 4, 2) := by decide +kernel
theorem dX0_begin_61 : decode cX0_begin 61 = .ok (.invokevirtual 69, 3) := by decide +kernel
theorem dX0_begin_64 : decode cX0_begin 64 = .ok (.iconst 2, 1) := by decide +kernel
theorem dX0_begin_65 : decode cX0_begin 65 = .ok (.imul, 1) := by decide +kernel
theorem dX0_begin_66 : decode cX0_begin 66 = .ok (.ireturn, 1) := by decide +kernel
theorem dX0_begin_67 : decode cX0_begin 67 = .ok (.iconst 0, 1) := by decide +kernel
theorem dX0_begin_68 : decode cX0_begin 68 = .ok (.ireturn, 1) := by decide +kernel
theorem dX0_last_0 : decode cX0_last 0 = .ok (.iload_n 1, 1) := by decide +kernel
theorem dX0_last_1 : decode cX0_last 1 = .ok (.lookupswitch 96 #[(10, 43), (30, 54), (41, 65), (80, 77)], 43) := by decide +kernel
theorem dX0_last_44 : decode cX0_last 44 = .ok (.aload_n 0, 1) := by decide +kernel
theorem dX0_last_45 : decode cX0_last 45 = .ok (.iconst 0, 1) := by decide +kernel
theorem dX0_last_46 : decode cX0_last 46 = .ok (.iload_n 3, 1) := by decide +kernel
theorem dX0_last_47 : decode cX0_last 47 = .ok (.iload 4, 2) := by decide +kernel
theorem dX0_last_49 : decode cX0_last 49 = .ok (.invokevirtual 72, 3) := by decide +kernel
theorem dX0_last_52 : decode cX0_last 52 = .ok (.iconst 2, 1) := by decide +kernel
theorem dX0_last_53 : decode cX0_last 53 = .ok (.imul, 1) := by decide +kernel
theorem dX0_last_54 : decode cX0_last 54 = .ok (.ireturn, 1) := by decide +kernel
theorem dX0_last_55 : decode cX0_last 55 = .ok (.aload_n 0, 1) := by decide +kernel
theorem dX0_last_56 : decode cX0_last 56 = .ok (.iconst 1, 1) := by decide +kernel
theorem dX0_last_57 : decode cX0_last 57 = .ok (.iload_n 2, 1) := by decide +kernel
theorem dX0_last_58 : decode cX0_last 58 = .ok (.iload_n 3, 1) := by decide +kernel
theorem dX0_last_59 : decode cX0_last 59 = .ok (.iload 4, 2) := by decide +kernel
theorem dX0_last_61 : decode cX0_last 61 = .ok (.invokevirtual 69, 3) := by decide +kernel
theorem dX0_last_64 : decode cX0_last 64 = .ok (.ineg, 1) := by decide +kernel
theorem dX0_last_65 : decode cX0_last 65 = .ok (.ireturn, 1) := by decide +kernel
theorem dX0_last_66 : decode cX0_last 66 = .ok (.aload_n 0, 1) := by decide +kernel
theorem dX0_last_67 : decode cX0_last 67 = .ok (.iconst 1, 1) := by decide +kernel
theorem dX0_last_68 : decode cX0_last 68 = .ok (.iload_n 2, 1) := by decide +kernel
theorem dX0_last_69 : decode cX0_last 69 = .ok (.iload_n 3, 1) := by decide +kernel
theorem dX0_last_70 : decode cX0_last 70 = .ok (.iconst 1, 1) := by decide +kernel
theorem dX0_last_71 : decode cX0_last 71 = .ok (.iadd, 1) := by decide +kernel
theorem dX0_last_72 : decode cX0_last 72 = .ok (.iload 4, 2) := by decide +kernel
theorem dX0_last_74 : decode cX0_last 74 = .ok (.invokevirtual 69, 3) := by decide +kernel
theorem dX0_last_77 : decode cX0_last 77 = .ok (.ireturn, 1) := by decide +kernel
theorem dX0_last_78 : decode cX0_last 78 = .ok (.aload_n 0, 1) := by decide +kernel
theorem dX0_last_79 : decode cX0_last 79 = .ok (.iconst 1, 1) := by decide +kernel
theorem dX0_last_80 : decode cX0_last 80 = .ok (.iload_n 2, 1) := by decide +kernel
theorem dX0_last_81 : decode cX0_last 81 = .ok (.iload_n 3, 1) := by decide +kernel
theorem dX0_last_82 : decode cX0_last 82 = .ok (.iload 4, 2) := by decide +kernel
theorem dX0_last_84 : decode cX0_last 84 = .ok (.invokevirtual 69, 3) := by decide +kernel
theorem dX0_last_87 : decode cX0_last 87 = .ok (.aload_n 0, 1) := by decide +kernel
theorem dX0_last_88 : decode cX0_last 88 = .ok (.iconst 2, 1) := by decide +kernel
theorem dX0_last_89 : decode cX0_last 89 = .ok (.iconst 2, 1) := by decide +kernel
theorem dX0_last_90 : decode cX0_last 90 = .ok (.iload 4, 2) := by decide +kernel
theorem dX0_last_92 : decode cX0_last 92 = .ok (.invokevirtual 72, 3) := by decide +kernel
theorem dX0_last_95 : decode cX0_last 95 = .ok (.iadd, 1) := by decide +kernel
theorem dX0_last_96 : decode cX0_last 96 = .ok (.ireturn, 1) := by decide +kernel
theorem dX0_last_97 : decode cX0_last 97 = .ok (.iconst 0, 1) := by decide +kernel
theorem dX0_last_98 : decode cX0_last 98 = .ok (.ireturn, 1) := by decide +kernel
theorem dX0_end_0 : decode cX0_end 0 = .ok (.iload_n 1, 1) := by decide +kernel
theorem dX0_end_1 : decode cX0_end 1 = .ok (.lookupswitch 73 #[(11, 35), (40, 42), (50, 54)], 35) := by decide +kernel
theorem dX0_end_36 : decode cX0_end 36 = .ok (.iload_n 3, 1) := by decide +kernel
theorem dX0_end_37 : decode cX0_end 37 = .ok (.aload_n 0, 1) := by decide +kernel
theorem dX0_end_38 : decode cX0_end 38 = .ok (.getfield 25, 3) := by decide +kernel
theorem dX0_end_41 : decode cX0_end 41 = .ok (.ixor, 1) := by decide +kernel
theorem dX0_end_42 : decode cX0_end 42 = .ok (.ireturn, 1) := by decide +kernel
theorem dX0_end_43 : decode cX0_end 43 = .ok (.aload_n 0, 1) := by decide +kernel
theorem dX0_end_44 : decode cX0_end 44 = .ok (.iconst 2, 1) := by decide +kernel
theorem dX0_end_45 : decode cX0_end 45 = .ok (.iload_n 2, 1) := by decide +kernel
theorem dX0_end_46 : decode cX0_end 46 = .ok (.iload_n 3, 1) := by decide +kernel
theorem dX0_end_47 : decode cX0_end 47 = .ok (.iload 4, 2) := by decide +kernel
theorem dX0_end_49 : decode cX0_end 49 = .ok (.invokevirtual 69, 3) := by decide +kernel
theorem dX0_end_52 : decode cX0_end 52 = .ok (.iconst 3, 1) := by decide +kernel
theorem dX0_end_53 : decode cX0_end 53 = .ok (.imul, 1) := by decide +kernel
theorem dX0_end_54 : decode cX0_end 54 = .ok (.ireturn, 1) := by decide +kernel
theorem dX0_end_55 : decode cX0_end 55 = .ok (.aload_n 0, 1) := by decide +kernel
theorem dX0_end_56 : decode cX0_end 56 = .ok (.iconst 2, 1) := by decide +kernel
theorem dX0_end_57 : decode cX0_end 57 = .ok (.iload_n 2, 1) := by decide +kernel
theorem dX0_end_58 : decode cX0_end 58 = .ok (.iload_n 3, 1) := by decide +kernel
theorem dX0_end_59 : decode cX0_end 59 = .ok (.iload 4, 2) := by decide +kernel
theorem dX0_end_61 : decode cX0_end 61 = .ok (.invokevirtual 69, 3) := by decide +kernel
theorem dX0_end_64 : decode cX0_end 64 = .ok (.aload_n 0, 1) := by decide +kernel
theorem dX0_end_65 : decode cX0_end 65 = .ok (.iconst 0, 1) := by decide +kernel
theorem dX0_end_66 : decode cX0_end 66 = .ok (.iconst 2, 1) := by decide +kernel
theorem dX0_end_67 : decode cX0_end 67 = .ok (.iload 4, 2) := by decide +kernel
theorem dX0_end_69 : decode cX0_end 69 = .ok (.invokevirtual 72, 3) := by decide +kernel
theorem dX0_end_72 : decode cX0_end 72 = .ok (.isub, 1) := by decide +kernel
theorem dX0_end_73 : decode cX0_end 73 = .ok (.ireturn, 1) := by decide +kernel
theorem dX0_end_74 : decode cX0_end 74 = .ok (.iconst 0, 1) := by decide +kernel
theorem dX0_end_75 : decode cX0_end 75 = .ok (.ireturn, 1) := by decide +kernel
theorem dX0_tell_0 : decode cX0_tell 0 = .ok (.iload_n 1, 1) := by decide +kernel
theorem dX0_tell_1 : decode cX0_tell 1 = .ok (.lookupswitch 77 #[(2, 35), (60, 53), (81, 65)], 35) := by decide +kernel
theorem dX0_tell_36 : decode cX0_tell 36 = .ok (.aload_n 0, 1) := by decide +kernel
theorem dX0_tell_37 : decode cX0_tell 37 = .ok (.iconst 1, 1) := by decide +kernel
theorem dX0_tell_38 : decode cX0_tell 38 = .ok (.iload_n 3, 1) := by decide +kernel
theorem dX0_tell_39 : decode cX0_tell 39 = .ok (.iload 4, 2) := by decide +kernel
theorem dX0_tell_41 : decode cX0_tell 41 = .ok (.invokevirtual 72, 3) := by decide +kernel
theorem dX0_tell_44 : decode cX0_tell 44 = .ok (.aload_n 0, 1) := by decide +kernel
theorem dX0_tell_45 : decode cX0_tell 45 = .ok (.iconst 2, 1) := by decide +kernel
theorem dX0_tell_46 : decode cX0_tell 46 = .ok (.iconst 1, 1) := by decide +kernel
theorem dX0_tell_47 : decode cX0_tell 47 = .ok (.iload 4, 2) := by decide +kernel
theorem dX0_tell_49 : decode cX0_tell 49 = .ok (.invokevirtual 72, 3) := by decide +kernel
theorem dX0_tell_52 : decode cX0_tell 52 = .ok (.isub, 1) := by decide +kernel
theorem dX0_tell_53 : decode cX0_tell 53 = .ok (.ireturn, 1) := by decide +kernel
theorem dX0_tell_54 : decode cX0_tell 54 = .ok (.aload_n 0, 1) := by decide +kernel
theorem dX0_tell_55 : decode cX0_tell 55 = .ok (.iconst 3, 1) := by decide +kernel
theorem dX0_tell_56 : decode cX0_tell 56 = .ok (.iload_n 2, 1) := by decide +kernel
theorem dX0_tell_57 : decode cX0_tell 57 = .ok (.iload_n 3, 1) := by decide +kernel
theorem dX0_tell_58 : decode cX0_tell 58 = .ok (.iload 4, 2) := by decide +kernel
theorem dX0_tell_60 : decode cX0_tell 60 = .ok (.invokevirtual 69, 3) := by decide +kernel
theorem dX0_tell_63 : decode cX0_tell 63 = .ok (.iconst 5, 1) := by decide +kernel
theorem dX0_tell_64 : decode cX0_tell 64 = .ok (.ixor, 1) := by decide +kernel
theorem dX0_tell_65 : decode cX0_tell 65 = .ok (.ireturn, 1) := by decide +kernel
theorem dX0_tell_66 : decode cX0_tell 66 = .ok (.aload_n 0, 1) := by decide +kernel
theorem dX0_tell_67 : decode cX0_tell 67 = .ok (.iconst 3, 1) := by decide +kernel
theorem dX0_tell_68 : decode cX0_tell 68 = .ok (.iload_n 2, 1) := by decide +kernel
theorem dX0_tell_69 : decode cX0_tell 69 = .ok (.iload_n 3, 1) := by decide +kernel
theorem dX0_tell_70 : decode cX0_tell 70 = .ok (.iload 4, 2) := by decide +kernel
theorem dX0_tell_72 : decode cX0_tell 72 = .ok (.invokevirtual 69, 3) := by decide +kernel
theorem dX0_tell_75 : decode cX0_tell 75 = .ok (.iconst 1, 1) := by decide +kernel
theorem dX0_tell_76 : decode cX0_tell 76 = .ok (.isub, 1) := by decide +kernel
theorem dX0_tell_77 : decode cX0_tell 77 = .ok (.ireturn, 1) := by decide +kernel
theorem dX0_tell_78 : decode cX0_tell 78 = .ok (.iconst 0, 1) := by decide +kernel
theorem dX0_tell_79 : decode cX0_tell 79 = .ok (.ireturn, 1) := by decide +kernel
theorem dX1_init_0 : decode cX1_init 0 = .ok (.aload_n 0, 1) := by decide +kernel
theorem dX1_init_1 : decode cX1_init 1 = .ok (.invokespecial 3, 3) := by decide +kernel
theorem dX1_init_4 : decode cX1_init 4 = .ok (.aload_n 0, 1) := by decide +kernel
theorem dX1_init_5 : decode cX1_init 5 = .ok (.bipush 12, 2) := by decide +kernel
theorem dX1_init_7 : decode cX1_init 7 = .ok (.newarray .int, 2) := by decide +kernel
theorem dX1_init_9 : decode cX1_init 9 = .ok (.putfield 9, 3) := by decide +kernel
theorem dX1_init_12 : decode cX1_init 12 = .ok (.aload_n 0, 1) := by decide +kernel
theorem dX1_init_13 : decode cX1_init 13 = .ok (.bipush 12, 2) := by decide +kernel
theorem dX1_init_15 : decode cX1_init 15 = .ok (.newarray .int, 2) := by decide +kernel
theorem dX1_init_17 : decode cX1_init 17 = .ok (.putfield 15, 3) := by decide +kernel
theorem dX1_init_20 : decode cX1_init 20 = .ok (.aload_n 0, 1) := by decide +kernel
theorem dX1_init_21 : decode cX1_init 21 = .ok (.bipush 12, 2) := by decide +kernel
theorem dX1_init_23 : decode cX1_init 23 = .ok (.newarray .int, 2) := by decide +kernel
theorem dX1_init_25 : decode cX1_init 25 = .ok (.putfield 18, 3) := by decide +kernel
theorem dX1_init_28 : decode cX1_init 28 = .ok (.aload_n 0, 1) := by decide +kernel
theorem dX1_init_29 : decode cX1_init 29 = .ok (.bipush 12, 2) := by decide +kernel
theorem dX1_init_31 : decode cX1_init 31 = .ok (.newarray .int, 2) := by decide +kernel
theorem dX1_init_33 : decode cX1_init 33 = .ok (.putfield 21, 3) := by decide +kernel
theorem dX1_init_36 : decode cX1_init 36 = .ok (.aload_n 0, 1) := by decide +kernel
theorem dX1_init_37 : decode cX1_init 37 = .ok (.iconst 0, 1) := by decide +kernel
theorem dX1_init_38 : decode cX1_init 38 = .ok (.putfield 24, 3) := by decide +kernel
theorem dX1_init_41 : decode cX1_init 41 = .ok (.return_, 1) := by decide +kernel
theorem dX1_size_0 : decode cX1_size 0 = .ok (.aload_n 0, 1) := by decide +kernel
theorem dX1_size_1 : decode cX1_size 1 = .ok (.getfield 24, 3) := by decide +kernel
theorem dX1_size_4 : decode cX1_size 4 = .ok (.ireturn, 1) := by decide +kernel
theorem dX1_has_0 : decode cX1_has 0 = .ok (.iload_n 1, 1) := by decide +kernel
theorem dX1_has_1 : decode cX1_has 1 = .ok (.ifCond .lt 21, 3) := by decide +kernel
theorem dX1_has_4 : decode cX1_has 4 = .ok (.iload_n 1, 1) := by decide +kernel
theorem dX1_has_5 : decode cX1_has 5 = .ok (.aload_n 0, 1) := by decide +kernel
theorem dX1_has_6 : decode cX1_has 6 = .ok (.getfield 24, 3) := by decide +kernel
theorem dX1_has_9 : decode cX1_has 9 = .ok (.if_icmp .ge 13, 3) := by decide +kernel
theorem dX1_has_12 : decode cX1_has 12 = .ok (.iload_n 1, 1) := by decide +kernel
theorem dX1_has_13 : decode cX1_has 13 = .ok (.bipush 12, 2) := by decide +kernel
theorem dX1_has_15 : decode cX1_has 15 = .ok (.if_icmp .ge 7, 3) := by decide +kernel
theorem dX1_has_18 : decode cX1_has 18 = .ok (.iconst 1, 1) := by decide +kernel
theorem dX1_has_19 : decode cX1_has 19 = .ok (.goto 4, 3) := by decide +kernel
theorem dX1_has_22 : decode cX1_has 22 = .ok (.iconst 0, 1) := by decide +kernel
theorem dX1_has_23 : decode cX1_has 23 = .ok (.ireturn, 1) := by decide +kernel
theorem dX1_isSo_0 : decode cX1_isSo 0 = .ok (.iload_n 1, 1) := by decide +kernel
theorem dX1_isSo_1 : decode cX1_isSo 1 = .ok (.ifCond .lt 45, 3) := by decide +kernel
theorem dX1_isSo_4 : decode cX1_isSo 4 = .ok (.iload_n 1, 1) := by decide +kernel
theorem dX1_isSo_5 : decode cX1_isSo 5 = .ok (.bipush 9, 2) := by decide +kernel
theorem dX1_isSo_7 : decode cX1_isSo 7 = .ok (.if_icmp .gt 39, 3) := by decide +kernel
theorem dX1_isSo_10 : decode cX1_isSo 10 = .ok (.iload_n 3, 1) := by decide +kernel
theorem dX1_isSo_11 : decode cX1_isSo 11 = .ok (.ifCond .lt 35, 3) := by decide +kernel
theorem dX1_isSo_14 : decode cX1_isSo 14 = .ok (.iload_n 3, 1) := by decide +kernel
theorem dX1_isSo_15 : decode cX1_isSo 15 = .ok (.bipush 9, 2) := by decide +kernel
theorem dX1_isSo_17 : decode cX1_isSo 17 = .ok (.if_icmp .gt 29, 3) := by decide +kernel
theorem dX1_isSo_20 : decode cX1_isSo 20 = .ok (.iload_n 2, 1) := by decide +kernel
theorem dX1_isSo_21 : decode cX1_isSo 21 = .ok (.iconst 1, 1) := by decide +kernel
theorem dX1_isSo_22 : decode cX1_isSo 22 = .ok (.if_icmp .lt 24, 3) := by decide +kernel
theorem dX1_isSo_25 : decode cX1_isSo 25 = .ok (.iload_n 2, 1) := by decide +kernel
theorem dX1_isSo_26 : decode cX1_isSo 26 = .ok (.bipush 48, 2) := by decide +kernel
theorem dX1_isSo_28 : decode cX1_isSo 28 = .ok (.if_icmp .gt 18, 3) := by decide +kernel
theorem dX1_isSo_31 : decode cX1_isSo 31 = .ok (.iload 4, 2) := by decide +kernel
theorem dX1_isSo_33 : decode cX1_isSo 33 = .ok (.ifCond .lt 13, 3) := by decide +kernel
theorem dX1_isSo_36 : decode cX1_isSo 36 = .ok (.iload 4, 2) := by decide +kernel
theorem dX1_isSo_38 : decode cX1_isSo 38 = .ok (.iconst 3, 1) := by decide +kernel
theorem dX1_isSo_39 : decode cX1_isSo 39 = .ok (.if_icmp .gt 7, 3) := by decide +kernel
theorem dX1_isSo_42 : decode cX1_isSo 42 = .ok (.iconst 1, 1) := by decide +kernel
theorem dX1_isSo_43 : decode cX1_isSo 43 = .ok (.goto 4, 3) := by decide +kernel
theorem dX1_isSo_46 : decode cX1_isSo 46 = .ok (.iconst 0, 1) := by decide +kernel
theorem dX1_isSo_47 : decode cX1_isSo 47 = .ok (.ireturn, 1) := by decide +kernel
theorem dX1_add_0 : decode cX1_add 0 = .ok (.aload_n 0, 1) := by decide +kernel
theorem dX1_add_1 : decode cX1_add 1 = .ok (.getfield 24, 3) := by decide +kernel
theorem dX1_add_4 : decode cX1_add 4 = .ok (.bipush 12, 2) := by decide +kernel
theorem dX1_add_6 : decode cX1_add 6 = .ok (.if_icmp .lt 6, 3) := by decide +kernel
theorem dX1_add_9 : decode cX1_add 9 = .ok (.bipush (-3), 2) := by decide +kernel
theorem dX1_add_11 : decode cX1_add 11 = .ok (.ireturn, 1) := by decide +kernel
theorem dX1_add_12 : decode cX1_add 12 = .ok (.aload_n 0, 1) := by decide +kernel
theorem dX1_add_13 : decode cX1_add 13 = .ok (.getfield 9, 3) := by decide +kernel
theorem dX1_add_16 : decode cX1_add 16 = .ok (.aload_n 0, 1) := by decide +kernel
theorem dX1_add_17 : decode cX1_add 17 = .ok (.getfield 24, 3) := by decide +kernel
theorem dX1_add_20 : decode cX1_add 20 = .ok (.iload_n 1, 1) := by decide +kernel
theorem dX1_add_21 : decode cX1_add 21 = .ok (.iastore, 1) := by decide +kernel
theorem dX1_add_22 : decode cX1_add 22 = .ok (.aload_n 0, 1) := by decide +kernel
theorem dX1_add_23 : decode cX1_add 23 = .ok (.getfield 15, 3) := by decide +kernel
theorem dX1_add_26 : decode cX1_add 26 = .ok (.aload_n 0, 1) := by decide +kernel
theorem dX1_add_27 : decode cX1_add 27 = .ok (.getfield 24, 3) := by decide +kernel
theorem dX1_add_30 : decode cX1_add 30 = .ok (.iload_n 2, 1) := by decide +kernel
theorem dX1_add_31 : decode cX1_add 31 = .ok (.iastore, 1) := by decide +kernel
theorem dX1_add_32 : decode cX1_add 32 = .ok (.aload_n 0, 1) := by decide +kernel
theorem dX1_add_33 : decode cX1_add 33 = .ok (.getfield 18, 3) := by decide +kernel
theorem dX1_add_36 : decode cX1_add 36 = .ok (.aload_n 0, 1) := by decide +kernel
theorem dX1_add_37 : decode cX1_add 37 = .ok (.getfield 24, 3) := by decide +kernel
theorem dX1_add_40 : decode cX1_add 40 = .ok (.iload_n 3, 1) := by decide +kernel
theorem dX1_add_41 : decode cX1_add 41 = .ok (.iastore, 1) := by decide +kernel
theorem dX1_add_42 : decode cX1_add 42 = .ok (.aload_n 0, 1) := by decide +kernel
theorem dX1_add_43 : decode cX1_add 43 = .ok (.getfield 21, 3) := by decide +kernel
theorem dX1_add_46 : decode cX1_add 46 = .ok (.aload_n 0, 1) := by decide +kernel
theorem dX1_add_47 : decode cX1_add 47 = .ok (.getfield 24, 3) := by decide +kernel
theorem dX1_add_50 : decode cX1_add 50 = .ok (.iload 4, 2) := by decide +kernel
theorem dX1_add_52 : decode cX1_add 52 = .ok (.iastore, 1) := by decide +kernel
theorem dX1_add_53 : decode cX1_add 53 = .ok (.aload_n 0, 1) := by decide +kernel
theorem dX1_add_54 : decode cX1_add 54 = .ok (.dup, 1) := by decide +kernel
theorem dX1_add_55 : decode cX1_add 55 = .ok (.getfield 24, 3) := by decide +kernel
theorem dX1_add_58 : decode cX1_add 58 = .ok (.dup_x1, 1) := by decide +kernel
theorem dX1_add_59 : decode cX1_add 59 = .ok (.iconst 1, 1) := by decide +kernel
theorem dX1_add_60 : decode cX1_add 60 = .ok (.iadd, 1) := by decide +kernel
theorem dX1_add_61 : decode cX1_add 61 = .ok (.putfield 24, 3) := by decide +kernel
theorem dX1_add_64 : decode cX1_add 64 = .ok (.ireturn, 1) := by decide +kernel
theorem dX1_hoursOf_0 : decode cX1_hoursOf 0 = .ok (.aload_n 0, 1) := by decide +kernel
theorem dX1_hoursOf_1 : decode cX1_hoursOf 1 = .ok (.iload_n 1, 1) := by decide +kernel
theorem dX1_hoursOf_2 : decode cX1_hoursOf 2 = .ok (.iconst 1, 1) := by decide +kernel
theorem dX1_hoursOf_3 : decode cX1_hoursOf 3 = .ok (.invokevirtual 28, 3) := by decide +kernel
theorem dX1_hoursOf_6 : decode cX1_hoursOf 6 = .ok (.ireturn, 1) := by decide +kernel
theorem dX1_told_0 : decode cX1_told 0 = .ok (.aload_n 0, 1) := by decide +kernel
theorem dX1_told_1 : decode cX1_told 1 = .ok (.iload_n 1, 1) := by decide +kernel
theorem dX1_told_2 : decode cX1_told 2 = .ok (.invokevirtual 32, 3) := by decide +kernel
theorem dX1_told_5 : decode cX1_told 5 = .ok (.ifCond .ne 5, 3) := by decide +kernel
theorem dX1_told_8 : decode cX1_told 8 = .ok (.iconst 0, 1) := by decide +kernel
theorem dX1_told_9 : decode cX1_told 9 = .ok (.ireturn, 1) := by decide +kernel
theorem dX1_told_10 : decode cX1_told 10 = .ok (.iload_n 2, 1) := by decide +kernel
theorem dX1_told_11 : decode cX1_told 11 = .ok (.tableswitch 46 0 2 #[25, 32, 39], 25) := by decide +kernel
theorem dX1_told_36 : decode cX1_told 36 = .ok (.aload_n 0, 1) := by decide +kernel
theorem dX1_told_37 : decode cX1_told 37 = .ok (.getfield 9, 3) := by decide +kernel
theorem dX1_told_40 : decode cX1_told 40 = .ok (.iload_n 1, 1) := by decide +kernel
theorem dX1_told_41 : decode cX1_told 41 = .ok (.iaload, 1) := by decide +kernel
theorem dX1_told_42 : decode cX1_told 42 = .ok (.ireturn, 1) := by decide +kernel
theorem dX1_told_43 : decode cX1_told 43 = .ok (.aload_n 0, 1) := by decide +kernel
theorem dX1_told_44 : decode cX1_told 44 = .ok (.getfield 15, 3) := by decide +kernel
theorem dX1_told_47 : decode cX1_told 47 = .ok (.iload_n 1, 1) := by decide +kernel
theorem dX1_told_48 : decode cX1_told 48 = .ok (.iaload, 1) := by decide +kernel
theorem dX1_told_49 : decode cX1_told 49 = .ok (.ireturn, 1) := by decide +kernel
theorem dX1_told_50 : decode cX1_told 50 = .ok (.aload_n 0, 1) := by decide +kernel
theorem dX1_told_51 : decode cX1_told 51 = .ok (.getfield 18, 3) := by decide +kernel
theorem dX1_told_54 : decode cX1_told 54 = .ok (.iload_n 1, 1) := by decide +kernel
theorem dX1_told_55 : decode cX1_told 55 = .ok (.iaload, 1) := by decide +kernel
theorem dX1_told_56 : decode cX1_told 56 = .ok (.ireturn, 1) := by decide +kernel
theorem dX1_told_57 : decode cX1_told 57 = .ok (.aload_n 0, 1) := by decide +kernel
theorem dX1_told_58 : decode cX1_told 58 = .ok (.getfield 21, 3) := by decide +kernel
theorem dX1_told_61 : decode cX1_told 61 = .ok (.iload_n 1, 1) := by decide +kernel
theorem dX1_told_62 : decode cX1_told 62 = .ok (.iaload, 1) := by decide +kernel
theorem dX1_told_63 : decode cX1_told 63 = .ok (.ireturn, 1) := by decide +kernel
theorem dX1_setHours_0 : decode cX1_setHours 0 = .ok (.aload_n 0, 1) := by decide +kernel
theorem dX1_setHours_1 : decode cX1_setHours 1 = .ok (.iload_n 1, 1) := by decide +kernel
theorem dX1_setHours_2 : decode cX1_setHours 2 = .ok (.invokevirtual 32, 3) := by decide +kernel
theorem dX1_setHours_5 : decode cX1_setHours 5 = .ok (.ifCond .eq 10, 3) := by decide +kernel
theorem dX1_setHours_8 : decode cX1_setHours 8 = .ok (.aload_n 0, 1) := by decide +kernel
theorem dX1_setHours_9 : decode cX1_setHours 9 = .ok (.getfield 15, 3) := by decide +kernel
theorem dX1_setHours_12 : decode cX1_setHours 12 = .ok (.iload_n 1, 1) := by decide +kernel
theorem dX1_setHours_13 : decode cX1_setHours 13 = .ok (.iload_n 2, 1) := by decide +kernel
theorem dX1_setHours_14 : decode cX1_setHours 14 = .ok (.iastore, 1) := by decide +kernel
theorem dX1_setHours_15 : decode cX1_setHours 15 = .ok (.return_, 1) := by decide +kernel
theorem dX1_setOver_0 : decode cX1_setOver 0 = .ok (.aload_n 0, 1) := by decide +kernel
theorem dX1_setOver_1 : decode cX1_setOver 1 = .ok (.iload_n 1, 1) := by decide +kernel
theorem dX1_setOver_2 : decode cX1_setOver 2 = .ok (.invokevirtual 32, 3) := by decide +kernel
theorem dX1_setOver_5 : decode cX1_setOver 5 = .ok (.ifCond .eq 10, 3) := by decide +kernel
theorem dX1_setOver_8 : decode cX1_setOver 8 = .ok (.aload_n 0, 1) := by decide +kernel
theorem dX1_setOver_9 : decode cX1_setOver 9 = .ok (.getfield 21, 3) := by decide +kernel
theorem dX1_setOver_12 : decode cX1_setOver 12 = .ok (.iload_n 1, 1) := by decide +kernel
theorem dX1_setOver_13 : decode cX1_setOver 13 = .ok (.iload_n 2, 1) := by decide +kernel
theorem dX1_setOver_14 : decode cX1_setOver 14 = .ok (.iastore, 1) := by decide +kernel
theorem dX1_setOver_15 : decode cX1_setOver 15 = .ok (.return_, 1) := by decide +kernel
theorem dX2_init_0 : decode cX2_init 0 = .ok (.aload_n 0, 1) := by decide +kernel
theorem dX2_init_1 : decode cX2_init 1 = .ok (.invokespecial 3, 3) := by decide +kernel
theorem dX2_init_4 : decode cX2_init 4 = .ok (.aload_n 0, 1) := by decide +kernel
theorem dX2_init_5 : decode cX2_init 5 = .ok (.aload_n 1, 1) := by decide +kernel
theorem dX2_init_6 : decode cX2_init 6 = .ok (.putfield 9, 3) := by decide +kernel
theorem dX2_init_9 : decode cX2_init 9 = .ok (.aload_n 0, 1) := by decide +kernel
theorem dX2_init_10 : decode cX2_init 10 = .ok (.aload_n 2, 1) := by decide +kernel
theorem dX2_init_11 : decode cX2_init 11 = .ok (.putfield 15, 3) := by decide +kernel
theorem dX2_init_14 : decode cX2_init 14 = .ok (.aload_n 0, 1) := by decide +kernel
theorem dX2_init_15 : decode cX2_init 15 = .ok (.aload_n 3, 1) := by decide +kernel
theorem dX2_init_16 : decode cX2_init 16 = .ok (.putfield 19, 3) := by decide +kernel
theorem dX2_init_19 : decode cX2_init 19 = .ok (.aload_n 0, 1) := by decide +kernel
theorem dX2_init_20 : decode cX2_init 20 = .ok (.new 23, 3) := by decide +kernel
theorem dX2_init_23 : decode cX2_init 23 = .ok (.dup, 1) := by decide +kernel
theorem dX2_init_24 : decode cX2_init 24 = .ok (.aload_n 1, 1) := by decide +kernel
theorem dX2_init_25 : decode cX2_init 25 = .ok (.aload_n 2, 1) := by decide +kernel
theorem dX2_init_26 : decode cX2_init 26 = .ok (.invokespecial 25, 3) := by decide +kernel
theorem dX2_init_29 : decode cX2_init 29 = .ok (.putfield 28, 3) := by decide +kernel
theorem dX2_init_32 : decode cX2_init 32 = .ok (.return_, 1) := by decide +kernel
theorem dX2_lawfulDeeds_0 : decode cX2_lawfulDeeds 0 = .ok (.iconst 0, 1) := by decide +kernel
theorem dX2_lawfulDeeds_1 : decode cX2_lawfulDeeds 1 = .ok (.istore_n 3, 1) := by decide +kernel
theorem dX2_lawfulDeeds_2 : decode cX2_lawfulDeeds 2 = .ok (.iconst 0, 1) := by decide +kernel
theorem dX2_lawfulDeeds_3 : decode cX2_lawfulDeeds 3 = .ok (.istore 4, 2) := by decide +kernel
theorem dX2_lawfulDeeds_5 : decode cX2_lawfulDeeds 5 = .ok (.iload 4, 2) := by decide +kernel
theorem dX2_lawfulDeeds_7 : decode cX2_lawfulDeeds 7 = .ok (.aload_n 0, 1) := by decide +kernel
theorem dX2_lawfulDeeds_8 : decode cX2_lawfulDeeds 8 = .ok (.getfield 15, 3) := by decide +kernel
theorem dX2_lawfulDeeds_11 : decode cX2_lawfulDeeds 11 = .ok (.invokevirtual 31, 3) := by decide +kernel
theorem dX2_lawfulDeeds_14 : decode cX2_lawfulDeeds 14 = .ok (.if_icmp .ge 37, 3) := by decide +kernel
theorem dX2_lawfulDeeds_17 : decode cX2_lawfulDeeds 17 = .ok (.aload_n 0, 1) := by decide +kernel
theorem dX2_lawfulDeeds_18 : decode cX2_lawfulDeeds 18 = .ok (.getfield 19, 3) := by decide +kernel
theorem dX2_lawfulDeeds_21 : decode cX2_lawfulDeeds 21 = .ok (.iload 4, 2) := by decide +kernel
theorem dX2_lawfulDeeds_23 : decode cX2_lawfulDeeds 23 = .ok (.iload_n 1, 1) := by decide +kernel
theorem dX2_lawfulDeeds_24 : decode cX2_lawfulDeeds 24 = .ok (.invokevirtual 37, 3) := by decide +kernel
theorem dX2_lawfulDeeds_27 : decode cX2_lawfulDeeds 27 = .ok (.aload_n 0, 1) := by decide +kernel
theorem dX2_lawfulDeeds_28 : decode cX2_lawfulDeeds 28 = .ok (.getfield 19, 3) := by decide +kernel
theorem dX2_lawfulDeeds_31 : decode cX2_lawfulDeeds 31 = .ok (.iload_n 2, 1) := by decide +kernel
theorem dX2_lawfulDeeds_32 : decode cX2_lawfulDeeds 32 = .ok (.invokevirtual 41, 3) := by decide +kernel
theorem dX2_lawfulDeeds_35 : decode cX2_lawfulDeeds 35 = .ok (.ifCond .lt 10, 3) := by decide +kernel
theorem dX2_lawfulDeeds_38 : decode cX2_lawfulDeeds 38 = .ok (.iload_n 3, 1) := by decide +kernel
theorem dX2_lawfulDeeds_39 : decode cX2_lawfulDeeds 39 = .ok (.iconst 1, 1) := by decide +kernel
theorem dX2_lawfulDeeds_40 : decode cX2_lawfulDeeds 40 = .ok (.iload 4, 2) := by decide +kernel
theorem dX2_lawfulDeeds_42 : decode cX2_lawfulDeeds 42 = .ok (.ishl, 1) := by decide +kernel
theorem dX2_lawfulDeeds_43 : decode cX2_lawfulDeeds 43 = .ok (.ior, 1) := by decide +kernel
theorem dX2_lawfulDeeds_44 : decode cX2_lawfulDeeds 44 = .ok (.istore_n 3, 1) := by decide +kernel
theorem dX2_lawfulDeeds_45 : decode cX2_lawfulDeeds 45 = .ok (.iinc 4 1, 3) := by decide +kernel
theorem dX2_lawfulDeeds_48 : decode cX2_lawfulDeeds 48 = .ok (.goto (-43), 3) := by decide +kernel
theorem dX2_lawfulDeeds_51 : decode cX2_lawfulDeeds 51 = .ok (.iload_n 3, 1) := by decide +kernel
theorem dX2_lawfulDeeds_52 : decode cX2_lawfulDeeds 52 = .ok (.ireturn, 1) := by decide +kernel
theorem dX2_lawfulTill_0 : decode cX2_lawfulTill 0 = .ok (.aload_n 0, 1) := by decide +kernel
theorem dX2_lawfulTill_1 : decode cX2_lawfulTill 1 = .ok (.getfield 19, 3) := by decide +kernel
theorem dX2_lawfulTill_4 : decode cX2_lawfulTill 4 = .ok (.iload_n 1, 1) := by decide +kernel
theorem dX2_lawfulTill_5 : decode cX2_lawfulTill 5 = .ok (.invokevirtual 41, 3) := by decide +kernel
theorem dX2_lawfulTill_8 : decode cX2_lawfulTill 8 = .ok (.ifCond .ge 6, 3) := by decide +kernel
theorem dX2_lawfulTill_11 : decode cX2_lawfulTill 11 = .ok (.bipush (-5), 2) := by decide +kernel
theorem dX2_lawfulTill_13 : decode cX2_lawfulTill 13 = .ok (.ireturn, 1) := by decide +kernel
theorem dX2_lawfulTill_14 : decode cX2_lawfulTill 14 = .ok (.iconst 1, 1) := by decide +kernel
theorem dX2_lawfulTill_15 : decode cX2_lawfulTill 15 = .ok (.istore_n 2, 1) := by decide +kernel
theorem dX2_lawfulTill_16 : decode cX2_lawfulTill 16 = .ok (.iload_n 2, 1) := by decide +kernel
theorem dX2_lawfulTill_17 : decode cX2_lawfulTill 17 = .ok (.sipush 2000, 3) := by decide +kernel
theorem dX2_lawfulTill_20 : decode cX2_lawfulTill 20 = .ok (.if_icmp .gt 26, 3) := by decide +kernel
theorem dX2_lawfulTill_23 : decode cX2_lawfulTill 23 = .ok (.aload_n 0, 1) := by decide +kernel
theorem dX2_lawfulTill_24 : decode cX2_lawfulTill 24 = .ok (.getfield 19, 3) := by decide +kernel
theorem dX2_lawfulTill_27 : decode cX2_lawfulTill 27 = .ok (.iload_n 1, 1) := by decide +kernel
theorem dX2_lawfulTill_28 : decode cX2_lawfulTill 28 = .ok (.iload_n 2, 1) := by decide +kernel
theorem dX2_lawfulTill_29 : decode cX2_lawfulTill 29 = .ok (.iadd, 1) := by decide +kernel
theorem dX2_lawfulTill_30 : decode cX2_lawfulTill 30 = .ok (.invokevirtual 41, 3) := by decide +kernel
theorem dX2_lawfulTill_33 : decode cX2_lawfulTill 33 = .ok (.ifCond .ge 7, 3) := by decide +kernel
theorem dX2_lawfulTill_36 : decode cX2_lawfulTill 36 = .ok (.iload_n 1, 1) := by decide +kernel
theorem dX2_lawfulTill_37 : decode cX2_lawfulTill 37 = .ok (.iload_n 2, 1) := by decide +kernel
theorem dX2_lawfulTill_38 : decode cX2_lawfulTill 38 = .ok (.iadd, 1) := by decide +kernel
theorem dX2_lawfulTill_39 : decode cX2_lawfulTill 39 = .ok (.ireturn, 1) := by decide +kernel
theorem dX2_lawfulTill_40 : decode cX2_lawfulTill 40 = .ok (.iinc 2 1, 3) := by decide +kernel
theorem dX2_lawfulTill_43 : decode cX2_lawfulTill 43 = .ok (.goto (-27), 3) := by decide +kernel
theorem dX2_lawfulTill_46 : decode cX2_lawfulTill 46 = .ok (.bipush (-2), 2) := by decide +kernel
theorem dX2_lawfulTill_48 : decode cX2_lawfulTill 48 = .ok (.ireturn, 1) := by decide +kernel
theorem dX2_lawfulFrom_0 : decode cX2_lawfulFrom 0 = .ok (.iconst 0, 1) := by decide +kernel
theorem dX2_lawfulFrom_1 : decode cX2_lawfulFrom 1 = .ok (.istore_n 3, 1) := by decide +kernel
theorem dX2_lawfulFrom_2 : decode cX2_lawfulFrom 2 = .ok (.iload_n 3, 1) := by decide +kernel
theorem dX2_lawfulFrom_3 : decode cX2_lawfulFrom 3 = .ok (.iload_n 2, 1) := by decide +kernel
theorem dX2_lawfulFrom_4 : decode cX2_lawfulFrom 4 = .ok (.if_icmp .ge 26, 3) := by decide +kernel
theorem dX2_lawfulFrom_7 : decode cX2_lawfulFrom 7 = .ok (.aload_n 0, 1) := by decide +kernel
theorem dX2_lawfulFrom_8 : decode cX2_lawfulFrom 8 = .ok (.getfield 19, 3) := by decide +kernel
theorem dX2_lawfulFrom_11 : decode cX2_lawfulFrom 11 = .ok (.iload_n 1, 1) := by decide +kernel
theorem dX2_lawfulFrom_12 : decode cX2_lawfulFrom 12 = .ok (.iload_n 3, 1) := by decide +kernel
theorem dX2_lawfulFrom_13 : decode cX2_lawfulFrom 13 = .ok (.iadd, 1) := by decide +kernel
theorem dX2_lawfulFrom_14 : decode cX2_lawfulFrom 14 = .ok (.invokevirtual 41, 3) := by decide +kernel
theorem dX2_lawfulFrom_17 : decode cX2_lawfulFrom 17 = .ok (.ifCond .lt 7, 3) := by decide +kernel
theorem dX2_lawfulFrom_20 : decode cX2_lawfulFrom 20 = .ok (.iload_n 1, 1) := by decide +kernel
theorem dX2_lawfulFrom_21 : decode cX2_lawfulFrom 21 = .ok (.iload_n 3, 1) := by decide +kernel
theorem dX2_lawfulFrom_22 : decode cX2_lawfulFrom 22 = .ok (.iadd, 1) := by decide +kernel
theorem dX2_lawfulFrom_23 : decode cX2_lawfulFrom 23 = .ok (.ireturn, 1) := by decide +kernel
theorem dX2_lawfulFrom_24 : decode cX2_lawfulFrom 24 = .ok (.iinc 3 1, 3) := by decide +kernel
theorem dX2_lawfulFrom_27 : decode cX2_lawfulFrom 27 = .ok (.goto (-25), 3) := by decide +kernel
theorem dX2_lawfulFrom_30 : decode cX2_lawfulFrom 30 = .ok (.bipush (-2), 2) := by decide +kernel
theorem dX2_lawfulFrom_32 : decode cX2_lawfulFrom 32 = .ok (.ireturn, 1) := by decide +kernel
theorem dX2_leastCosts_0 : decode cX2_leastCosts 0 = .ok (.iconst (-1), 1) := by decide +kernel
theorem dX2_leastCosts_1 : decode cX2_leastCosts 1 = .ok (.istore 4, 2) := by decide +kernel
theorem dX2_leastCosts_3 : decode cX2_leastCosts 3 = .ok (.iconst (-1), 1) := by decide +kernel
theorem dX2_leastCosts_4 : decode cX2_leastCosts 4 = .ok (.istore 5, 2) := by decide +kernel
theorem dX2_leastCosts_6 : decode cX2_leastCosts 6 = .ok (.iconst 0, 1) := by decide +kernel
theorem dX2_leastCosts_7 : decode cX2_leastCosts 7 = .ok (.istore 6, 2) := by decide +kernel
theorem dX2_leastCosts_9 : decode cX2_leastCosts 9 = .ok (.iload 6, 2) := by decide +kernel
theorem dX2_leastCosts_11 : decode cX2_leastCosts 11 = .ok (.iload_n 2, 1) := by decide +kernel
theorem dX2_leastCosts_12 : decode cX2_leastCosts 12 = .ok (.if_icmp .ge 49, 3) := by decide +kernel
theorem dX2_leastCosts_15 : decode cX2_leastCosts 15 = .ok (.aload_n 0, 1) := by decide +kernel
theorem dX2_leastCosts_16 : decode cX2_leastCosts 16 = .ok (.getfield 19, 3) := by decide +kernel
theorem dX2_leastCosts_19 : decode cX2_leastCosts 19 = .ok (.iload_n 1, 1) := by decide +kernel
theorem dX2_leastCosts_20 : decode cX2_leastCosts 20 = .ok (.iload 6, 2) := by decide +kernel
theorem dX2_leastCosts_22 : decode cX2_leastCosts 22 = .ok (.iadd, 1) := by decide +kernel
theorem dX2_leastCosts_23 : decode cX2_leastCosts 23 = .ok (.invokevirtual 41, 3) := by decide +kernel
theorem dX2_leastCosts_26 : decode cX2_leastCosts 26 = .ok (.istore 7, 2) := by decide +kernel
theorem dX2_leastCosts_28 : decode cX2_leastCosts 28 = .ok (.iload 7, 2) := by decide +kernel
theorem dX2_leastCosts_30 : decode cX2_leastCosts 30 = .ok (.ifCond .lt 25, 3) := by decide +kernel
theorem dX2_leastCosts_33 : decode cX2_leastCosts 33 = .ok (.iload 5, 2) := by decide +kernel
theorem dX2_leastCosts_35 : decode cX2_leastCosts 35 = .ok (.ifCond .lt 10, 3) := by decide +kernel
theorem dX2_leastCosts_38 : decode cX2_leastCosts 38 = .ok (.iload 7, 2) := by decide +kernel
theorem dX2_leastCosts_40 : decode cX2_leastCosts 40 = .ok (.iload 5, 2) := by decide +kernel
theorem dX2_leastCosts_42 : decode cX2_leastCosts 42 = .ok (.if_icmp .ge 13, 3) := by decide +kernel
theorem dX2_leastCosts_45 : decode cX2_leastCosts 45 = .ok (.iload_n 1, 1) := by decide +kernel
theorem dX2_leastCosts_46 : decode cX2_leastCosts 46 = .ok (.iload 6, 2) := by decide +kernel
theorem dX2_leastCosts_48 : decode cX2_leastCosts 48 = .ok (.iadd, 1) := by decide +kernel
theorem dX2_leastCosts_49 : decode cX2_leastCosts 49 = .ok (.istore 4, 2) := by decide +kernel
theorem dX2_leastCosts_51 : decode cX2_leastCosts 51 = .ok (.iload 7, 2) := by decide +kernel
theorem dX2_leastCosts_53 : decode cX2_leastCosts 53 = .ok (.istore 5, 2) := by decide +kernel
theorem dX2_leastCosts_55 : decode cX2_leastCosts 55 = .ok (.iinc 6 1, 3) := by decide +kernel
theorem dX2_leastCosts_58 : decode cX2_leastCosts 58 = .ok (.goto (-49), 3) := by decide +kernel
theorem dX2_leastCosts_61 : decode cX2_leastCosts 61 = .ok (.iload_n 3, 1) := by decide +kernel
theorem dX2_leastCosts_62 : decode cX2_leastCosts 62 = .ok (.ifCond .ne 8, 3) := by decide +kernel
theorem dX2_leastCosts_65 : decode cX2_leastCosts 65 = .ok (.iload 4, 2) := by decide +kernel
theorem dX2_leastCosts_67 : decode cX2_leastCosts 67 = .ok (.goto 5, 3) := by decide +kernel
theorem dX2_leastCosts_70 : decode cX2_leastCosts 70 = .ok (.iload 5, 2) := by decide +kernel
theorem dX2_leastCosts_72 : decode cX2_leastCosts 72 = .ok (.ireturn, 1) := by decide +kernel
theorem dX2_doneWithRests_0 : decode cX2_doneWithRests 0 = .ok (.iload_n 2, 1) := by decide +kernel
theorem dX2_doneWithRests_1 : decode cX2_doneWithRests 1 = .ok (.istore 4, 2) := by decide +kernel
theorem dX2_doneWithRests_3 : decode cX2_doneWithRests 3 = .ok (.iconst 0, 1) := by decide +kernel
theorem dX2_doneWithRests_4 : decode cX2_doneWithRests 4 = .ok (.istore 5, 2) := by decide +kernel
theorem dX2_doneWithRests_6 : decode cX2_doneWithRests 6 = .ok (.iconst 0, 1) := by decide +kernel
theorem dX2_doneWithRests_7 : decode cX2_doneWithRests 7 = .ok (.istore 6, 2) := by decide +kernel
theorem dX2_doneWithRests_9 : decode cX2_doneWithRests 9 = .ok (.iload 6, 2) := by decide +kernel
theorem dX2_doneWithRests_11 : decode cX2_doneWithRests 11 = .ok (.iload_n 1, 1) := by decide +kernel
theorem dX2_doneWithRests_12 : decode cX2_doneWithRests 12 = .ok (.if_icmp .ge 48, 3) := by decide +kernel
theorem dX2_doneWithRests_15 : decode cX2_doneWithRests 15 = .ok (.aload_n 0, 1) := by decide +kernel
theorem dX2_doneWithRests_16 : decode cX2_doneWithRests 16 = .ok (.iload 6, 2) := by decide +kernel
theorem dX2_doneWithRests_18 : decode cX2_doneWithRests 18 = .ok (.iload 4, 2) := by decide +kernel
theorem dX2_doneWithRests_20 : decode cX2_doneWithRests 20 = .ok (.invokevirtual 45, 3) := by decide +kernel
theorem dX2_doneWithRests_23 : decode cX2_doneWithRests 23 = .ok (.istore 7, 2) := by decide +kernel
theorem dX2_doneWithRests_25 : decode cX2_doneWithRests 25 = .ok (.iload 7, 2) := by decide +kernel
theorem dX2_doneWithRests_27 : decode cX2_doneWithRests 27 = .ok (.ifCond .ge 5, 3) := by decide +kernel
theorem dX2_doneWithRests_30 : decode cX2_doneWithRests 30 = .ok (.iconst (-1), 1) := by decide +kernel
theorem dX2_doneWithRests_31 : decode cX2_doneWithRests 31 = .ok (.ireturn, 1) := by decide +kernel
theorem dX2_doneWithRests_32 : decode cX2_doneWithRests 32 = .ok (.iload 5, 2) := by decide +kernel
theorem dX2_doneWithRests_34 : decode cX2_doneWithRests 34 = .ok (.aload_n 0, 1) := by decide +kernel
theorem dX2_doneWithRests_35 : decode cX2_doneWithRests 35 = .ok (.getfield 19, 3) := by decide +kernel
theorem dX2_doneWithRests_38 : decode cX2_doneWithRests 38 = .ok (.iload 6, 2) := by decide +kernel
theorem dX2_doneWithRests_40 : decode cX2_doneWithRests 40 = .ok (.iload 7, 2) := by decide +kernel
theorem dX2_doneWithRests_42 : decode cX2_doneWithRests 42 = .ok (.invokevirtual 49, 3) := by decide +kernel
theorem dX2_doneWithRests_45 : decode cX2_doneWithRests 45 = .ok (.iadd, 1) := by decide +kernel
theorem dX2_doneWithRests_46 : decode cX2_doneWithRests 46 = .ok (.istore 5, 2) := by decide +kernel
theorem dX2_doneWithRests_48 : decode cX2_doneWithRests 48 = .ok (.iload 7, 2) := by decide +kernel
theorem dX2_doneWithRests_50 : decode cX2_doneWithRests 50 = .ok (.iconst 1, 1) := by decide +kernel
theorem dX2_doneWithRests_51 : decode cX2_doneWithRests 51 = .ok (.iadd, 1) := by decide +kernel
theorem dX2_doneWithRests_52 : decode cX2_doneWithRests 52 = .ok (.istore 4, 2) := by decide +kernel
theorem dX2_doneWithRests_54 : decode cX2_doneWithRests 54 = .ok (.iinc 6 1, 3) := by decide +kernel
theorem dX2_doneWithRests_57 : decode cX2_doneWithRests 57 = .ok (.goto (-48), 3) := by decide +kernel
theorem dX2_doneWithRests_60 : decode cX2_doneWithRests 60 = .ok (.iload_n 3, 1) := by decide +kernel
theorem dX2_doneWithRests_61 : decode cX2_doneWithRests 61 = .ok (.lookupswitch 35 #[(0, 27), (1, 32)], 27) := by decide +kernel
theorem dX2_doneWithRests_88 : decode cX2_doneWithRests 88 = .ok (.iload 4, 2) := by decide +kernel
theorem dX2_doneWithRests_90 : decode cX2_doneWithRests 90 = .ok (.iconst 1, 1) := by decide +kernel
theorem dX2_doneWithRests_91 : decode cX2_doneWithRests 91 = .ok (.isub, 1) := by decide +kernel
theorem dX2_doneWithRests_92 : decode cX2_doneWithRests 92 = .ok (.ireturn, 1) := by decide +kernel
theorem dX2_doneWithRests_93 : decode cX2_doneWithRests 93 = .ok (.iload 5, 2) := by decide +kernel
theorem dX2_doneWithRests_95 : decode cX2_doneWithRests 95 = .ok (.ireturn, 1) := by decide +kernel
theorem dX2_doneWithRests_96 : decode cX2_doneWithRests 96 = .ok (.iload 4, 2) := by decide +kernel
theorem dX2_doneWithRests_98 : decode cX2_doneWithRests 98 = .ok (.iload_n 2, 1) := by decide +kernel
theorem dX2_doneWithRests_99 : decode cX2_doneWithRests 99 = .ok (.isub, 1) := by decide +kernel
theorem dX2_doneWithRests_100 : decode cX2_doneWithRests 100 = .ok (.iload_n 1, 1) := by decide +kernel
theorem dX2_doneWithRests_101 : decode cX2_doneWithRests 101 = .ok (.isub, 1) := by decide +kernel
theorem dX2_doneWithRests_102 : decode cX2_doneWithRests 102 = .ok (.ireturn, 1) := by decide +kernel
theorem dX2_firstFor_0 : decode cX2_firstFor 0 = .ok (.iconst 0, 1) := by decide +kernel
theorem dX2_firstFor_1 : decode cX2_firstFor 1 = .ok (.istore_n 3, 1) := by decide +kernel
theorem dX2_firstFor_2 : decode cX2_firstFor 2 = .ok (.iload_n 3, 1) := by decide +kernel
theorem dX2_firstFor_3 : decode cX2_firstFor 3 = .ok (.sipush 2000, 3) := by decide +kernel
theorem dX2_firstFor_6 : decode cX2_firstFor 6 = .ok (.if_icmp .ge 27, 3) := by decide +kernel
theorem dX2_firstFor_9 : decode cX2_firstFor 9 = .ok (.aload_n 0, 1) := by decide +kernel
theorem dX2_firstFor_10 : decode cX2_firstFor 10 = .ok (.getfield 19, 3) := by decide +kernel
theorem dX2_firstFor_13 : decode cX2_firstFor 13 = .ok (.iload_n 1, 1) := by decide +kernel
theorem dX2_firstFor_14 : decode cX2_firstFor 14 = .ok (.iload_n 2, 1) := by decide +kernel
theorem dX2_firstFor_15 : decode cX2_firstFor 15 = .ok (.iload_n 3, 1) := by decide +kernel
theorem dX2_firstFor_16 : decode cX2_firstFor 16 = .ok (.iadd, 1) := by decide +kernel
theorem dX2_firstFor_17 : decode cX2_firstFor 17 = .ok (.invokevirtual 49, 3) := by decide +kernel
theorem dX2_firstFor_20 : decode cX2_firstFor 20 = .ok (.ifCond .lt 7, 3) := by decide +kernel
theorem dX2_firstFor_23 : decode cX2_firstFor 23 = .ok (.iload_n 2, 1) := by decide +kernel
theorem dX2_firstFor_24 : decode cX2_firstFor 24 = .ok (.iload_n 3, 1) := by decide +kernel
theorem dX2_firstFor_25 : decode cX2_firstFor 25 = .ok (.iadd, 1) := by decide +kernel
theorem dX2_firstFor_26 : decode cX2_firstFor 26 = .ok (.ireturn, 1) := by decide +kernel
theorem dX2_firstFor_27 : decode cX2_firstFor 27 = .ok (.iinc 3 1, 3) := by decide +kernel
theorem dX2_firstFor_30 : decode cX2_firstFor 30 = .ok (.goto (-28), 3) := by decide +kernel
theorem dX2_firstFor_33 : decode cX2_firstFor 33 = .ok (.bipush (-2), 2) := by decide +kernel
theorem dX2_firstFor_35 : decode cX2_firstFor 35 = .ok (.ireturn, 1) := by decide +kernel
theorem dX2_soonestByWays_0 : decode cX2_soonestByWays 0 = .ok (.bipush (-2), 2) := by decide +kernel
theorem dX2_soonestByWays_2 : decode cX2_soonestByWays 2 = .ok (.istore 5, 2) := by decide +kernel
theorem dX2_soonestByWays_4 : decode cX2_soonestByWays 4 = .ok (.ldc 54, 2) := by decide +kernel
theorem dX2_soonestByWays_6 : decode cX2_soonestByWays 6 = .ok (.istore 6, 2) := by decide +kernel
theorem dX2_soonestByWays_8 : decode cX2_soonestByWays 8 = .ok (.aload_n 0, 1) := by decide +kernel
theorem dX2_soonestByWays_9 : decode cX2_soonestByWays 9 = .ok (.getfield 9, 3) := by decide +kernel
theorem dX2_soonestByWays_12 : decode cX2_soonestByWays 12 = .ok (.iload_n 2, 1) := by decide +kernel
theorem dX2_soonestByWays_13 : decode cX2_soonestByWays 13 = .ok (.invokevirtual 55, 3) := by decide +kernel
theorem dX2_soonestByWays_16 : decode cX2_soonestByWays 16 = .ok (.iconst 0, 1) := by decide +kernel
theorem dX2_soonestByWays_17 : decode cX2_soonestByWays 17 = .ok (.istore 7, 2) := by decide +kernel
theorem dX2_soonestByWays_19 : decode cX2_soonestByWays 19 = .ok (.iload 7, 2) := by decide +kernel
theorem dX2_soonestByWays_21 : decode cX2_soonestByWays 21 = .ok (.aload_n 0, 1) := by decide +kernel
theorem dX2_soonestByWays_22 : decode cX2_soonestByWays 22 = .ok (.getfield 9, 3) := by decide +kernel
theorem dX2_soonestByWays_25 : decode cX2_soonestByWays 25 = .ok (.invokevirtual 61, 3) := by decide +kernel
theorem dX2_soonestByWays_28 : decode cX2_soonestByWays 28 = .ok (.if_icmp .ge 71, 3) := by decide +kernel
theorem dX2_soonestByWays_31 : decode cX2_soonestByWays 31 = .ok (.aload_n 0, 1) := by decide +kernel
theorem dX2_soonestByWays_32 : decode cX2_soonestByWays 32 = .ok (.getfield 9, 3) := by decide +kernel
theorem dX2_soonestByWays_35 : decode cX2_soonestByWays 35 = .ok (.iload 7, 2) := by decide +kernel
theorem dX2_soonestByWays_37 : decode cX2_soonestByWays 37 = .ok (.invokevirtual 64, 3) := by decide +kernel
theorem dX2_soonestByWays_40 : decode cX2_soonestByWays 40 = .ok (.istore 8, 2) := by decide +kernel
theorem dX2_soonestByWays_42 : decode cX2_soonestByWays 42 = .ok (.iload 8, 2) := by decide +kernel
theorem dX2_soonestByWays_44 : decode cX2_soonestByWays 44 = .ok (.ifCond .lt 49, 3) := by decide +kernel
theorem dX2_soonestByWays_47 : decode cX2_soonestByWays 47 = .ok (.aload_n 0, 1) := by decide +kernel
theorem dX2_soonestByWays_48 : decode cX2_soonestByWays 48 = .ok (.getfield 19, 3) := by decide +kernel
theorem dX2_soonestByWays_51 : decode cX2_soonestByWays 51 = .ok (.iload_n 1, 1) := by decide +kernel
theorem dX2_soonestByWays_52 : decode cX2_soonestByWays 52 = .ok (.iload 7, 2) := by decide +kernel
theorem dX2_soonestByWays_54 : decode cX2_soonestByWays 54 = .ok (.invokevirtual 37, 3) := by decide +kernel
theorem dX2_soonestByWays_57 : decode cX2_soonestByWays 57 = .ok (.aload_n 0, 1) := by decide +kernel
theorem dX2_soonestByWays_58 : decode cX2_soonestByWays 58 = .ok (.iload_n 3, 1) := by decide +kernel
theorem dX2_soonestByWays_59 : decode cX2_soonestByWays 59 = .ok (.iload 8, 2) := by decide +kernel
theorem dX2_soonestByWays_61 : decode cX2_soonestByWays 61 = .ok (.iadd, 1) := by decide +kernel
theorem dX2_soonestByWays_62 : decode cX2_soonestByWays 62 = .ok (.sipush 2000, 3) := by decide +kernel
theorem dX2_soonestByWays_65 : decode cX2_soonestByWays 65 = .ok (.iload 6, 2) := by decide +kernel
theorem dX2_soonestByWays_67 : decode cX2_soonestByWays 67 = .ok (.iload_n 3, 1) := by decide +kernel
theorem dX2_soonestByWays_68 : decode cX2_soonestByWays 68 = .ok (.isub, 1) := by decide +kernel
theorem dX2_soonestByWays_69 : decode cX2_soonestByWays 69 = .ok (.iload 8, 2) := by decide +kernel
theorem dX2_soonestByWays_71 : decode cX2_soonestByWays 71 = .ok (.isub, 1) := by decide +kernel
theorem dX2_soonestByWays_72 : decode cX2_soonestByWays 72 = .ok (.invokestatic 67, 3) := by decide +kernel
theorem dX2_soonestByWays_75 : decode cX2_soonestByWays 75 = .ok (.invokevirtual 72, 3) := by decide +kernel
theorem dX2_soonestByWays_78 : decode cX2_soonestByWays 78 = .ok (.istore 9, 2) := by decide +kernel
theorem dX2_soonestByWays_80 : decode cX2_soonestByWays 80 = .ok (.iload 9, 2) := by decide +kernel
theorem dX2_soonestByWays_82 : decode cX2_soonestByWays 82 = .ok (.ifCond .lt 11, 3) := by decide +kernel
theorem dX2_soonestByWays_85 : decode cX2_soonestByWays 85 = .ok (.iload 7, 2) := by decide +kernel
theorem dX2_soonestByWays_87 : decode cX2_soonestByWays 87 = .ok (.istore 5, 2) := by decide +kernel
theorem dX2_soonestByWays_89 : decode cX2_soonestByWays 89 = .ok (.iload 9, 2) := by decide +kernel
theorem dX2_soonestByWays_91 : decode cX2_soonestByWays 91 = .ok (.istore 6, 2) := by decide +kernel
theorem dX2_soonestByWays_93 : decode cX2_soonestByWays 93 = .ok (.iinc 7 1, 3) := by decide +kernel
theorem dX2_soonestByWays_96 : decode cX2_soonestByWays 96 = .ok (.goto (-77), 3) := by decide +kernel
theorem dX2_soonestByWays_99 : decode cX2_soonestByWays 99 = .ok (.iload 4, 2) := by decide +kernel
theorem dX2_soonestByWays_101 : decode cX2_soonestByWays 101 = .ok (.ifCond .eq 8, 3) := by decide +kernel
theorem dX2_soonestByWays_104 : decode cX2_soonestByWays 104 = .ok (.iload 5, 2) := by decide +kernel
theorem dX2_soonestByWays_106 : decode cX2_soonestByWays 106 = .ok (.ifCond .ge 8, 3) := by decide +kernel
theorem dX2_soonestByWays_109 : decode cX2_soonestByWays 109 = .ok (.iload 5, 2) := by decide +kernel
theorem dX2_soonestByWays_111 : decode cX2_soonestByWays 111 = .ok (.goto 5, 3) := by decide +kernel
theorem dX2_soonestByWays_114 : decode cX2_soonestByWays 114 = .ok (.iload 6, 2) := by decide +kernel
theorem dX2_soonestByWays_116 : decode cX2_soonestByWays 116 = .ok (.ireturn, 1) := by decide +kernel
theorem dX2_firstHarm_0 : decode cX2_firstHarm 0 = .ok (.aload_n 0, 1) := by decide +kernel
theorem dX2_firstHarm_1 : decode cX2_firstHarm 1 = .ok (.getfield 19, 3) := by decide +kernel
theorem dX2_firstHarm_4 : decode cX2_firstHarm 4 = .ok (.iload_n 1, 1) := by decide +kernel
theorem dX2_firstHarm_5 : decode cX2_firstHarm 5 = .ok (.iload_n 3, 1) := by decide +kernel
theorem dX2_firstHarm_6 : decode cX2_firstHarm 6 = .ok (.invokevirtual 37, 3) := by decide +kernel
theorem dX2_firstHarm_9 : decode cX2_firstHarm 9 = .ok (.aload_n 0, 1) := by decide +kernel
theorem dX2_firstHarm_10 : decode cX2_firstHarm 10 = .ok (.getfield 28, 3) := by decide +kernel
theorem dX2_firstHarm_13 : decode cX2_firstHarm 13 = .ok (.iload_n 2, 1) := by decide +kernel
theorem dX2_firstHarm_14 : decode cX2_firstHarm 14 = .ok (.iload_n 3, 1) := by decide +kernel
theorem dX2_firstHarm_15 : decode cX2_firstHarm 15 = .ok (.invokevirtual 37, 3) := by decide +kernel
theorem dX2_firstHarm_18 : decode cX2_firstHarm 18 = .ok (.iconst 0, 1) := by decide +kernel
theorem dX2_firstHarm_19 : decode cX2_firstHarm 19 = .ok (.istore 5, 2) := by decide +kernel
theorem dX2_firstHarm_21 : decode cX2_firstHarm 21 = .ok (.iload 5, 2) := by decide +kernel
theorem dX2_firstHarm_23 : decode cX2_firstHarm 23 = .ok (.sipush 2000, 3) := by decide +kernel
theorem dX2_firstHarm_26 : decode cX2_firstHarm 26 = .ok (.if_icmp .ge 45, 3) := by decide +kernel
theorem dX2_firstHarm_29 : decode cX2_firstHarm 29 = .ok (.aload_n 0, 1) := by decide +kernel
theorem dX2_firstHarm_30 : decode cX2_firstHarm 30 = .ok (.getfield 19, 3) := by decide +kernel
theorem dX2_firstHarm_33 : decode cX2_firstHarm 33 = .ok (.iload 4, 2) := by decide +kernel
theorem dX2_firstHarm_35 : decode cX2_firstHarm 35 = .ok (.iload 5, 2) := by decide +kernel
theorem dX2_firstHarm_37 : decode cX2_firstHarm 37 = .ok (.iadd, 1) := by decide +kernel
theorem dX2_firstHarm_38 : decode cX2_firstHarm 38 = .ok (.invokevirtual 41, 3) := by decide +kernel
theorem dX2_firstHarm_41 : decode cX2_firstHarm 41 = .ok (.ifCond .lt 24, 3) := by decide +kernel
theorem dX2_firstHarm_44 : decode cX2_firstHarm 44 = .ok (.aload_n 0, 1) := by decide +kernel
theorem dX2_firstHarm_45 : decode cX2_firstHarm 45 = .ok (.getfield 28, 3) := by decide +kernel
theorem dX2_firstHarm_48 : decode cX2_firstHarm 48 = .ok (.iload 4, 2) := by decide +kernel
theorem dX2_firstHarm_50 : decode cX2_firstHarm 50 = .ok (.iload 5, 2) := by decide +kernel
theorem dX2_firstHarm_52 : decode cX2_firstHarm 52 = .ok (.iadd, 1) := by decide +kernel
theorem dX2_firstHarm_53 : decode cX2_firstHarm 53 = .ok (.invokevirtual 41, 3) := by decide +kernel
theorem dX2_firstHarm_56 : decode cX2_firstHarm 56 = .ok (.ifCond .ge 9, 3) := by decide +kernel
theorem dX2_firstHarm_59 : decode cX2_firstHarm 59 = .ok (.iload 4, 2) := by decide +kernel
theorem dX2_firstHarm_61 : decode cX2_firstHarm 61 = .ok (.iload 5, 2) := by decide +kernel
theorem dX2_firstHarm_63 : decode cX2_firstHarm 63 = .ok (.iadd, 1) := by decide +kernel
theorem dX2_firstHarm_64 : decode cX2_firstHarm 64 = .ok (.ireturn, 1) := by decide +kernel
theorem dX2_firstHarm_65 : decode cX2_firstHarm 65 = .ok (.iinc 5 1, 3) := by decide +kernel
theorem dX2_firstHarm_68 : decode cX2_firstHarm 68 = .ok (.goto (-47), 3) := by decide +kernel
theorem dX2_firstHarm_71 : decode cX2_firstHarm 71 = .ok (.bipush (-2), 2) := by decide +kernel
theorem dX2_firstHarm_73 : decode cX2_firstHarm 73 = .ok (.ireturn, 1) := by decide +kernel
theorem dX2_firstWith_0 : decode cX2_firstWith 0 = .ok (.ldc 75, 2) := by decide +kernel
theorem dX2_firstWith_2 : decode cX2_firstWith 2 = .ok (.aload_n 0, 1) := by decide +kernel
theorem dX2_firstWith_3 : decode cX2_firstWith 3 = .ok (.getfield 9, 3) := by decide +kernel
theorem dX2_firstWith_6 : decode cX2_firstWith 6 = .ok (.invokevirtual 76, 3) := by decide +kernel
theorem dX2_firstWith_9 : decode cX2_firstWith 9 = .ok (.invokestatic 67, 3) := by decide +kernel
theorem dX2_firstWith_12 : decode cX2_firstWith 12 = .ok (.istore 4, 2) := by decide +kernel
theorem dX2_firstWith_14 : decode cX2_firstWith 14 = .ok (.iconst 0, 1) := by decide +kernel
theorem dX2_firstWith_15 : decode cX2_firstWith 15 = .ok (.istore 5, 2) := by decide +kernel
theorem dX2_firstWith_17 : decode cX2_firstWith 17 = .ok (.iload 5, 2) := by decide +kernel
theorem dX2_firstWith_19 : decode cX2_firstWith 19 = .ok (.iload 4, 2) := by decide +kernel
theorem dX2_firstWith_21 : decode cX2_firstWith 21 = .ok (.if_icmp .ge 30, 3) := by decide +kernel
theorem dX2_firstWith_24 : decode cX2_firstWith 24 = .ok (.aload_n 0, 1) := by decide +kernel
theorem dX2_firstWith_25 : decode cX2_firstWith 25 = .ok (.getfield 9, 3) := by decide +kernel
theorem dX2_firstWith_28 : decode cX2_firstWith 28 = .ok (.iload_n 1, 1) := by decide +kernel
theorem dX2_firstWith_29 : decode cX2_firstWith 29 = .ok (.iload_n 2, 1) := by decide +kernel
theorem dX2_firstWith_30 : decode cX2_firstWith 30 = .ok (.iload 5, 2) := by decide +kernel
theorem dX2_firstWith_32 : decode cX2_firstWith 32 = .ok (.iadd, 1) := by decide +kernel
theorem dX2_firstWith_33 : decode cX2_firstWith 33 = .ok (.invokevirtual 79, 3) := by decide +kernel
theorem dX2_firstWith_36 : decode cX2_firstWith 36 = .ok (.iload_n 3, 1) := by decide +kernel
theorem dX2_firstWith_37 : decode cX2_firstWith 37 = .ok (.if_icmp .ne 8, 3) := by decide +kernel
theorem dX2_firstWith_40 : decode cX2_firstWith 40 = .ok (.iload_n 2, 1) := by decide +kernel
theorem dX2_firstWith_41 : decode cX2_firstWith 41 = .ok (.iload 5, 2) := by decide +kernel
theorem dX2_firstWith_43 : decode cX2_firstWith 43 = .ok (.iadd, 1) := by decide +kernel
theorem dX2_firstWith_44 : decode cX2_firstWith 44 = .ok (.ireturn, 1) := by decide +kernel
theorem dX2_firstWith_45 : decode cX2_firstWith 45 = .ok (.iinc 5 1, 3) := by decide +kernel
theorem dX2_firstWith_48 : decode cX2_firstWith 48 = .ok (.goto (-31), 3) := by decide +kernel
theorem dX2_firstWith_51 : decode cX2_firstWith 51 = .ok (.bipush (-2), 2) := by decide +kernel
theorem dX2_firstWith_53 : decode cX2_firstWith 53 = .ok (.ireturn, 1) := by decide +kernel
theorem dX2_longestRow_0 : decode cX2_longestRow 0 = .ok (.iconst 0, 1) := by decide +kernel
theorem dX2_longestRow_1 : decode cX2_longestRow 1 = .ok (.istore 5, 2) := by decide +kernel
theorem dX2_longestRow_3 : decode cX2_longestRow 3 = .ok (.iload_n 2, 1) := by decide +kernel
theorem dX2_longestRow_4 : decode cX2_longestRow 4 = .ok (.istore 6, 2) := by decide +kernel
theorem dX2_longestRow_6 : decode cX2_longestRow 6 = .ok (.iconst 0, 1) := by decide +kernel
theorem dX2_longestRow_7 : decode cX2_longestRow 7 = .ok (.istore 7, 2) := by decide +kernel
theorem dX2_longestRow_9 : decode cX2_longestRow 9 = .ok (.bipush (-2), 2) := by decide +kernel
theorem dX2_longestRow_11 : decode cX2_longestRow 11 = .ok (.istore 8, 2) := by decide +kernel
theorem dX2_longestRow_13 : decode cX2_longestRow 13 = .ok (.iconst 0, 1) := by decide +kernel
theorem dX2_longestRow_14 : decode cX2_longestRow 14 = .ok (.istore 9, 2) := by decide +kernel
theorem dX2_longestRow_16 : decode cX2_longestRow 16 = .ok (.iload 9, 2) := by decide +kernel
theorem dX2_longestRow_18 : decode cX2_longestRow 18 = .ok (.iload_n 3, 1) := by decide +kernel
theorem dX2_longestRow_19 : decode cX2_longestRow 19 = .ok (.if_icmp .ge 66, 3) := by decide +kernel
theorem dX2_longestRow_22 : decode cX2_longestRow 22 = .ok (.aload_n 0, 1) := by decide +kernel
theorem dX2_longestRow_23 : decode cX2_longestRow 23 = .ok (.getfield 9, 3) := by decide +kernel
theorem dX2_longestRow_26 : decode cX2_longestRow 26 = .ok (.iload_n 1, 1) := by decide +kernel
theorem dX2_longestRow_27 : decode cX2_longestRow 27 = .ok (.iload_n 2, 1) := by decide +kernel
theorem dX2_longestRow_28 : decode cX2_longestRow 28 = .ok (.iload 9, 2) := by decide +kernel
theorem dX2_longestRow_30 : decode cX2_longestRow 30 = .ok (.iadd, 1) := by decide +kernel
theorem dX2_longestRow_31 : decode cX2_longestRow 31 = .ok (.invokevirtual 79, 3) := by decide +kernel
theorem dX2_longestRow_34 : decode cX2_longestRow 34 = .ok (.istore 10, 2) := by decide +kernel
theorem dX2_longestRow_36 : decode cX2_longestRow 36 = .ok (.iload 10, 2) := by decide +kernel
theorem dX2_longestRow_38 : decode cX2_longestRow 38 = .ok (.iload 8, 2) := by decide +kernel
theorem dX2_longestRow_40 : decode cX2_longestRow 40 = .ok (.if_icmp .ne 10, 3) := by decide +kernel
theorem dX2_longestRow_43 : decode cX2_longestRow 43 = .ok (.iload 7, 2) := by decide +kernel
theorem dX2_longestRow_45 : decode cX2_longestRow 45 = .ok (.iconst 1, 1) := by decide +kernel
theorem dX2_longestRow_46 : decode cX2_longestRow 46 = .ok (.iadd, 1) := by decide +kernel
theorem dX2_longestRow_47 : decode cX2_longestRow 47 = .ok (.goto 4, 3) := by decide +kernel
theorem dX2_longestRow_50 : decode cX2_longestRow 50 = .ok (.iconst 1, 1) := by decide +kernel
theorem dX2_longestRow_51 : decode cX2_longestRow 51 = .ok (.istore 7, 2) := by decide +kernel
theorem dX2_longestRow_53 : decode cX2_longestRow 53 = .ok (.iload 10, 2) := by decide +kernel
theorem dX2_longestRow_55 : decode cX2_longestRow 55 = .ok (.istore 8, 2) := by decide +kernel
theorem dX2_longestRow_57 : decode cX2_longestRow 57 = .ok (.iload 7, 2) := by decide +kernel
theorem dX2_longestRow_59 : decode cX2_longestRow 59 = .ok (.iload 5, 2) := by decide +kernel
theorem dX2_longestRow_61 : decode cX2_longestRow 61 = .ok (.if_icmp .le 18, 3) := by decide +kernel
theorem dX2_longestRow_64 : decode cX2_longestRow 64 = .ok (.iload 7, 2) := by decide +kernel
theorem dX2_longestRow_66 : decode cX2_longestRow 66 = .ok (.istore 5, 2) := by decide +kernel
theorem dX2_longestRow_68 : decode cX2_longestRow 68 = .ok (.iload_n 2, 1) := by decide +kernel
theorem dX2_longestRow_69 : decode cX2_longestRow 69 = .ok (.iload 9, 2) := by decide +kernel
theorem dX2_longestRow_71 : decode cX2_longestRow 71 = .ok (.iadd, 1) := by decide +kernel
theorem dX2_longestRow_72 : decode cX2_longestRow 72 = .ok (.iload 7, 2) := by decide +kernel
theorem dX2_longestRow_74 : decode cX2_longestRow 74 = .ok (.isub, 1) := by decide +kernel
theorem dX2_longestRow_75 : decode cX2_longestRow 75 = .ok (.iconst 1, 1) := by decide +kernel
theorem dX2_longestRow_76 : decode cX2_longestRow 76 = .ok (.iadd, 1) := by decide +kernel
theorem dX2_longestRow_77 : decode cX2_longestRow 77 = .ok (.istore 6, 2) := by decide +kernel
theorem dX2_longestRow_79 : decode cX2_longestRow 79 = .ok (.iinc 9 1, 3) := by decide +kernel
theorem dX2_longestRow_82 : decode cX2_longestRow 82 = .ok (.goto (-66), 3) := by decide +kernel
theorem dX2_longestRow_85 : decode cX2_longestRow 85 = .ok (.iload 4, 2) := by decide +kernel
theorem dX2_longestRow_87 : decode cX2_longestRow 87 = .ok (.ifCond .ne 8, 3) := by decide +kernel
theorem dX2_longestRow_90 : decode cX2_longestRow 90 = .ok (.iload 5, 2) := by decide +kernel
theorem dX2_longestRow_92 : decode cX2_longestRow 92 = .ok (.goto 5, 3) := by decide +kernel
theorem dX2_longestRow_95 : decode cX2_longestRow 95 = .ok (.iload 6, 2) := by decide +kernel
theorem dX2_longestRow_97 : decode cX2_longestRow 97 = .ok (.ireturn, 1) := by decide +kernel
theorem dX2_oddsByClouds_0 : decode cX2_oddsByClouds 0 = .ok (.ldc2_w 82, 3) := by decide +kernel
theorem dX2_oddsByClouds_3 : decode cX2_oddsByClouds 3 = .ok (.lstore 4, 2) := by decide +kernel
theorem dX2_oddsByClouds_5 : decode cX2_oddsByClouds 5 = .ok (.iconst 0, 1) := by decide +kernel
theorem dX2_oddsByClouds_6 : decode cX2_oddsByClouds 6 = .ok (.istore 6, 2) := by decide +kernel
theorem dX2_oddsByClouds_8 : decode cX2_oddsByClouds 8 = .ok (.iload 6, 2) := by decide +kernel
theorem dX2_oddsByClouds_10 : decode cX2_oddsByClouds 10 = .ok (.iload_n 1, 1) := by decide +kernel
theorem dX2_oddsByClouds_11 : decode cX2_oddsByClouds 11 = .ok (.if_icmp .ge 73, 3) := by decide +kernel
theorem dX2_oddsByClouds_14 : decode cX2_oddsByClouds 14 = .ok (.aload_n 0, 1) := by decide +kernel
theorem dX2_oddsByClouds_15 : decode cX2_oddsByClouds 15 = .ok (.getfield 19, 3) := by decide +kernel
theorem dX2_oddsByClouds_18 : decode cX2_oddsByClouds 18 = .ok (.iload_n 2, 1) := by decide +kernel
theorem dX2_oddsByClouds_19 : decode cX2_oddsByClouds 19 = .ok (.iload 6, 2) := by decide +kernel
theorem dX2_oddsByClouds_21 : decode cX2_oddsByClouds 21 = .ok (.iadd, 1) := by decide +kernel
theorem dX2_oddsByClouds_22 : decode cX2_oddsByClouds 22 = .ok (.invokevirtual 84, 3) := by decide +kernel
theorem dX2_oddsByClouds_25 : decode cX2_oddsByClouds 25 = .ok (.istore 7, 2) := by decide +kernel
theorem dX2_oddsByClouds_27 : decode cX2_oddsByClouds 27 = .ok (.lconst 1, 1) := by decide +kernel
theorem dX2_oddsByClouds_28 : decode cX2_oddsByClouds 28 = .ok (.lstore 8, 2) := by decide +kernel
theorem dX2_oddsByClouds_30 : decode cX2_oddsByClouds 30 = .ok (.iconst 0, 1) := by decide +kernel
theorem dX2_oddsByClouds_31 : decode cX2_oddsByClouds 31 = .ok (.istore 10, 2) := by decide +kernel
theorem dX2_oddsByClouds_33 : decode cX2_oddsByClouds 33 = .ok (.iload 10, 2) := by decide +kernel
theorem dX2_oddsByClouds_35 : decode cX2_oddsByClouds 35 = .ok (.iload 7, 2) := by decide +kernel
theorem dX2_oddsByClouds_37 : decode cX2_oddsByClouds 37 = .ok (.invokestatic 87, 3) := by decide +kernel
theorem dX2_oddsByClouds_40 : decode cX2_oddsByClouds 40 = .ok (.if_icmp .ge 17, 3) := by decide +kernel
theorem dX2_oddsByClouds_43 : decode cX2_oddsByClouds 43 = .ok (.lload 8, 2) := by decide +kernel
theorem dX2_oddsByClouds_45 : decode cX2_oddsByClouds 45 = .ok (.ldc2_w 90, 3) := by decide +kernel
theorem dX2_oddsByClouds_48 : decode cX2_oddsByClouds 48 = .ok (.lmul, 1) := by decide +kernel
theorem dX2_oddsByClouds_49 : decode cX2_oddsByClouds 49 = .ok (.lstore 8, 2) := by decide +kernel
theorem dX2_oddsByClouds_51 : decode cX2_oddsByClouds 51 = .ok (.iinc 10 1, 3) := by decide +kernel
theorem dX2_oddsByClouds_54 : decode cX2_oddsByClouds 54 = .ok (.goto (-21), 3) := by decide +kernel
theorem dX2_oddsByClouds_57 : decode cX2_oddsByClouds 57 = .ok (.lload 4, 2) := by decide +kernel
theorem dX2_oddsByClouds_59 : decode cX2_oddsByClouds 59 = .ok (.aload_n 0, 1) := by decide +kernel
theorem dX2_oddsByClouds_60 : decode cX2_oddsByClouds 60 = .ok (.iload 6, 2) := by decide +kernel
theorem dX2_oddsByClouds_62 : decode cX2_oddsByClouds 62 = .ok (.iload_n 2, 1) := by decide +kernel
theorem dX2_oddsByClouds_63 : decode cX2_oddsByClouds 63 = .ok (.iload 6, 2) := by decide +kernel
theorem dX2_oddsByClouds_65 : decode cX2_oddsByClouds 65 = .ok (.iadd, 1) := by decide +kernel
theorem dX2_oddsByClouds_66 : decode cX2_oddsByClouds 66 = .ok (.iload 7, 2) := by decide +kernel
theorem dX2_oddsByClouds_68 : decode cX2_oddsByClouds 68 = .ok (.iload_n 3, 1) := by decide +kernel
theorem dX2_oddsByClouds_69 : decode cX2_oddsByClouds 69 = .ok (.invokevirtual 92, 3) := by decide +kernel
theorem dX2_oddsByClouds_72 : decode cX2_oddsByClouds 72 = .ok (.lmul, 1) := by decide +kernel
theorem dX2_oddsByClouds_73 : decode cX2_oddsByClouds 73 = .ok (.lload 8, 2) := by decide +kernel
theorem dX2_oddsByClouds_75 : decode cX2_oddsByClouds 75 = .ok (.ldiv, 1) := by decide +kernel
theorem dX2_oddsByClouds_76 : decode cX2_oddsByClouds 76 = .ok (.lstore 4, 2) := by decide +kernel
theorem dX2_oddsByClouds_78 : decode cX2_oddsByClouds 78 = .ok (.iinc 6 1, 3) := by decide +kernel
theorem dX2_oddsByClouds_81 : decode cX2_oddsByClouds 81 = .ok (.goto (-73), 3) := by decide +kernel
theorem dX2_oddsByClouds_84 : decode cX2_oddsByClouds 84 = .ok (.lload 4, 2) := by decide +kernel
theorem dX2_oddsByClouds_86 : decode cX2_oddsByClouds 86 = .ok (.l2i, 1) := by decide +kernel
theorem dX2_oddsByClouds_87 : decode cX2_oddsByClouds 87 = .ok (.ireturn, 1) := by decide +kernel
theorem dX2_lawfulSights_0 : decode cX2_lawfulSights 0 = .ok (.lconst 0, 1) := by decide +kernel
theorem dX2_lawfulSights_1 : decode cX2_lawfulSights 1 = .ok (.lstore 5, 2) := by decide +kernel
theorem dX2_lawfulSights_3 : decode cX2_lawfulSights 3 = .ok (.iconst 0, 1) := by decide +kernel
theorem dX2_lawfulSights_4 : decode cX2_lawfulSights 4 = .ok (.istore 7, 2) := by decide +kernel
theorem dX2_lawfulSights_6 : decode cX2_lawfulSights 6 = .ok (.iload 7, 2) := by decide +kernel
theorem dX2_lawfulSights_8 : decode cX2_lawfulSights 8 = .ok (.iload_n 3, 1) := by decide +kernel
theorem dX2_lawfulSights_9 : decode cX2_lawfulSights 9 = .ok (.if_icmp .gt 46, 3) := by decide +kernel
theorem dX2_lawfulSights_12 : decode cX2_lawfulSights 12 = .ok (.iload 7, 2) := by decide +kernel
theorem dX2_lawfulSights_14 : decode cX2_lawfulSights 14 = .ok (.iload_n 3, 1) := by decide +kernel
theorem dX2_lawfulSights_15 : decode cX2_lawfulSights 15 = .ok (.iconst (-1), 1) := by decide +kernel
theorem dX2_lawfulSights_16 : decode cX2_lawfulSights 16 = .ok (.ixor, 1) := by decide +kernel
theorem dX2_lawfulSights_17 : decode cX2_lawfulSights 17 = .ok (.iand, 1) := by decide +kernel
theorem dX2_lawfulSights_18 : decode cX2_lawfulSights 18 = .ok (.ifCond .ne 31, 3) := by decide +kernel
theorem dX2_lawfulSights_21 : decode cX2_lawfulSights 21 = .ok (.aload_n 0, 1) := by decide +kernel
theorem dX2_lawfulSights_22 : decode cX2_lawfulSights 22 = .ok (.getfield 19, 3) := by decide +kernel
theorem dX2_lawfulSights_25 : decode cX2_lawfulSights 25 = .ok (.iload_n 1, 1) := by decide +kernel
theorem dX2_lawfulSights_26 : decode cX2_lawfulSights 26 = .ok (.iload_n 2, 1) := by decide +kernel
theorem dX2_lawfulSights_27 : decode cX2_lawfulSights 27 = .ok (.iload 7, 2) := by decide +kernel
theorem dX2_lawfulSights_29 : decode cX2_lawfulSights 29 = .ok (.invokevirtual 96, 3) := by decide +kernel
theorem dX2_lawfulSights_32 : decode cX2_lawfulSights 32 = .ok (.ifCond .lt 17, 3) := by decide +kernel
theorem dX2_lawfulSights_35 : decode cX2_lawfulSights 35 = .ok (.lload 5, 2) := by decide +kernel
theorem dX2_lawfulSights_37 : decode cX2_lawfulSights 37 = .ok (.aload_n 0, 1) := by decide +kernel
theorem dX2_lawfulSights_38 : decode cX2_lawfulSights 38 = .ok (.iload 7, 2) := by decide +kernel
theorem dX2_lawfulSights_40 : decode cX2_lawfulSights 40 = .ok (.iload_n 3, 1) := by decide +kernel
theorem dX2_lawfulSights_41 : decode cX2_lawfulSights 41 = .ok (.iload 4, 2) := by decide +kernel
theorem dX2_lawfulSights_43 : decode cX2_lawfulSights 43 = .ok (.invokevirtual 100, 3) := by decide +kernel
theorem dX2_lawfulSights_46 : decode cX2_lawfulSights 46 = .ok (.ladd, 1) := by decide +kernel
theorem dX2_lawfulSights_47 : decode cX2_lawfulSights 47 = .ok (.lstore 5, 2) := by decide +kernel
theorem dX2_lawfulSights_49 : decode cX2_lawfulSights 49 = .ok (.iinc 7 1, 3) := by decide +kernel
theorem dX2_lawfulSights_52 : decode cX2_lawfulSights 52 = .ok (.goto (-46), 3) := by decide +kernel
theorem dX2_lawfulSights_55 : decode cX2_lawfulSights 55 = .ok (.lload 5, 2) := by decide +kernel
theorem dX2_lawfulSights_57 : decode cX2_lawfulSights 57 = .ok (.lreturn, 1) := by decide +kernel
theorem dX2_chanceOf_0 : decode cX2_chanceOf 0 = .ok (.lconst 1, 1) := by decide +kernel
theorem dX2_chanceOf_1 : decode cX2_chanceOf 1 = .ok (.lstore 4, 2) := by decide +kernel
theorem dX2_chanceOf_3 : decode cX2_chanceOf 3 = .ok (.iconst 0, 1) := by decide +kernel
theorem dX2_chanceOf_4 : decode cX2_chanceOf 4 = .ok (.istore 6, 2) := by decide +kernel
theorem dX2_chanceOf_6 : decode cX2_chanceOf 6 = .ok (.iload 6, 2) := by decide +kernel
theorem dX2_chanceOf_8 : decode cX2_chanceOf 8 = .ok (.iconst 3, 1) := by decide +kernel
theorem dX2_chanceOf_9 : decode cX2_chanceOf 9 = .ok (.if_icmp .ge 42, 3) := by decide +kernel
theorem dX2_chanceOf_12 : decode cX2_chanceOf 12 = .ok (.iload_n 2, 1) := by decide +kernel
theorem dX2_chanceOf_13 : decode cX2_chanceOf 13 = .ok (.iload 6, 2) := by decide +kernel
theorem dX2_chanceOf_15 : decode cX2_chanceOf 15 = .ok (.ishr, 1) := by decide +kernel
theorem dX2_chanceOf_16 : decode cX2_chanceOf 16 = .ok (.iconst 1, 1) := by decide +kernel
theorem dX2_chanceOf_17 : decode cX2_chanceOf 17 = .ok (.iand, 1) := by decide +kernel
theorem dX2_chanceOf_18 : decode cX2_chanceOf 18 = .ok (.ifCond .eq 27, 3) := by decide +kernel
theorem dX2_chanceOf_21 : decode cX2_chanceOf 21 = .ok (.lload 4, 2) := by decide +kernel
theorem dX2_chanceOf_23 : decode cX2_chanceOf 23 = .ok (.iload_n 1, 1) := by decide +kernel
theorem dX2_chanceOf_24 : decode cX2_chanceOf 24 = .ok (.iload 6, 2) := by decide +kernel
theorem dX2_chanceOf_26 : decode cX2_chanceOf 26 = .ok (.ishr, 1) := by decide +kernel
theorem dX2_chanceOf_27 : decode cX2_chanceOf 27 = .ok (.iconst 1, 1) := by decide +kernel
theorem dX2_chanceOf_28 : decode cX2_chanceOf 28 = .ok (.iand, 1) := by decide +kernel
theorem dX2_chanceOf_29 : decode cX2_chanceOf 29 = .ok (.ifCond .eq 11, 3) := by decide +kernel
theorem dX2_chanceOf_32 : decode cX2_chanceOf 32 = .ok (.bipush 100, 2) := by decide +kernel
theorem dX2_chanceOf_34 : decode cX2_chanceOf 34 = .ok (.iload_n 3, 1) := by decide +kernel
theorem dX2_chanceOf_35 : decode cX2_chanceOf 35 = .ok (.isub, 1) := by decide +kernel
theorem dX2_chanceOf_36 : decode cX2_chanceOf 36 = .ok (.i2l, 1) := by decide +kernel
theorem dX2_chanceOf_37 : decode cX2_chanceOf 37 = .ok (.goto 5, 3) := by decide +kernel
theorem dX2_chanceOf_40 : decode cX2_chanceOf 40 = .ok (.iload_n 3, 1) := by decide +kernel
theorem dX2_chanceOf_41 : decode cX2_chanceOf 41 = .ok (.i2l, 1) := by decide +kernel
theorem dX2_chanceOf_42 : decode cX2_chanceOf 42 = .ok (.lmul, 1) := by decide +kernel
theorem dX2_chanceOf_43 : decode cX2_chanceOf 43 = .ok (.lstore 4, 2) := by decide +kernel
theorem dX2_chanceOf_45 : decode cX2_chanceOf 45 = .ok (.iinc 6 1, 3) := by decide +kernel
theorem dX2_chanceOf_48 : decode cX2_chanceOf 48 = .ok (.goto (-42), 3) := by decide +kernel
theorem dX2_chanceOf_51 : decode cX2_chanceOf 51 = .ok (.lload 4, 2) := by decide +kernel
theorem dX2_chanceOf_53 : decode cX2_chanceOf 53 = .ok (.lreturn, 1) := by decide +kernel
theorem dX2_lawfulHours_0 : decode cX2_lawfulHours 0 = .ok (.aload_n 0, 1) := by decide +kernel
theorem dX2_lawfulHours_1 : decode cX2_lawfulHours 1 = .ok (.getfield 19, 3) := by decide +kernel
theorem dX2_lawfulHours_4 : decode cX2_lawfulHours 4 = .ok (.iload_n 1, 1) := by decide +kernel
theorem dX2_lawfulHours_5 : decode cX2_lawfulHours 5 = .ok (.iload_n 2, 1) := by decide +kernel
theorem dX2_lawfulHours_6 : decode cX2_lawfulHours 6 = .ok (.invokevirtual 37, 3) := by decide +kernel
theorem dX2_lawfulHours_9 : decode cX2_lawfulHours 9 = .ok (.iconst 0, 1) := by decide +kernel
theorem dX2_lawfulHours_10 : decode cX2_lawfulHours 10 = .ok (.istore 5, 2) := by decide +kernel
theorem dX2_lawfulHours_12 : decode cX2_lawfulHours 12 = .ok (.iconst 0, 1) := by decide +kernel
theorem dX2_lawfulHours_13 : decode cX2_lawfulHours 13 = .ok (.istore 6, 2) := by decide +kernel
theorem dX2_lawfulHours_15 : decode cX2_lawfulHours 15 = .ok (.iload 6, 2) := by decide +kernel
theorem dX2_lawfulHours_17 : decode cX2_lawfulHours 17 = .ok (.iload 4, 2) := by decide +kernel
theorem dX2_lawfulHours_19 : decode cX2_lawfulHours 19 = .ok (.if_icmp .ge 26, 3) := by decide +kernel
theorem dX2_lawfulHours_22 : decode cX2_lawfulHours 22 = .ok (.aload_n 0, 1) := by decide +kernel
theorem dX2_lawfulHours_23 : decode cX2_lawfulHours 23 = .ok (.getfield 19, 3) := by decide +kernel
theorem dX2_lawfulHours_26 : decode cX2_lawfulHours 26 = .ok (.iload_n 3, 1) := by decide +kernel
theorem dX2_lawfulHours_27 : decode cX2_lawfulHours 27 = .ok (.iload 6, 2) := by decide +kernel
theorem dX2_lawfulHours_29 : decode cX2_lawfulHours 29 = .ok (.iadd, 1) := by decide +kernel
theorem dX2_lawfulHours_30 : decode cX2_lawfulHours 30 = .ok (.invokevirtual 41, 3) := by decide +kernel
theorem dX2_lawfulHours_33 : decode cX2_lawfulHours 33 = .ok (.ifCond .lt 6, 3) := by decide +kernel
theorem dX2_lawfulHours_36 : decode cX2_lawfulHours 36 = .ok (.iinc 5 1, 3) := by decide +kernel
theorem dX2_lawfulHours_39 : decode cX2_lawfulHours 39 = .ok (.iinc 6 1, 3) := by decide +kernel
theorem dX2_lawfulHours_42 : decode cX2_lawfulHours 42 = .ok (.goto (-27), 3) := by decide +kernel
theorem dX2_lawfulHours_45 : decode cX2_lawfulHours 45 = .ok (.iload 5, 2) := by decide +kernel
theorem dX2_lawfulHours_47 : decode cX2_lawfulHours 47 = .ok (.ireturn, 1) := by decide +kernel
theorem dX2_deedOfYear_0 : decode cX2_deedOfYear 0 = .ok (.iconst 0, 1) := by decide +kernel
theorem dX2_deedOfYear_1 : decode cX2_deedOfYear 1 = .ok (.istore 4, 2) := by decide +kernel
theorem dX2_deedOfYear_3 : decode cX2_deedOfYear 3 = .ok (.iconst (-1), 1) := by decide +kernel
theorem dX2_deedOfYear_4 : decode cX2_deedOfYear 4 = .ok (.istore 5, 2) := by decide +kernel
theorem dX2_deedOfYear_6 : decode cX2_deedOfYear 6 = .ok (.iconst 0, 1) := by decide +kernel
theorem dX2_deedOfYear_7 : decode cX2_deedOfYear 7 = .ok (.istore 6, 2) := by decide +kernel
theorem dX2_deedOfYear_9 : decode cX2_deedOfYear 9 = .ok (.iload 6, 2) := by decide +kernel
theorem dX2_deedOfYear_11 : decode cX2_deedOfYear 11 = .ok (.aload_n 0, 1) := by decide +kernel
theorem dX2_deedOfYear_12 : decode cX2_deedOfYear 12 = .ok (.getfield 15, 3) := by decide +kernel
theorem dX2_deedOfYear_15 : decode cX2_deedOfYear 15 = .ok (.invokevirtual 31, 3) := by decide +kernel
theorem dX2_deedOfYear_18 : decode cX2_deedOfYear 18 = .ok (.if_icmp .ge 35, 3) := by decide +kernel
theorem dX2_deedOfYear_21 : decode cX2_deedOfYear 21 = .ok (.aload_n 0, 1) := by decide +kernel
theorem dX2_deedOfYear_22 : decode cX2_deedOfYear 22 = .ok (.iload 6, 2) := by decide +kernel
theorem dX2_deedOfYear_24 : decode cX2_deedOfYear 24 = .ok (.iload_n 1, 1) := by decide +kernel
theorem dX2_deedOfYear_25 : decode cX2_deedOfYear 25 = .ok (.iload_n 2, 1) := by decide +kernel
theorem dX2_deedOfYear_26 : decode cX2_deedOfYear 26 = .ok (.iload_n 3, 1) := by decide +kernel
theorem dX2_deedOfYear_27 : decode cX2_deedOfYear 27 = .ok (.invokevirtual 104, 3) := by decide +kernel
theorem dX2_deedOfYear_30 : decode cX2_deedOfYear 30 = .ok (.istore 7, 2) := by decide +kernel
theorem dX2_deedOfYear_32 : decode cX2_deedOfYear 32 = .ok (.iload 7, 2) := by decide +kernel
theorem dX2_deedOfYear_34 : decode cX2_deedOfYear 34 = .ok (.iload 5, 2) := by decide +kernel
theorem dX2_deedOfYear_36 : decode cX2_deedOfYear 36 = .ok (.if_icmp .le 11, 3) := by decide +kernel
theorem dX2_deedOfYear_39 : decode cX2_deedOfYear 39 = .ok (.iload 6, 2) := by decide +kernel
theorem dX2_deedOfYear_41 : decode cX2_deedOfYear 41 = .ok (.istore 4, 2) := by decide +kernel
theorem dX2_deedOfYear_43 : decode cX2_deedOfYear 43 = .ok (.iload 7, 2) := by decide +kernel
theorem dX2_deedOfYear_45 : decode cX2_deedOfYear 45 = .ok (.istore 5, 2) := by decide +kernel
theorem dX2_deedOfYear_47 : decode cX2_deedOfYear 47 = .ok (.iinc 6 1, 3) := by decide +kernel
theorem dX2_deedOfYear_50 : decode cX2_deedOfYear 50 = .ok (.goto (-41), 3) := by decide +kernel
theorem dX2_deedOfYear_53 : decode cX2_deedOfYear 53 = .ok (.iload 4, 2) := by decide +kernel
theorem dX2_deedOfYear_55 : decode cX2_deedOfYear 55 = .ok (.ireturn, 1) := by decide +kernel
theorem dX3_init_0 : decode cX3_init 0 = .ok (.aload_n 0, 1) := by decide +kernel
theorem dX3_init_1 : decode cX3_init 1 = .ok (.invokespecial 3, 3) := by decide +kernel
theorem dX3_init_4 : decode cX3_init 4 = .ok (.aload_n 0, 1) := by decide +kernel
theorem dX3_init_5 : decode cX3_init 5 = .ok (.bipush 40, 2) := by decide +kernel
theorem dX3_init_7 : decode cX3_init 7 = .ok (.newarray .int, 2) := by decide +kernel
theorem dX3_init_9 : decode cX3_init 9 = .ok (.putfield 9, 3) := by decide +kernel
theorem dX3_init_12 : decode cX3_init 12 = .ok (.aload_n 0, 1) := by decide +kernel
theorem dX3_init_13 : decode cX3_init 13 = .ok (.bipush 40, 2) := by decide +kernel
theorem dX3_init_15 : decode cX3_init 15 = .ok (.newarray .int, 2) := by decide +kernel
theorem dX3_init_17 : decode cX3_init 17 = .ok (.putfield 15, 3) := by decide +kernel
theorem dX3_init_20 : decode cX3_init 20 = .ok (.aload_n 0, 1) := by decide +kernel
theorem dX3_init_21 : decode cX3_init 21 = .ok (.bipush 40, 2) := by decide +kernel
theorem dX3_init_23 : decode cX3_init 23 = .ok (.newarray .int, 2) := by decide +kernel
theorem dX3_init_25 : decode cX3_init 25 = .ok (.putfield 18, 3) := by decide +kernel
theorem dX3_init_28 : decode cX3_init 28 = .ok (.aload_n 0, 1) := by decide +kernel
theorem dX3_init_29 : decode cX3_init 29 = .ok (.bipush 40, 2) := by decide +kernel
theorem dX3_init_31 : decode cX3_init 31 = .ok (.newarray .int, 2) := by decide +kernel
theorem dX3_init_33 : decode cX3_init 33 = .ok (.putfield 21, 3) := by decide +kernel
theorem dX3_init_36 : decode cX3_init 36 = .ok (.aload_n 0, 1) := by decide +kernel
theorem dX3_init_37 : decode cX3_init 37 = .ok (.iconst 0, 1) := by decide +kernel
theorem dX3_init_38 : decode cX3_init 38 = .ok (.putfield 24, 3) := by decide +kernel
theorem dX3_init_41 : decode cX3_init 41 = .ok (.aload_n 0, 1) := by decide +kernel
theorem dX3_init_42 : decode cX3_init 42 = .ok (.iconst 0, 1) := by decide +kernel
theorem dX3_init_43 : decode cX3_init 43 = .ok (.putfield 28, 3) := by decide +kernel
theorem dX3_init_46 : decode cX3_init 46 = .ok (.aload_n 0, 1) := by decide +kernel
theorem dX3_init_47 : decode cX3_init 47 = .ok (.aload_n 1, 1) := by decide +kernel
theorem dX3_init_48 : decode cX3_init 48 = .ok (.putfield 31, 3) := by decide +kernel
theorem dX3_init_51 : decode cX3_init 51 = .ok (.aload_n 0, 1) := by decide +kernel
theorem dX3_init_52 : decode cX3_init 52 = .ok (.aload_n 2, 1) := by decide +kernel
theorem dX3_init_53 : decode cX3_init 53 = .ok (.putfield 35, 3) := by decide +kernel
theorem dX3_init_56 : decode cX3_init 56 = .ok (.return_, 1) := by decide +kernel
theorem dX3_size_0 : decode cX3_size 0 = .ok (.aload_n 0, 1) := by decide +kernel
theorem dX3_size_1 : decode cX3_size 1 = .ok (.getfield 24, 3) := by decide +kernel
theorem dX3_size_4 : decode cX3_size 4 = .ok (.ireturn, 1) := by decide +kernel
theorem dX3_isSo_0 : decode cX3_isSo 0 = .ok (.iload_n 2, 1) := by decide +kernel
theorem dX3_isSo_1 : decode cX3_isSo 1 = .ok (.tableswitch 151 0 3 #[31, 64, 97, 125], 31) := by decide +kernel
theorem dX3_isSo_32 : decode cX3_isSo 32 = .ok (.aload_n 0, 1) := by decide +kernel
theorem dX3_isSo_33 : decode cX3_isSo 33 = .ok (.getfield 31, 3) := by decide +kernel
theorem dX3_isSo_36 : decode cX3_isSo 36 = .ok (.iload_n 1, 1) := by decide +kernel
theorem dX3_isSo_37 : decode cX3_isSo 37 = .ok (.invokevirtual 39, 3) := by decide +kernel
theorem dX3_isSo_40 : decode cX3_isSo 40 = .ok (.ifCond .eq 23, 3) := by decide +kernel
theorem dX3_isSo_43 : decode cX3_isSo 43 = .ok (.iload_n 3, 1) := by decide +kernel
theorem dX3_isSo_44 : decode cX3_isSo 44 = .ok (.ifCond .lt 19, 3) := by decide +kernel
theorem dX3_isSo_47 : decode cX3_isSo 47 = .ok (.iload_n 3, 1) := by decide +kernel
theorem dX3_isSo_48 : decode cX3_isSo 48 = .ok (.aload_n 0, 1) := by decide +kernel
theorem dX3_isSo_49 : decode cX3_isSo 49 = .ok (.getfield 31, 3) := by decide +kernel
theorem dX3_isSo_52 : decode cX3_isSo 52 = .ok (.iload_n 1, 1) := by decide +kernel
theorem dX3_isSo_53 : decode cX3_isSo 53 = .ok (.invokevirtual 45, 3) := by decide +kernel
theorem dX3_isSo_56 : decode cX3_isSo 56 = .ok (.if_icmp .gt 7, 3) := by decide +kernel
theorem dX3_isSo_59 : decode cX3_isSo 59 = .ok (.iconst 1, 1) := by decide +kernel
theorem dX3_isSo_60 : decode cX3_isSo 60 = .ok (.goto 4, 3) := by decide +kernel
theorem dX3_isSo_63 : decode cX3_isSo 63 = .ok (.iconst 0, 1) := by decide +kernel
theorem dX3_isSo_64 : decode cX3_isSo 64 = .ok (.ireturn, 1) := by decide +kernel
theorem dX3_isSo_65 : decode cX3_isSo 65 = .ok (.aload_n 0, 1) := by decide +kernel
theorem dX3_isSo_66 : decode cX3_isSo 66 = .ok (.getfield 31, 3) := by decide +kernel
theorem dX3_isSo_69 : decode cX3_isSo 69 = .ok (.iload_n 1, 1) := by decide +kernel
theorem dX3_isSo_70 : decode cX3_isSo 70 = .ok (.invokevirtual 39, 3) := by decide +kernel
theorem dX3_isSo_73 : decode cX3_isSo 73 = .ok (.ifCond .eq 23, 3) := by decide +kernel
theorem dX3_isSo_76 : decode cX3_isSo 76 = .ok (.iload_n 3, 1) := by decide +kernel
theorem dX3_isSo_77 : decode cX3_isSo 77 = .ok (.ifCond .lt 19, 3) := by decide +kernel
theorem dX3_isSo_80 : decode cX3_isSo 80 = .ok (.iload_n 3, 1) := by decide +kernel
theorem dX3_isSo_81 : decode cX3_isSo 81 = .ok (.aload_n 0, 1) := by decide +kernel
theorem dX3_isSo_82 : decode cX3_isSo 82 = .ok (.getfield 31, 3) := by decide +kernel
theorem dX3_isSo_85 : decode cX3_isSo 85 = .ok (.iload_n 1, 1) := by decide +kernel
theorem dX3_isSo_86 : decode cX3_isSo 86 = .ok (.invokevirtual 45, 3) := by decide +kernel
theorem dX3_isSo_89 : decode cX3_isSo 89 = .ok (.if_icmp .ge 7, 3) := by decide +kernel
theorem dX3_isSo_92 : decode cX3_isSo 92 = .ok (.iconst 1, 1) := by decide +kernel
theorem dX3_isSo_93 : decode cX3_isSo 93 = .ok (.goto 4, 3) := by decide +kernel
theorem dX3_isSo_96 : decode cX3_isSo 96 = .ok (.iconst 0, 1) := by decide +kernel
theorem dX3_isSo_97 : decode cX3_isSo 97 = .ok (.ireturn, 1) := by decide +kernel
theorem dX3_isSo_98 : decode cX3_isSo 98 = .ok (.aload_n 0, 1) := by decide +kernel
theorem dX3_isSo_99 : decode cX3_isSo 99 = .ok (.getfield 35, 3) := by decide +kernel
theorem dX3_isSo_102 : decode cX3_isSo 102 = .ok (.iload_n 1, 1) := by decide +kernel
theorem dX3_isSo_103 : decode cX3_isSo 103 = .ok (.invokevirtual 49, 3) := by decide +kernel
theorem dX3_isSo_106 : decode cX3_isSo 106 = .ok (.ifCond .eq 18, 3) := by decide +kernel
theorem dX3_isSo_109 : decode cX3_isSo 109 = .ok (.iload_n 3, 1) := by decide +kernel
theorem dX3_isSo_110 : decode cX3_isSo 110 = .ok (.iconst 1, 1) := by decide +kernel
theorem dX3_isSo_111 : decode cX3_isSo 111 = .ok (.if_icmp .lt 13, 3) := by decide +kernel
theorem dX3_isSo_114 : decode cX3_isSo 114 = .ok (.iload_n 3, 1) := by decide +kernel
theorem dX3_isSo_115 : decode cX3_isSo 115 = .ok (.bipush 48, 2) := by decide +kernel
theorem dX3_isSo_117 : decode cX3_isSo 117 = .ok (.if_icmp .gt 7, 3) := by decide +kernel
theorem dX3_isSo_120 : decode cX3_isSo 120 = .ok (.iconst 1, 1) := by decide +kernel
theorem dX3_isSo_121 : decode cX3_isSo 121 = .ok (.goto 4, 3) := by decide +kernel
theorem dX3_isSo_124 : decode cX3_isSo 124 = .ok (.iconst 0, 1) := by decide +kernel
theorem dX3_isSo_125 : decode cX3_isSo 125 = .ok (.ireturn, 1) := by decide +kernel
theorem dX3_isSo_126 : decode cX3_isSo 126 = .ok (.aload_n 0, 1) := by decide +kernel
theorem dX3_isSo_127 : decode cX3_isSo 127 = .ok (.getfield 35, 3) := by decide +kernel
theorem dX3_isSo_130 : decode cX3_isSo 130 = .ok (.iload_n 1, 1) := by decide +kernel
theorem dX3_isSo_131 : decode cX3_isSo 131 = .ok (.invokevirtual 49, 3) := by decide +kernel
theorem dX3_isSo_134 : decode cX3_isSo 134 = .ok (.ifCond .eq 16, 3) := by decide +kernel
theorem dX3_isSo_137 : decode cX3_isSo 137 = .ok (.iload_n 3, 1) := by decide +kernel
theorem dX3_isSo_138 : decode cX3_isSo 138 = .ok (.ifCond .lt 12, 3) := by decide +kernel
theorem dX3_isSo_141 : decode cX3_isSo 141 = .ok (.iload_n 3, 1) := by decide +kernel
theorem dX3_isSo_142 : decode cX3_isSo 142 = .ok (.iconst 3, 1) := by decide +kernel
theorem dX3_isSo_143 : decode cX3_isSo 143 = .ok (.if_icmp .gt 7, 3) := by decide +kernel
theorem dX3_isSo_146 : decode cX3_isSo 146 = .ok (.iconst 1, 1) := by decide +kernel
theorem dX3_isSo_147 : decode cX3_isSo 147 = .ok (.goto 4, 3) := by decide +kernel
theorem dX3_isSo_150 : decode cX3_isSo 150 = .ok (.iconst 0, 1) := by decide +kernel
theorem dX3_isSo_151 : decode cX3_isSo 151 = .ok (.ireturn, 1) := by decide +kernel
theorem dX3_isSo_152 : decode cX3_isSo 152 = .ok (.iconst 0, 1) := by decide +kernel
theorem dX3_isSo_153 : decode cX3_isSo 153 = .ok (.ireturn, 1) := by decide +kernel
theorem dX3_tell_0 : decode cX3_tell 0 = .ok (.aload_n 0, 1) := by decide +kernel
theorem dX3_tell_1 : decode cX3_tell 1 = .ok (.iload_n 1, 1) := by decide +kernel
theorem dX3_tell_2 : decode cX3_tell 2 = .ok (.iload_n 2, 1) := by decide +kernel
theorem dX3_tell_3 : decode cX3_tell 3 = .ok (.invokevirtual 54, 3) := by decide +kernel
theorem dX3_tell_6 : decode cX3_tell 6 = .ok (.istore 4, 2) := by decide +kernel
theorem dX3_tell_8 : decode cX3_tell 8 = .ok (.iload 4, 2) := by decide +kernel
theorem dX3_tell_10 : decode cX3_tell 10 = .ok (.iload_n 3, 1) := by decide +kernel
theorem dX3_tell_11 : decode cX3_tell 11 = .ok (.if_icmp .eq 19, 3) := by decide +kernel
theorem dX3_tell_14 : decode cX3_tell 14 = .ok (.aload_n 0, 1) := by decide +kernel
theorem dX3_tell_15 : decode cX3_tell 15 = .ok (.iload_n 1, 1) := by decide +kernel
theorem dX3_tell_16 : decode cX3_tell 16 = .ok (.iload_n 2, 1) := by decide +kernel
theorem dX3_tell_17 : decode cX3_tell 17 = .ok (.iload 4, 2) := by decide +kernel
theorem dX3_tell_19 : decode cX3_tell 19 = .ok (.iload_n 3, 1) := by decide +kernel
theorem dX3_tell_20 : decode cX3_tell 20 = .ok (.invokevirtual 58, 3) := by decide +kernel
theorem dX3_tell_23 : decode cX3_tell 23 = .ok (.aload_n 0, 1) := by decide +kernel
theorem dX3_tell_24 : decode cX3_tell 24 = .ok (.iload_n 1, 1) := by decide +kernel
theorem dX3_tell_25 : decode cX3_tell 25 = .ok (.iload_n 2, 1) := by decide +kernel
theorem dX3_tell_26 : decode cX3_tell 26 = .ok (.iload_n 3, 1) := by decide +kernel
theorem dX3_tell_27 : decode cX3_tell 27 = .ok (.invokevirtual 62, 3) := by decide +kernel
theorem dX3_tell_30 : decode cX3_tell 30 = .ok (.iload 4, 2) := by decide +kernel
theorem dX3_tell_32 : decode cX3_tell 32 = .ok (.ireturn, 1) := by decide +kernel
theorem dX3_told_0 : decode cX3_told 0 = .ok (.iload_n 2, 1) := by decide +kernel
theorem dX3_told_1 : decode cX3_told 1 = .ok (.lookupswitch 46 #[(2, 27), (3, 36)], 27) := by decide +kernel
theorem dX3_told_28 : decode cX3_told 28 = .ok (.aload_n 0, 1) := by decide +kernel
theorem dX3_told_29 : decode cX3_told 29 = .ok (.getfield 35, 3) := by decide +kernel
theorem dX3_told_32 : decode cX3_told 32 = .ok (.iload_n 1, 1) := by decide +kernel
theorem dX3_told_33 : decode cX3_told 33 = .ok (.invokevirtual 66, 3) := by decide +kernel
theorem dX3_told_36 : decode cX3_told 36 = .ok (.ireturn, 1) := by decide +kernel
theorem dX3_told_37 : decode cX3_told 37 = .ok (.aload_n 0, 1) := by decide +kernel
theorem dX3_told_38 : decode cX3_told 38 = .ok (.getfield 35, 3) := by decide +kernel
theorem dX3_told_41 : decode cX3_told 41 = .ok (.iload_n 1, 1) := by decide +kernel
theorem dX3_told_42 : decode cX3_told 42 = .ok (.iconst 3, 1) := by decide +kernel
theorem dX3_told_43 : decode cX3_told 43 = .ok (.invokevirtual 69, 3) := by decide +kernel
theorem dX3_told_46 : decode cX3_told 46 = .ok (.ireturn, 1) := by decide +kernel
theorem dX3_told_47 : decode cX3_told 47 = .ok (.aload_n 0, 1) := by decide +kernel
theorem dX3_told_48 : decode cX3_told 48 = .ok (.getfield 31, 3) := by decide +kernel
theorem dX3_told_51 : decode cX3_told 51 = .ok (.iload_n 1, 1) := by decide +kernel
theorem dX3_told_52 : decode cX3_told 52 = .ok (.iload_n 2, 1) := by decide +kernel
theorem dX3_told_53 : decode cX3_told 53 = .ok (.invokevirtual 70, 3) := by decide +kernel
theorem dX3_told_56 : decode cX3_told 56 = .ok (.ireturn, 1) := by decide +kernel
theorem dX3_set_0 : decode cX3_set 0 = .ok (.iload_n 2, 1) := by decide +kernel
theorem dX3_set_1 : decode cX3_set 1 = .ok (.lookupswitch 51 #[(2, 27), (3, 39)], 27) := by decide +kernel
theorem dX3_set_28 : decode cX3_set 28 = .ok (.aload_n 0, 1) := by decide +kernel
theorem dX3_set_29 : decode cX3_set 29 = .ok (.getfield 35, 3) := by decide +kernel
theorem dX3_set_32 : decode cX3_set 32 = .ok (.iload_n 1, 1) := by decide +kernel
theorem dX3_set_33 : decode cX3_set 33 = .ok (.iload_n 3, 1) := by decide +kernel
theorem dX3_set_34 : decode cX3_set 34 = .ok (.invokevirtual 71, 3) := by decide +kernel
theorem dX3_set_37 : decode cX3_set 37 = .ok (.goto 25, 3) := by decide +kernel
theorem dX3_set_40 : decode cX3_set 40 = .ok (.aload_n 0, 1) := by decide +kernel
theorem dX3_set_41 : decode cX3_set 41 = .ok (.getfield 35, 3) := by decide +kernel
theorem dX3_set_44 : decode cX3_set 44 = .ok (.iload_n 1, 1) := by decide +kernel
theorem dX3_set_45 : decode cX3_set 45 = .ok (.iload_n 3, 1) := by decide +kernel
theorem dX3_set_46 : decode cX3_set 46 = .ok (.invokevirtual 75, 3) := by decide +kernel
theorem dX3_set_49 : decode cX3_set 49 = .ok (.goto 13, 3) := by decide +kernel
theorem dX3_set_52 : decode cX3_set 52 = .ok (.aload_n 0, 1) := by decide +kernel
theorem dX3_set_53 : decode cX3_set 53 = .ok (.getfield 31, 3) := by decide +kernel
theorem dX3_set_56 : decode cX3_set 56 = .ok (.iload_n 1, 1) := by decide +kernel
theorem dX3_set_57 : decode cX3_set 57 = .ok (.iload_n 2, 1) := by decide +kernel
theorem dX3_set_58 : decode cX3_set 58 = .ok (.iload_n 3, 1) := by decide +kernel
theorem dX3_set_59 : decode cX3_set 59 = .ok (.invokevirtual 78, 3) := by decide +kernel
theorem dX3_set_62 : decode cX3_set 62 = .ok (.return_, 1) := by decide +kernel
theorem dX3_note_0 : decode cX3_note 0 = .ok (.aload_n 0, 1) := by decide +kernel
theorem dX3_note_1 : decode cX3_note 1 = .ok (.getfield 24, 3) := by decide +kernel
theorem dX3_note_4 : decode cX3_note 4 = .ok (.bipush 40, 2) := by decide +kernel
theorem dX3_note_6 : decode cX3_note 6 = .ok (.if_icmp .lt 41, 3) := by decide +kernel
theorem dX3_note_9 : decode cX3_note 9 = .ok (.aload_n 0, 1) := by decide +kernel
theorem dX3_note_10 : decode cX3_note 10 = .ok (.aload_n 0, 1) := by decide +kernel
theorem dX3_note_11 : decode cX3_note 11 = .ok (.getfield 9, 3) := by decide +kernel
theorem dX3_note_14 : decode cX3_note 14 = .ok (.invokevirtual 81, 3) := by decide +kernel
theorem dX3_note_17 : decode cX3_note 17 = .ok (.aload_n 0, 1) := by decide +kernel
theorem dX3_note_18 : decode cX3_note 18 = .ok (.aload_n 0, 1) := by decide +kernel
theorem dX3_note_19 : decode cX3_note 19 = .ok (.getfield 15, 3) := by decide +kernel
theorem dX3_note_22 : decode cX3_note 22 = .ok (.invokevirtual 81, 3) := by decide +kernel
theorem dX3_note_25 : decode cX3_note 25 = .ok (.aload_n 0, 1) := by decide +kernel
theorem dX3_note_26 : decode cX3_note 26 = .ok (.aload_n 0, 1) := by decide +kernel
theorem dX3_note_27 : decode cX3_note 27 = .ok (.getfield 18, 3) := by decide +kernel
theorem dX3_note_30 : decode cX3_note 30 = .ok (.invokevirtual 81, 3) := by decide +kernel
theorem dX3_note_33 : decode cX3_note 33 = .ok (.aload_n 0, 1) := by decide +kernel
theorem dX3_note_34 : decode cX3_note 34 = .ok (.aload_n 0, 1) := by decide +kernel
theorem dX3_note_35 : decode cX3_note 35 = .ok (.getfield 21, 3) := by decide +kernel
theorem dX3_note_38 : decode cX3_note 38 = .ok (.invokevirtual 81, 3) := by decide +kernel
theorem dX3_note_41 : decode cX3_note 41 = .ok (.aload_n 0, 1) := by decide +kernel
theorem dX3_note_42 : decode cX3_note 42 = .ok (.bipush 39, 2) := by decide +kernel
theorem dX3_note_44 : decode cX3_note 44 = .ok (.putfield 24, 3) := by decide +kernel
theorem dX3_note_47 : decode cX3_note 47 = .ok (.aload_n 0, 1) := by decide +kernel
theorem dX3_note_48 : decode cX3_note 48 = .ok (.getfield 9, 3) := by decide +kernel
theorem dX3_note_51 : decode cX3_note 51 = .ok (.aload_n 0, 1) := by decide +kernel
theorem dX3_note_52 : decode cX3_note 52 = .ok (.getfield 24, 3) := by decide +kernel
theorem dX3_note_55 : decode cX3_note 55 = .ok (.iload_n 1, 1) := by decide +kernel
theorem dX3_note_56 : decode cX3_note 56 = .ok (.iastore, 1) := by decide +kernel
theorem dX3_note_57 : decode cX3_note 57 = .ok (.aload_n 0, 1) := by decide +kernel
theorem dX3_note_58 : decode cX3_note 58 = .ok (.getfield 15, 3) := by decide +kernel
theorem dX3_note_61 : decode cX3_note 61 = .ok (.aload_n 0, 1) := by decide +kernel
theorem dX3_note_62 : decode cX3_note 62 = .ok (.getfield 24, 3) := by decide +kernel
theorem dX3_note_65 : decode cX3_note 65 = .ok (.iload_n 2, 1) := by decide +kernel
theorem dX3_note_66 : decode cX3_note 66 = .ok (.iastore, 1) := by decide +kernel
theorem dX3_note_67 : decode cX3_note 67 = .ok (.aload_n 0, 1) := by decide +kernel
theorem dX3_note_68 : decode cX3_note 68 = .ok (.getfield 18, 3) := by decide +kernel
theorem dX3_note_71 : decode cX3_note 71 = .ok (.aload_n 0, 1) := by decide +kernel
theorem dX3_note_72 : decode cX3_note 72 = .ok (.getfield 24, 3) := by decide +kernel
theorem dX3_note_75 : decode cX3_note 75 = .ok (.iload_n 3, 1) := by decide +kernel
theorem dX3_note_76 : decode cX3_note 76 = .ok (.iastore, 1) := by decide +kernel
theorem dX3_note_77 : decode cX3_note 77 = .ok (.aload_n 0, 1) := by decide +kernel
theorem dX3_note_78 : decode cX3_note 78 = .ok (.getfield 21, 3) := by decide +kernel
theorem dX3_note_81 : decode cX3_note 81 = .ok (.aload_n 0, 1) := by decide +kernel
theorem dX3_note_82 : decode cX3_note 82 = .ok (.getfield 24, 3) := by decide +kernel
theorem dX3_note_85 : decode cX3_note 85 = .ok (.iload 4, 2) := by decide +kernel
theorem dX3_note_87 : decode cX3_note 87 = .ok (.iastore, 1) := by decide +kernel
theorem dX3_note_88 : decode cX3_note 88 = .ok (.aload_n 0, 1) := by decide +kernel
theorem dX3_note_89 : decode cX3_note 89 = .ok (.dup, 1) := by decide +kernel
theorem dX3_note_90 : decode cX3_note 90 = .ok (.getfield 24, 3) := by decide +kernel
theorem dX3_note_93 : decode cX3_note 93 = .ok (.iconst 1, 1) := by decide +kernel
theorem dX3_note_94 : decode cX3_note 94 = .ok (.iadd, 1) := by decide +kernel
theorem dX3_note_95 : decode cX3_note 95 = .ok (.putfield 24, 3) := by decide +kernel
theorem dX3_note_98 : decode cX3_note 98 = .ok (.aload_n 0, 1) := by decide +kernel
theorem dX3_note_99 : decode cX3_note 99 = .ok (.aload_n 0, 1) := by decide +kernel
theorem dX3_note_100 : decode cX3_note 100 = .ok (.getfield 24, 3) := by decide +kernel
theorem dX3_note_103 : decode cX3_note 103 = .ok (.putfield 28, 3) := by decide +kernel
theorem dX3_note_106 : decode cX3_note 106 = .ok (.return_, 1) := by decide +kernel
theorem dX3_dropFirst_0 : decode cX3_dropFirst 0 = .ok (.iconst 1, 1) := by decide +kernel
theorem dX3_dropFirst_1 : decode cX3_dropFirst 1 = .ok (.istore_n 2, 1) := by decide +kernel
theorem dX3_dropFirst_2 : decode cX3_dropFirst 2 = .ok (.iload_n 2, 1) := by decide +kernel
theorem dX3_dropFirst_3 : decode cX3_dropFirst 3 = .ok (.aload_n 1, 1) := by decide +kernel
theorem dX3_dropFirst_4 : decode cX3_dropFirst 4 = .ok (.arraylength, 1) := by decide +kernel
theorem dX3_dropFirst_5 : decode cX3_dropFirst 5 = .ok (.if_icmp .ge 17, 3) := by decide +kernel
theorem dX3_dropFirst_8 : decode cX3_dropFirst 8 = .ok (.aload_n 1, 1) := by decide +kernel
theorem dX3_dropFirst_9 : decode cX3_dropFirst 9 = .ok (.iload_n 2, 1) := by decide +kernel
theorem dX3_dropFirst_10 : decode cX3_dropFirst 10 = .ok (.iconst 1, 1) := by decide +kernel
theorem dX3_dropFirst_11 : decode cX3_dropFirst 11 = .ok (.isub, 1) := by decide +kernel
theorem dX3_dropFirst_12 : decode cX3_dropFirst 12 = .ok (.aload_n 1, 1) := by decide +kernel
theorem dX3_dropFirst_13 : decode cX3_dropFirst 13 = .ok (.iload_n 2, 1) := by decide +kernel
theorem dX3_dropFirst_14 : decode cX3_dropFirst 14 = .ok (.iaload, 1) := by decide +kernel
theorem dX3_dropFirst_15 : decode cX3_dropFirst 15 = .ok (.iastore, 1) := by decide +kernel
theorem dX3_dropFirst_16 : decode cX3_dropFirst 16 = .ok (.iinc 2 1, 3) := by decide +kernel
theorem dX3_dropFirst_19 : decode cX3_dropFirst 19 = .ok (.goto (-17), 3) := by decide +kernel
theorem dX3_dropFirst_22 : decode cX3_dropFirst 22 = .ok (.return_, 1) := by decide +kernel
theorem dX3_takeBack_0 : decode cX3_takeBack 0 = .ok (.aload_n 0, 1) := by decide +kernel
theorem dX3_takeBack_1 : decode cX3_takeBack 1 = .ok (.getfield 24, 3) := by decide +kernel
theorem dX3_takeBack_4 : decode cX3_takeBack 4 = .ok (.ifCond .le 12, 3) := by decide +kernel
theorem dX3_takeBack_7 : decode cX3_takeBack 7 = .ok (.aload_n 0, 1) := by decide +kernel
theorem dX3_takeBack_8 : decode cX3_takeBack 8 = .ok (.getfield 24, 3) := by decide +kernel
theorem dX3_takeBack_11 : decode cX3_takeBack 11 = .ok (.bipush 40, 2) := by decide +kernel
theorem dX3_takeBack_13 : decode cX3_takeBack 13 = .ok (.if_icmp .le 6, 3) := by decide +kernel
theorem dX3_takeBack_16 : decode cX3_takeBack 16 = .ok (.bipush (-5), 2) := by decide +kernel
theorem dX3_takeBack_18 : decode cX3_takeBack 18 = .ok (.ireturn, 1) := by decide +kernel
theorem dX3_takeBack_19 : decode cX3_takeBack 19 = .ok (.aload_n 0, 1) := by decide +kernel
theorem dX3_takeBack_20 : decode cX3_takeBack 20 = .ok (.dup, 1) := by decide +kernel
theorem dX3_takeBack_21 : decode cX3_takeBack 21 = .ok (.getfield 24, 3) := by decide +kernel
theorem dX3_takeBack_24 : decode cX3_takeBack 24 = .ok (.iconst 1, 1) := by decide +kernel
theorem dX3_takeBack_25 : decode cX3_takeBack 25 = .ok (.isub, 1) := by decide +kernel
theorem dX3_takeBack_26 : decode cX3_takeBack 26 = .ok (.putfield 24, 3) := by decide +kernel
theorem dX3_takeBack_29 : decode cX3_takeBack 29 = .ok (.aload_n 0, 1) := by decide +kernel
theorem dX3_takeBack_30 : decode cX3_takeBack 30 = .ok (.aload_n 0, 1) := by decide +kernel
theorem dX3_takeBack_31 : decode cX3_takeBack 31 = .ok (.getfield 9, 3) := by decide +kernel
theorem dX3_takeBack_34 : decode cX3_takeBack 34 = .ok (.aload_n 0, 1) := by decide +kernel
theorem dX3_takeBack_35 : decode cX3_takeBack 35 = .ok (.getfield 24, 3) := by decide +kernel
theorem dX3_takeBack_38 : decode cX3_takeBack 38 = .ok (.iaload, 1) := by decide +kernel
theorem dX3_takeBack_39 : decode cX3_takeBack 39 = .ok (.aload_n 0, 1) := by decide +kernel
theorem dX3_takeBack_40 : decode cX3_takeBack 40 = .ok (.getfield 15, 3) := by decide +kernel
theorem dX3_takeBack_43 : decode cX3_takeBack 43 = .ok (.aload_n 0, 1) := by decide +kernel
theorem dX3_takeBack_44 : decode cX3_takeBack 44 = .ok (.getfield 24, 3) := by decide +kernel
theorem dX3_takeBack_47 : decode cX3_takeBack 47 = .ok (.iaload, 1) := by decide +kernel
theorem dX3_takeBack_48 : decode cX3_takeBack 48 = .ok (.aload_n 0, 1) := by decide +kernel
theorem dX3_takeBack_49 : decode cX3_takeBack 49 = .ok (.getfield 18, 3) := by decide +kernel
theorem dX3_takeBack_52 : decode cX3_takeBack 52 = .ok (.aload_n 0, 1) := by decide +kernel
theorem dX3_takeBack_53 : decode cX3_takeBack 53 = .ok (.getfield 24, 3) := by decide +kernel
theorem dX3_takeBack_56 : decode cX3_takeBack 56 = .ok (.iaload, 1) := by decide +kernel
theorem dX3_takeBack_57 : decode cX3_takeBack 57 = .ok (.invokevirtual 62, 3) := by decide +kernel
theorem dX3_takeBack_60 : decode cX3_takeBack 60 = .ok (.aload_n 0, 1) := by decide +kernel
theorem dX3_takeBack_61 : decode cX3_takeBack 61 = .ok (.getfield 24, 3) := by decide +kernel
theorem dX3_takeBack_64 : decode cX3_takeBack 64 = .ok (.ireturn, 1) := by decide +kernel
theorem dX3_doAgain_0 : decode cX3_doAgain 0 = .ok (.aload_n 0, 1) := by decide +kernel
theorem dX3_doAgain_1 : decode cX3_doAgain 1 = .ok (.getfield 24, 3) := by decide +kernel
theorem dX3_doAgain_4 : decode cX3_doAgain 4 = .ok (.aload_n 0, 1) := by decide +kernel
theorem dX3_doAgain_5 : decode cX3_doAgain 5 = .ok (.getfield 28, 3) := by decide +kernel
theorem dX3_doAgain_8 : decode cX3_doAgain 8 = .ok (.if_icmp .ge 12, 3) := by decide +kernel
theorem dX3_doAgain_11 : decode cX3_doAgain 11 = .ok (.aload_n 0, 1) := by decide +kernel
theorem dX3_doAgain_12 : decode cX3_doAgain 12 = .ok (.getfield 24, 3) := by decide +kernel
theorem dX3_doAgain_15 : decode cX3_doAgain 15 = .ok (.bipush 40, 2) := by decide +kernel
theorem dX3_doAgain_17 : decode cX3_doAgain 17 = .ok (.if_icmp .lt 6, 3) := by decide +kernel
theorem dX3_doAgain_20 : decode cX3_doAgain 20 = .ok (.bipush (-5), 2) := by decide +kernel
theorem dX3_doAgain_22 : decode cX3_doAgain 22 = .ok (.ireturn, 1) := by decide +kernel
theorem dX3_doAgain_23 : decode cX3_doAgain 23 = .ok (.aload_n 0, 1) := by decide +kernel
theorem dX3_doAgain_24 : decode cX3_doAgain 24 = .ok (.aload_n 0, 1) := by decide +kernel
theorem dX3_doAgain_25 : decode cX3_doAgain 25 = .ok (.getfield 9, 3) := by decide +kernel
theorem dX3_doAgain_28 : decode cX3_doAgain 28 = .ok (.aload_n 0, 1) := by decide +kernel
theorem dX3_doAgain_29 : decode cX3_doAgain 29 = .ok (.getfield 24, 3) := by decide +kernel
theorem dX3_doAgain_32 : decode cX3_doAgain 32 = .ok (.iaload, 1) := by decide +kernel
theorem dX3_doAgain_33 : decode cX3_doAgain 33 = .ok (.aload_n 0, 1) := by decide +kernel
theorem dX3_doAgain_34 : decode cX3_doAgain 34 = .ok (.getfield 15, 3) := by decide +kernel
theorem dX3_doAgain_37 : decode cX3_doAgain 37 = .ok (.aload_n 0, 1) := by decide +kernel
theorem dX3_doAgain_38 : decode cX3_doAgain 38 = .ok (.getfield 24, 3) := by decide +kernel
theorem dX3_doAgain_41 : decode cX3_doAgain 41 = .ok (.iaload, 1) := by decide +kernel
theorem dX3_doAgain_42 : decode cX3_doAgain 42 = .ok (.aload_n 0, 1) := by decide +kernel
theorem dX3_doAgain_43 : decode cX3_doAgain 43 = .ok (.getfield 21, 3) := by decide +kernel
theorem dX3_doAgain_46 : decode cX3_doAgain 46 = .ok (.aload_n 0, 1) := by decide +kernel
theorem dX3_doAgain_47 : decode cX3_doAgain 47 = .ok (.getfield 24, 3) := by decide +kernel
theorem dX3_doAgain_50 : decode cX3_doAgain 50 = .ok (.iaload, 1) := by decide +kernel
theorem dX3_doAgain_51 : decode cX3_doAgain 51 = .ok (.invokevirtual 62, 3) := by decide +kernel
theorem dX3_doAgain_54 : decode cX3_doAgain 54 = .ok (.aload_n 0, 1) := by decide +kernel
theorem dX3_doAgain_55 : decode cX3_doAgain 55 = .ok (.dup, 1) := by decide +kernel
theorem dX3_doAgain_56 : decode cX3_doAgain 56 = .ok (.getfield 24, 3) := by decide +kernel
theorem dX3_doAgain_59 : decode cX3_doAgain 59 = .ok (.iconst 1, 1) := by decide +kernel
theorem dX3_doAgain_60 : decode cX3_doAgain 60 = .ok (.iadd, 1) := by decide +kernel
theorem dX3_doAgain_61 : decode cX3_doAgain 61 = .ok (.putfield 24, 3) := by decide +kernel
theorem dX3_doAgain_64 : decode cX3_doAgain 64 = .ok (.aload_n 0, 1) := by decide +kernel
theorem dX3_doAgain_65 : decode cX3_doAgain 65 = .ok (.getfield 28, 3) := by decide +kernel
theorem dX3_doAgain_68 : decode cX3_doAgain 68 = .ok (.aload_n 0, 1) := by decide +kernel
theorem dX3_doAgain_69 : decode cX3_doAgain 69 = .ok (.getfield 24, 3) := by decide +kernel
theorem dX3_doAgain_72 : decode cX3_doAgain 72 = .ok (.isub, 1) := by decide +kernel
theorem dX3_doAgain_73 : decode cX3_doAgain 73 = .ok (.ireturn, 1) := by decide +kernel
theorem dX4_init_0 : decode cX4_init 0 = .ok (.aload_n 0, 1) := by decide +kernel
theorem dX4_init_1 : decode cX4_init 1 = .ok (.invokespecial 3, 3) := by decide +kernel
theorem dX4_init_4 : decode cX4_init 4 = .ok (.aload_n 0, 1) := by decide +kernel
theorem dX4_init_5 : decode cX4_init 5 = .ok (.bipush 7, 2) := by decide +kernel
theorem dX4_init_7 : decode cX4_init 7 = .ok (.newarray .int, 2) := by decide +kernel
theorem dX4_init_9 : decode cX4_init 9 = .ok (.putfield 9, 3) := by decide +kernel
theorem dX4_init_12 : decode cX4_init 12 = .ok (.aload_n 0, 1) := by decide +kernel
theorem dX4_init_13 : decode cX4_init 13 = .ok (.bipush 120, 2) := by decide +kernel
theorem dX4_init_15 : decode cX4_init 15 = .ok (.newarray .int, 2) := by decide +kernel
theorem dX4_init_17 : decode cX4_init 17 = .ok (.putfield 15, 3) := by decide +kernel
theorem dX4_init_20 : decode cX4_init 20 = .ok (.aload_n 0, 1) := by decide +kernel
theorem dX4_init_21 : decode cX4_init 21 = .ok (.bipush 64, 2) := by decide +kernel
theorem dX4_init_23 : decode cX4_init 23 = .ok (.newarray .int, 2) := by decide +kernel
theorem dX4_init_25 : decode cX4_init 25 = .ok (.putfield 18, 3) := by decide +kernel
theorem dX4_init_28 : decode cX4_init 28 = .ok (.aload_n 0, 1) := by decide +kernel
theorem dX4_init_29 : decode cX4_init 29 = .ok (.bipush 64, 2) := by decide +kernel
theorem dX4_init_31 : decode cX4_init 31 = .ok (.newarray .int, 2) := by decide +kernel
theorem dX4_init_33 : decode cX4_init 33 = .ok (.putfield 21, 3) := by decide +kernel
theorem dX4_init_36 : decode cX4_init 36 = .ok (.aload_n 0, 1) := by decide +kernel
theorem dX4_init_37 : decode cX4_init 37 = .ok (.iconst 0, 1) := by decide +kernel
theorem dX4_init_38 : decode cX4_init 38 = .ok (.newarray .int, 2) := by decide +kernel
theorem dX4_init_40 : decode cX4_init 40 = .ok (.putfield 24, 3) := by decide +kernel
theorem dX4_init_43 : decode cX4_init 43 = .ok (.aload_n 0, 1) := by decide +kernel
theorem dX4_init_44 : decode cX4_init 44 = .ok (.iconst 0, 1) := by decide +kernel
theorem dX4_init_45 : decode cX4_init 45 = .ok (.putfield 27, 3) := by decide +kernel
theorem dX4_init_48 : decode cX4_init 48 = .ok (.aload_n 0, 1) := by decide +kernel
theorem dX4_init_49 : decode cX4_init 49 = .ok (.iconst 0, 1) := by decide +kernel
theorem dX4_init_50 : decode cX4_init 50 = .ok (.putfield 31, 3) := by decide +kernel
theorem dX4_init_53 : decode cX4_init 53 = .ok (.aload_n 0, 1) := by decide +kernel
theorem dX4_init_54 : decode cX4_init 54 = .ok (.iconst 0, 1) := by decide +kernel
theorem dX4_init_55 : decode cX4_init 55 = .ok (.putfield 34, 3) := by decide +kernel
theorem dX4_init_58 : decode cX4_init 58 = .ok (.aload_n 0, 1) := by decide +kernel
theorem dX4_init_59 : decode cX4_init 59 = .ok (.iconst 0, 1) := by decide +kernel
theorem dX4_init_60 : decode cX4_init 60 = .ok (.putfield 37, 3) := by decide +kernel
theorem dX4_init_63 : decode cX4_init 63 = .ok (.aload_n 0, 1) := by decide +kernel
theorem dX4_init_64 : decode cX4_init 64 = .ok (.aload_n 1, 1) := by decide +kernel
theorem dX4_init_65 : decode cX4_init 65 = .ok (.putfield 40, 3) := by decide +kernel
theorem dX4_init_68 : decode cX4_init 68 = .ok (.aload_n 0, 1) := by decide +kernel
theorem dX4_init_69 : decode cX4_init 69 = .ok (.aload_n 2, 1) := by decide +kernel
theorem dX4_init_70 : decode cX4_init 70 = .ok (.putfield 44, 3) := by decide +kernel
theorem dX4_init_73 : decode cX4_init 73 = .ok (.return_, 1) := by decide +kernel
theorem dX4_open_0 : decode cX4_open 0 = .ok (.aload_n 0, 1) := by decide +kernel
theorem dX4_open_1 : decode cX4_open 1 = .ok (.iload_n 2, 1) := by decide +kernel
theorem dX4_open_2 : decode cX4_open 2 = .ok (.putfield 31, 3) := by decide +kernel
theorem dX4_open_5 : decode cX4_open 5 = .ok (.aload_n 0, 1) := by decide +kernel
theorem dX4_open_6 : decode cX4_open 6 = .ok (.aload_n 0, 1) := by decide +kernel
theorem dX4_open_7 : decode cX4_open 7 = .ok (.getfield 44, 3) := by decide +kernel
theorem dX4_open_10 : decode cX4_open 10 = .ok (.iload_n 1, 1) := by decide +kernel
theorem dX4_open_11 : decode cX4_open 11 = .ok (.invokevirtual 48, 3) := by decide +kernel
theorem dX4_open_14 : decode cX4_open 14 = .ok (.putfield 34, 3) := by decide +kernel
theorem dX4_open_17 : decode cX4_open 17 = .ok (.aload_n 0, 1) := by decide +kernel
theorem dX4_open_18 : decode cX4_open 18 = .ok (.aload_n 0, 1) := by decide +kernel
theorem dX4_open_19 : decode cX4_open 19 = .ok (.getfield 44, 3) := by decide +kernel
theorem dX4_open_22 : decode cX4_open 22 = .ok (.iload_n 1, 1) := by decide +kernel
theorem dX4_open_23 : decode cX4_open 23 = .ok (.iconst 3, 1) := by decide +kernel
theorem dX4_open_24 : decode cX4_open 24 = .ok (.invokevirtual 54, 3) := by decide +kernel
theorem dX4_open_27 : decode cX4_open 27 = .ok (.putfield 37, 3) := by decide +kernel
theorem dX4_open_30 : decode cX4_open 30 = .ok (.aload_n 0, 1) := by decide +kernel
theorem dX4_open_31 : decode cX4_open 31 = .ok (.getfield 9, 3) := by decide +kernel
theorem dX4_open_34 : decode cX4_open 34 = .ok (.iconst 0, 1) := by decide +kernel
theorem dX4_open_35 : decode cX4_open 35 = .ok (.aload_n 0, 1) := by decide +kernel
theorem dX4_open_36 : decode cX4_open 36 = .ok (.getfield 44, 3) := by decide +kernel
theorem dX4_open_39 : decode cX4_open 39 = .ok (.iload_n 1, 1) := by decide +kernel
theorem dX4_open_40 : decode cX4_open 40 = .ok (.iconst 0, 1) := by decide +kernel
theorem dX4_open_41 : decode cX4_open 41 = .ok (.invokevirtual 54, 3) := by decide +kernel
theorem dX4_open_44 : decode cX4_open 44 = .ok (.iastore, 1) := by decide +kernel
theorem dX4_open_45 : decode cX4_open 45 = .ok (.aload_n 0, 1) := by decide +kernel
theorem dX4_open_46 : decode cX4_open 46 = .ok (.getfield 9, 3) := by decide +kernel
theorem dX4_open_49 : decode cX4_open 49 = .ok (.iconst 2, 1) := by decide +kernel
theorem dX4_open_50 : decode cX4_open 50 = .ok (.aload_n 0, 1) := by decide +kernel
theorem dX4_open_51 : decode cX4_open 51 = .ok (.getfield 34, 3) := by decide +kernel
theorem dX4_open_54 : decode cX4_open 54 = .ok (.iastore, 1) := by decide +kernel
theorem dX4_open_55 : decode cX4_open 55 = .ok (.aload_n 0, 1) := by decide +kernel
theorem dX4_open_56 : decode cX4_open 56 = .ok (.getfield 9, 3) := by decide +kernel
theorem dX4_open_59 : decode cX4_open 59 = .ok (.iconst 4, 1) := by decide +kernel
theorem dX4_open_60 : decode cX4_open 60 = .ok (.iload_n 2, 1) := by decide +kernel
theorem dX4_open_61 : decode cX4_open 61 = .ok (.iastore, 1) := by decide +kernel
theorem dX4_open_62 : decode cX4_open 62 = .ok (.aload_n 0, 1) := by decide +kernel
theorem dX4_open_63 : decode cX4_open 63 = .ok (.getfield 9, 3) := by decide +kernel
theorem dX4_open_66 : decode cX4_open 66 = .ok (.iconst 5, 1) := by decide +kernel
theorem dX4_open_67 : decode cX4_open 67 = .ok (.aload_n 0, 1) := by decide +kernel
theorem dX4_open_68 : decode cX4_open 68 = .ok (.getfield 44, 3) := by decide +kernel
theorem dX4_open_71 : decode cX4_open 71 = .ok (.iload_n 1, 1) := by decide +kernel
theorem dX4_open_72 : decode cX4_open 72 = .ok (.iconst 2, 1) := by decide +kernel
theorem dX4_open_73 : decode cX4_open 73 = .ok (.invokevirtual 54, 3) := by decide +kernel
theorem dX4_open_76 : decode cX4_open 76 = .ok (.iastore, 1) := by decide +kernel
theorem dX4_open_77 : decode cX4_open 77 = .ok (.aload_n 0, 1) := by decide +kernel
theorem dX4_open_78 : decode cX4_open 78 = .ok (.getfield 18, 3) := by decide +kernel
theorem dX4_open_81 : decode cX4_open 81 = .ok (.iconst (-1), 1) := by decide +kernel
theorem dX4_open_82 : decode cX4_open 82 = .ok (.invokestatic 58, 3) := by decide +kernel
theorem dX4_open_85 : decode cX4_open 85 = .ok (.aload_n 0, 1) := by decide +kernel
theorem dX4_open_86 : decode cX4_open 86 = .ok (.invokevirtual 64, 3) := by decide +kernel
theorem dX4_open_89 : decode cX4_open 89 = .ok (.return_, 1) := by decide +kernel
theorem dX4_forget_0 : decode cX4_forget 0 = .ok (.aload_n 0, 1) := by decide +kernel
theorem dX4_forget_1 : decode cX4_forget 1 = .ok (.getfield 24, 3) := by decide +kernel
theorem dX4_forget_4 : decode cX4_forget 4 = .ok (.arraylength, 1) := by decide +kernel
theorem dX4_forget_5 : decode cX4_forget 5 = .ok (.ifCond .ne 12, 3) := by decide +kernel
theorem dX4_forget_8 : decode cX4_forget 8 = .ok (.aload_n 0, 1) := by decide +kernel
theorem dX4_forget_9 : decode cX4_forget 9 = .ok (.sipush 9216, 3) := by decide +kernel
theorem dX4_forget_12 : decode cX4_forget 12 = .ok (.newarray .int, 2) := by decide +kernel
theorem dX4_forget_14 : decode cX4_forget 14 = .ok (.putfield 24, 3) := by decide +kernel
theorem dX4_forget_17 : decode cX4_forget 17 = .ok (.aload_n 0, 1) := by decide +kernel
theorem dX4_forget_18 : decode cX4_forget 18 = .ok (.getfield 27, 3) := by decide +kernel
theorem dX4_forget_21 : decode cX4_forget 21 = .ok (.ldc 67, 2) := by decide +kernel
theorem dX4_forget_23 : decode cX4_forget 23 = .ok (.if_icmp .le 16, 3) := by decide +kernel
theorem dX4_forget_26 : decode cX4_forget 26 = .ok (.aload_n 0, 1) := by decide +kernel
theorem dX4_forget_27 : decode cX4_forget 27 = .ok (.getfield 24, 3) := by decide +kernel
theorem dX4_forget_30 : decode cX4_forget 30 = .ok (.iconst 0, 1) := by decide +kernel
theorem dX4_forget_31 : decode cX4_forget 31 = .ok (.invokestatic 58, 3) := by decide +kernel
theorem dX4_forget_34 : decode cX4_forget 34 = .ok (.aload_n 0, 1) := by decide +kernel
theorem dX4_forget_35 : decode cX4_forget 35 = .ok (.iconst 0, 1) := by decide +kernel
theorem dX4_forget_36 : decode cX4_forget 36 = .ok (.putfield 27, 3) := by decide +kernel
theorem dX4_forget_39 : decode cX4_forget 39 = .ok (.aload_n 0, 1) := by decide +kernel
theorem dX4_forget_40 : decode cX4_forget 40 = .ok (.dup, 1) := by decide +kernel
theorem dX4_forget_41 : decode cX4_forget 41 = .ok (.getfield 27, 3) := by decide +kernel
theorem dX4_forget_44 : decode cX4_forget 44 = .ok (.sipush 16384, 3) := by decide +kernel
theorem dX4_forget_47 : decode cX4_forget 47 = .ok (.iadd, 1) := by decide +kernel
theorem dX4_forget_48 : decode cX4_forget 48 = .ok (.putfield 27, 3) := by decide +kernel
theorem dX4_forget_51 : decode cX4_forget 51 = .ok (.return_, 1) := by decide +kernel
theorem dX4_upAt_0 : decode cX4_upAt 0 = .ok (.iload_n 1, 1) := by decide +kernel
theorem dX4_upAt_1 : decode cX4_upAt 1 = .ok (.bipush 63, 2) := by decide +kernel
theorem dX4_upAt_3 : decode cX4_upAt 3 = .ok (.iand, 1) := by decide +kernel
theorem dX4_upAt_4 : decode cX4_upAt 4 = .ok (.istore_n 2, 1) := by decide +kernel
theorem dX4_upAt_5 : decode cX4_upAt 5 = .ok (.aload_n 0, 1) := by decide +kernel
theorem dX4_upAt_6 : decode cX4_upAt 6 = .ok (.getfield 18, 3) := by decide +kernel
theorem dX4_upAt_9 : decode cX4_upAt 9 = .ok (.iload_n 2, 1) := by decide +kernel
theorem dX4_upAt_10 : decode cX4_upAt 10 = .ok (.iaload, 1) := by decide +kernel
theorem dX4_upAt_11 : decode cX4_upAt 11 = .ok (.iload_n 1, 1) := by decide +kernel
theorem dX4_upAt_12 : decode cX4_upAt 12 = .ok (.if_icmp .eq 28, 3) := by decide +kernel
theorem dX4_upAt_15 : decode cX4_upAt 15 = .ok (.aload_n 0, 1) := by decide +kernel
theorem dX4_upAt_16 : decode cX4_upAt 16 = .ok (.getfield 18, 3) := by decide +kernel
theorem dX4_upAt_19 : decode cX4_upAt 19 = .ok (.iload_n 2, 1) := by decide +kernel
theorem dX4_upAt_20 : decode cX4_upAt 20 = .ok (.iload_n 1, 1) := by decide +kernel
theorem dX4_upAt_21 : decode cX4_upAt 21 = .ok (.iastore, 1) := by decide +kernel
theorem dX4_upAt_22 : decode cX4_upAt 22 = .ok (.aload_n 0, 1) := by decide +kernel
theorem dX4_upAt_23 : decode cX4_upAt 23 = .ok (.getfield 21, 3) := by decide +kernel
theorem dX4_upAt_26 : decode cX4_upAt 26 = .ok (.iload_n 2, 1) := by decide +kernel
theorem dX4_upAt_27 : decode cX4_upAt 27 = .ok (.aload_n 0, 1) := by decide +kernel
theorem dX4_upAt_28 : decode cX4_upAt 28 = .ok (.getfield 40, 3) := by decide +kernel
theorem dX4_upAt_31 : decode cX4_upAt 31 = .ok (.aload_n 0, 1) := by decide +kernel
theorem dX4_upAt_32 : decode cX4_upAt 32 = .ok (.getfield 31, 3) := by decide +kernel
theorem dX4_upAt_35 : decode cX4_upAt 35 = .ok (.iload_n 1, 1) := by decide +kernel
theorem dX4_upAt_36 : decode cX4_upAt 36 = .ok (.invokevirtual 68, 3) := by decide +kernel
theorem dX4_upAt_39 : decode cX4_upAt 39 = .ok (.iastore, 1) := by decide +kernel
theorem dX4_upAt_40 : decode cX4_upAt 40 = .ok (.aload_n 0, 1) := by decide +kernel
theorem dX4_upAt_41 : decode cX4_upAt 41 = .ok (.getfield 21, 3) := by decide +kernel
theorem dX4_upAt_44 : decode cX4_upAt 44 = .ok (.iload_n 2, 1) := by decide +kernel
theorem dX4_upAt_45 : decode cX4_upAt 45 = .ok (.iaload, 1) := by decide +kernel
theorem dX4_upAt_46 : decode cX4_upAt 46 = .ok (.ireturn, 1) := by decide +kernel
theorem dX4_costOf_0 : decode cX4_costOf 0 = .ok (.aload_n 0, 1) := by decide +kernel
theorem dX4_costOf_1 : decode cX4_costOf 1 = .ok (.iload_n 1, 1) := by decide +kernel
theorem dX4_costOf_2 : decode cX4_costOf 2 = .ok (.iload_n 2, 1) := by decide +kernel
theorem dX4_costOf_3 : decode cX4_costOf 3 = .ok (.aload_n 0, 1) := by decide +kernel
theorem dX4_costOf_4 : decode cX4_costOf 4 = .ok (.iload_n 2, 1) := by decide +kernel
theorem dX4_costOf_5 : decode cX4_costOf 5 = .ok (.invokevirtual 73, 3) := by decide +kernel
theorem dX4_costOf_8 : decode cX4_costOf 8 = .ok (.invokevirtual 76, 3) := by decide +kernel
theorem dX4_costOf_11 : decode cX4_costOf 11 = .ok (.ireturn, 1) := by decide +kernel
theorem dX4_costUnder_0 : decode cX4_costUnder 0 = .ok (.iload_n 1, 1) := by decide +kernel
theorem dX4_costUnder_1 : decode cX4_costUnder 1 = .ok (.bipush 24, 2) := by decide +kernel
theorem dX4_costUnder_3 : decode cX4_costUnder 3 = .ok (.imul, 1) := by decide +kernel
theorem dX4_costUnder_4 : decode cX4_costUnder 4 = .ok (.iload_n 2, 1) := by decide +kernel
theorem dX4_costUnder_5 : decode cX4_costUnder 5 = .ok (.bipush 24, 2) := by decide +kernel
theorem dX4_costUnder_7 : decode cX4_costUnder 7 = .ok (.irem, 1) := by decide +kernel
theorem dX4_costUnder_8 : decode cX4_costUnder 8 = .ok (.iadd, 1) := by decide +kernel
theorem dX4_costUnder_9 : decode cX4_costUnder 9 = .ok (.bipush 8, 2) := by decide +kernel
theorem dX4_costUnder_11 : decode cX4_costUnder 11 = .ok (.imul, 1) := by decide +kernel
theorem dX4_costUnder_12 : decode cX4_costUnder 12 = .ok (.iload_n 3, 1) := by decide +kernel
theorem dX4_costUnder_13 : decode cX4_costUnder 13 = .ok (.iadd, 1) := by decide +kernel
theorem dX4_costUnder_14 : decode cX4_costUnder 14 = .ok (.istore 4, 2) := by decide +kernel
theorem dX4_costUnder_16 : decode cX4_costUnder 16 = .ok (.iload 4, 2) := by decide +kernel
theorem dX4_costUnder_18 : decode cX4_costUnder 18 = .ok (.ifCond .lt 13, 3) := by decide +kernel
theorem dX4_costUnder_21 : decode cX4_costUnder 21 = .ok (.iload 4, 2) := by decide +kernel
theorem dX4_costUnder_23 : decode cX4_costUnder 23 = .ok (.aload_n 0, 1) := by decide +kernel
theorem dX4_costUnder_24 : decode cX4_costUnder 24 = .ok (.getfield 24, 3) := by decide +kernel
theorem dX4_costUnder_27 : decode cX4_costUnder 27 = .ok (.arraylength, 1) := by decide +kernel
theorem dX4_costUnder_28 : decode cX4_costUnder 28 = .ok (.if_icmp .lt 6, 3) := by decide +kernel
theorem dX4_costUnder_31 : decode cX4_costUnder 31 = .ok (.bipush (-2), 2) := by decide +kernel
theorem dX4_costUnder_33 : decode cX4_costUnder 33 = .ok (.ireturn, 1) := by decide +kernel
theorem dX4_costUnder_34 : decode cX4_costUnder 34 = .ok (.aload_n 0, 1) := by decide +kernel
theorem dX4_costUnder_35 : decode cX4_costUnder 35 = .ok (.getfield 24, 3) := by decide +kernel
theorem dX4_costUnder_38 : decode cX4_costUnder 38 = .ok (.iload 4, 2) := by decide +kernel
theorem dX4_costUnder_40 : decode cX4_costUnder 40 = .ok (.iaload, 1) := by decide +kernel
theorem dX4_costUnder_41 : decode cX4_costUnder 41 = .ok (.aload_n 0, 1) := by decide +kernel
theorem dX4_costUnder_42 : decode cX4_costUnder 42 = .ok (.getfield 27, 3) := by decide +kernel
theorem dX4_costUnder_45 : decode cX4_costUnder 45 = .ok (.if_icmp .ge 25, 3) := by decide +kernel
theorem dX4_costUnder_48 : decode cX4_costUnder 48 = .ok (.aload_n 0, 1) := by decide +kernel
theorem dX4_costUnder_49 : decode cX4_costUnder 49 = .ok (.getfield 24, 3) := by decide +kernel
theorem dX4_costUnder_52 : decode cX4_costUnder 52 = .ok (.iload 4, 2) := by decide +kernel
theorem dX4_costUnder_54 : decode cX4_costUnder 54 = .ok (.aload_n 0, 1) := by decide +kernel
theorem dX4_costUnder_55 : decode cX4_costUnder 55 = .ok (.getfield 27, 3) := by decide +kernel
theorem dX4_costUnder_58 : decode cX4_costUnder 58 = .ok (.bipush (-2), 2) := by decide +kernel
theorem dX4_costUnder_60 : decode cX4_costUnder 60 = .ok (.isub, 1) := by decide +kernel
theorem dX4_costUnder_61 : decode cX4_costUnder 61 = .ok (.aload_n 0, 1) := by decide +kernel
theorem dX4_costUnder_62 : decode cX4_costUnder 62 = .ok (.iload_n 1, 1) := by decide +kernel
theorem dX4_costUnder_63 : decode cX4_costUnder 63 = .ok (.iload_n 2, 1) := by decide +kernel
theorem dX4_costUnder_64 : decode cX4_costUnder 64 = .ok (.iload_n 3, 1) := by decide +kernel
theorem dX4_costUnder_65 : decode cX4_costUnder 65 = .ok (.invokevirtual 80, 3) := by decide +kernel
theorem dX4_costUnder_68 : decode cX4_costUnder 68 = .ok (.iadd, 1) := by decide +kernel
theorem dX4_costUnder_69 : decode cX4_costUnder 69 = .ok (.iastore, 1) := by decide +kernel
theorem dX4_costUnder_70 : decode cX4_costUnder 70 = .ok (.aload_n 0, 1) := by decide +kernel
theorem dX4_costUnder_71 : decode cX4_costUnder 71 = .ok (.getfield 24, 3) := by decide +kernel
theorem dX4_costUnder_74 : decode cX4_costUnder 74 = .ok (.iload 4, 2) := by decide +kernel
theorem dX4_costUnder_76 : decode cX4_costUnder 76 = .ok (.iaload, 1) := by decide +kernel
theorem dX4_costUnder_77 : decode cX4_costUnder 77 = .ok (.aload_n 0, 1) := by decide +kernel
theorem dX4_costUnder_78 : decode cX4_costUnder 78 = .ok (.getfield 27, 3) := by decide +kernel
theorem dX4_costUnder_81 : decode cX4_costUnder 81 = .ok (.isub, 1) := by decide +kernel
theorem dX4_costUnder_82 : decode cX4_costUnder 82 = .ok (.bipush (-2), 2) := by decide +kernel
theorem dX4_costUnder_84 : decode cX4_costUnder 84 = .ok (.iadd, 1) := by decide +kernel
theorem dX4_costUnder_85 : decode cX4_costUnder 85 = .ok (.ireturn, 1) := by decide +kernel
theorem dX4_strictest_0 : decode cX4_strictest 0 = .ok (.aload_n 0, 1) := by decide +kernel
theorem dX4_strictest_1 : decode cX4_strictest 1 = .ok (.getfield 9, 3) := by decide +kernel
theorem dX4_strictest_4 : decode cX4_strictest 4 = .ok (.iconst 1, 1) := by decide +kernel
theorem dX4_strictest_5 : decode cX4_strictest 5 = .ok (.iload_n 1, 1) := by decide +kernel
theorem dX4_strictest_6 : decode cX4_strictest 6 = .ok (.iastore, 1) := by decide +kernel
theorem dX4_strictest_7 : decode cX4_strictest 7 = .ok (.aload_n 0, 1) := by decide +kernel
theorem dX4_strictest_8 : decode cX4_strictest 8 = .ok (.getfield 9, 3) := by decide +kernel
theorem dX4_strictest_11 : decode cX4_strictest 11 = .ok (.iconst 3, 1) := by decide +kernel
theorem dX4_strictest_12 : decode cX4_strictest 12 = .ok (.iload_n 2, 1) := by decide +kernel
theorem dX4_strictest_13 : decode cX4_strictest 13 = .ok (.bipush 24, 2) := by decide +kernel
theorem dX4_strictest_15 : decode cX4_strictest 15 = .ok (.irem, 1) := by decide +kernel
theorem dX4_strictest_16 : decode cX4_strictest 16 = .ok (.iastore, 1) := by decide +kernel
theorem dX4_strictest_17 : decode cX4_strictest 17 = .ok (.aload_n 0, 1) := by decide +kernel
theorem dX4_strictest_18 : decode cX4_strictest 18 = .ok (.getfield 9, 3) := by decide +kernel
theorem dX4_strictest_21 : decode cX4_strictest 21 = .ok (.bipush 6, 2) := by decide +kernel
theorem dX4_strictest_23 : decode cX4_strictest 23 = .ok (.iload_n 3, 1) := by decide +kernel
theorem dX4_strictest_24 : decode cX4_strictest 24 = .ok (.invokestatic 83, 3) := by decide +kernel
theorem dX4_strictest_27 : decode cX4_strictest 27 = .ok (.iastore, 1) := by decide +kernel
theorem dX4_strictest_28 : decode cX4_strictest 28 = .ok (.iconst 0, 1) := by decide +kernel
theorem dX4_strictest_29 : decode cX4_strictest 29 = .ok (.istore 4, 2) := by decide +kernel
theorem dX4_strictest_31 : decode cX4_strictest 31 = .ok (.iconst 0, 1) := by decide +kernel
theorem dX4_strictest_32 : decode cX4_strictest 32 = .ok (.istore 5, 2) := by decide +kernel
theorem dX4_strictest_34 : decode cX4_strictest 34 = .ok (.iload 5, 2) := by decide +kernel
theorem dX4_strictest_36 : decode cX4_strictest 36 = .ok (.iconst 3, 1) := by decide +kernel
theorem dX4_strictest_37 : decode cX4_strictest 37 = .ok (.if_icmp .ge 80, 3) := by decide +kernel
theorem dX4_strictest_40 : decode cX4_strictest 40 = .ok (.iload_n 3, 1) := by decide +kernel
theorem dX4_strictest_41 : decode cX4_strictest 41 = .ok (.iload 5, 2) := by decide +kernel
theorem dX4_strictest_43 : decode cX4_strictest 43 = .ok (.ishr, 1) := by decide +kernel
theorem dX4_strictest_44 : decode cX4_strictest 44 = .ok (.iconst 1, 1) := by decide +kernel
theorem dX4_strictest_45 : decode cX4_strictest 45 = .ok (.iand, 1) := by decide +kernel
theorem dX4_strictest_46 : decode cX4_strictest 46 = .ok (.ifCond .eq 15, 3) := by decide +kernel
theorem dX4_strictest_49 : decode cX4_strictest 49 = .ok (.aload_n 0, 1) := by decide +kernel
theorem dX4_strictest_50 : decode cX4_strictest 50 = .ok (.getfield 40, 3) := by decide +kernel
theorem dX4_strictest_53 : decode cX4_strictest 53 = .ok (.iload 5, 2) := by decide +kernel
theorem dX4_strictest_55 : decode cX4_strictest 55 = .ok (.invokevirtual 88, 3) := by decide +kernel
theorem dX4_strictest_58 : decode cX4_strictest 58 = .ok (.goto 4, 3) := by decide +kernel
theorem dX4_strictest_61 : decode cX4_strictest 61 = .ok (.aconst_null, 1) := by decide +kernel
theorem dX4_strictest_62 : decode cX4_strictest 62 = .ok (.astore 6, 2) := by decide +kernel
theorem dX4_strictest_64 : decode cX4_strictest 64 = .ok (.aload 6, 2) := by decide +kernel
theorem dX4_strictest_66 : decode cX4_strictest 66 = .ok (.ifnonnull 7, 3) := by decide +kernel
theorem dX4_strictest_69 : decode cX4_strictest 69 = .ok (.iconst 0, 1) := by decide +kernel
theorem dX4_strictest_70 : decode cX4_strictest 70 = .ok (.goto 16, 3) := by decide +kernel
theorem dX4_strictest_73 : decode cX4_strictest 73 = .ok (.aload 6, 2) := by decide +kernel
theorem dX4_strictest_75 : decode cX4_strictest 75 = .ok (.aload_n 0, 1) := by decide +kernel
theorem dX4_strictest_76 : decode cX4_strictest 76 = .ok (.getfield 9, 3) := by decide +kernel
theorem dX4_strictest_79 : decode cX4_strictest 79 = .ok (.aload_n 0, 1) := by decide +kernel
theorem dX4_strictest_80 : decode cX4_strictest 80 = .ok (.getfield 15, 3) := by decide +kernel
theorem dX4_strictest_83 : decode cX4_strictest 83 = .ok (.invokevirtual 92, 3) := by decide +kernel
theorem dX4_strictest_86 : decode cX4_strictest 86 = .ok (.istore 7, 2) := by decide +kernel
theorem dX4_strictest_88 : decode cX4_strictest 88 = .ok (.iload 7, 2) := by decide +kernel
theorem dX4_strictest_90 : decode cX4_strictest 90 = .ok (.ifCond .ge 6, 3) := by decide +kernel
theorem dX4_strictest_93 : decode cX4_strictest 93 = .ok (.bipush (-2), 2) := by decide +kernel
theorem dX4_strictest_95 : decode cX4_strictest 95 = .ok (.ireturn, 1) := by decide +kernel
theorem dX4_strictest_96 : decode cX4_strictest 96 = .ok (.iload 4, 2) := by decide +kernel
theorem dX4_strictest_98 : decode cX4_strictest 98 = .ok (.iload 7, 2) := by decide +kernel
theorem dX4_strictest_100 : decode cX4_strictest 100 = .ok (.sipush 9999, 3) := by decide +kernel
theorem dX4_strictest_103 : decode cX4_strictest 103 = .ok (.invokestatic 98, 3) := by decide +kernel
theorem dX4_strictest_106 : decode cX4_strictest 106 = .ok (.invokestatic 103, 3) := by decide +kernel
theorem dX4_strictest_109 : decode cX4_strictest 109 = .ok (.istore 4, 2) := by decide +kernel
theorem dX4_strictest_111 : decode cX4_strictest 111 = .ok (.iinc 5 1, 3) := by decide +kernel
theorem dX4_strictest_114 : decode cX4_strictest 114 = .ok (.goto (-80), 3) := by decide +kernel
theorem dX4_strictest_117 : decode cX4_strictest 117 = .ok (.iload 4, 2) := by decide +kernel
theorem dX4_strictest_119 : decode cX4_strictest 119 = .ok (.ireturn, 1) := by decide +kernel
theorem dX4_costBegun_0 : decode cX4_costBegun 0 = .ok (.aload_n 0, 1) := by decide +kernel
theorem dX4_costBegun_1 : decode cX4_costBegun 1 = .ok (.getfield 37, 3) := by decide +kernel
theorem dX4_costBegun_4 : decode cX4_costBegun 4 = .ok (.iconst 1, 1) := by decide +kernel
theorem dX4_costBegun_5 : decode cX4_costBegun 5 = .ok (.if_icmp .ne 12, 3) := by decide +kernel
theorem dX4_costBegun_8 : decode cX4_costBegun 8 = .ok (.aload_n 0, 1) := by decide +kernel
theorem dX4_costBegun_9 : decode cX4_costBegun 9 = .ok (.getfield 34, 3) := by decide +kernel
theorem dX4_costBegun_12 : decode cX4_costBegun 12 = .ok (.iconst 1, 1) := by decide +kernel
theorem dX4_costBegun_13 : decode cX4_costBegun 13 = .ok (.isub, 1) := by decide +kernel
theorem dX4_costBegun_14 : decode cX4_costBegun 14 = .ok (.goto 4, 3) := by decide +kernel
theorem dX4_costBegun_17 : decode cX4_costBegun 17 = .ok (.iconst 0, 1) := by decide +kernel
theorem dX4_costBegun_18 : decode cX4_costBegun 18 = .ok (.istore_n 2, 1) := by decide +kernel
theorem dX4_costBegun_19 : decode cX4_costBegun 19 = .ok (.aload_n 0, 1) := by decide +kernel
theorem dX4_costBegun_20 : decode cX4_costBegun 20 = .ok (.getfield 37, 3) := by decide +kernel
theorem dX4_costBegun_23 : decode cX4_costBegun 23 = .ok (.ifCond .ne 7, 3) := by decide +kernel
theorem dX4_costBegun_26 : decode cX4_costBegun 26 = .ok (.iconst 1, 1) := by decide +kernel
theorem dX4_costBegun_27 : decode cX4_costBegun 27 = .ok (.goto 7, 3) := by decide +kernel
theorem dX4_costBegun_30 : decode cX4_costBegun 30 = .ok (.aload_n 0, 1) := by decide +kernel
theorem dX4_costBegun_31 : decode cX4_costBegun 31 = .ok (.getfield 34, 3) := by decide +kernel
theorem dX4_costBegun_34 : decode cX4_costBegun 34 = .ok (.istore_n 3, 1) := by decide +kernel
theorem dX4_costBegun_35 : decode cX4_costBegun 35 = .ok (.iconst 0, 1) := by decide +kernel
theorem dX4_costBegun_36 : decode cX4_costBegun 36 = .ok (.istore 4, 2) := by decide +kernel
theorem dX4_costBegun_38 : decode cX4_costBegun 38 = .ok (.bipush (-2), 2) := by decide +kernel
theorem dX4_costBegun_40 : decode cX4_costBegun 40 = .ok (.istore 5, 2) := by decide +kernel
theorem dX4_costBegun_42 : decode cX4_costBegun 42 = .ok (.iload_n 2, 1) := by decide +kernel
theorem dX4_costBegun_43 : decode cX4_costBegun 43 = .ok (.istore 6, 2) := by decide +kernel
theorem dX4_costBegun_45 : decode cX4_costBegun 45 = .ok (.iload 6, 2) := by decide +kernel
theorem dX4_costBegun_47 : decode cX4_costBegun 47 = .ok (.iload_n 3, 1) := by decide +kernel
theorem dX4_costBegun_48 : decode cX4_costBegun 48 = .ok (.if_icmp .ge 73, 3) := by decide +kernel
theorem dX4_costBegun_51 : decode cX4_costBegun 51 = .ok (.aload_n 0, 1) := by decide +kernel
theorem dX4_costBegun_52 : decode cX4_costBegun 52 = .ok (.iload 6, 2) := by decide +kernel
theorem dX4_costBegun_54 : decode cX4_costBegun 54 = .ok (.iload_n 1, 1) := by decide +kernel
theorem dX4_costBegun_55 : decode cX4_costBegun 55 = .ok (.iload 6, 2) := by decide +kernel
theorem dX4_costBegun_57 : decode cX4_costBegun 57 = .ok (.iadd, 1) := by decide +kernel
theorem dX4_costBegun_58 : decode cX4_costBegun 58 = .ok (.aload_n 0, 1) := by decide +kernel
theorem dX4_costBegun_59 : decode cX4_costBegun 59 = .ok (.iload_n 1, 1) := by decide +kernel
theorem dX4_costBegun_60 : decode cX4_costBegun 60 = .ok (.iload 6, 2) := by decide +kernel
theorem dX4_costBegun_62 : decode cX4_costBegun 62 = .ok (.iadd, 1) := by decide +kernel
theorem dX4_costBegun_63 : decode cX4_costBegun 63 = .ok (.invokevirtual 73, 3) := by decide +kernel
theorem dX4_costBegun_66 : decode cX4_costBegun 66 = .ok (.invokevirtual 76, 3) := by decide +kernel
theorem dX4_costBegun_69 : decode cX4_costBegun 69 = .ok (.istore 7, 2) := by decide +kernel
theorem dX4_costBegun_71 : decode cX4_costBegun 71 = .ok (.iload 7, 2) := by decide +kernel
theorem dX4_costBegun_73 : decode cX4_costBegun 73 = .ok (.ifCond .ge 14, 3) := by decide +kernel
theorem dX4_costBegun_76 : decode cX4_costBegun 76 = .ok (.aload_n 0, 1) := by decide +kernel
theorem dX4_costBegun_77 : decode cX4_costBegun 77 = .ok (.getfield 37, 3) := by decide +kernel
theorem dX4_costBegun_80 : decode cX4_costBegun 80 = .ok (.iconst 3, 1) := by decide +kernel
theorem dX4_costBegun_81 : decode cX4_costBegun 81 = .ok (.if_icmp .eq 6, 3) := by decide +kernel
theorem dX4_costBegun_84 : decode cX4_costBegun 84 = .ok (.bipush (-2), 2) := by decide +kernel
theorem dX4_costBegun_86 : decode cX4_costBegun 86 = .ok (.ireturn, 1) := by decide +kernel
theorem dX4_costBegun_87 : decode cX4_costBegun 87 = .ok (.iload 4, 2) := by decide +kernel
theorem dX4_costBegun_89 : decode cX4_costBegun 89 = .ok (.iload 7, 2) := by decide +kernel
theorem dX4_costBegun_91 : decode cX4_costBegun 91 = .ok (.iadd, 1) := by decide +kernel
theorem dX4_costBegun_92 : decode cX4_costBegun 92 = .ok (.istore 4, 2) := by decide +kernel
theorem dX4_costBegun_94 : decode cX4_costBegun 94 = .ok (.iload 7, 2) := by decide +kernel
theorem dX4_costBegun_96 : decode cX4_costBegun 96 = .ok (.ifCond .lt 19, 3) := by decide +kernel
theorem dX4_costBegun_99 : decode cX4_costBegun 99 = .ok (.iload 5, 2) := by decide +kernel
theorem dX4_costBegun_101 : decode cX4_costBegun 101 = .ok (.ifCond .lt 10, 3) := by decide +kernel
theorem dX4_costBegun_104 : decode cX4_costBegun 104 = .ok (.iload 7, 2) := by decide +kernel
theorem dX4_costBegun_106 : decode cX4_costBegun 106 = .ok (.iload 5, 2) := by decide +kernel
theorem dX4_costBegun_108 : decode cX4_costBegun 108 = .ok (.if_icmp .ge 7, 3) := by decide +kernel
theorem dX4_costBegun_111 : decode cX4_costBegun 111 = .ok (.iload 7, 2) := by decide +kernel
theorem dX4_costBegun_113 : decode cX4_costBegun 113 = .ok (.istore 5, 2) := by decide +kernel
theorem dX4_costBegun_115 : decode cX4_costBegun 115 = .ok (.iinc 6 1, 3) := by decide +kernel
theorem dX4_costBegun_118 : decode cX4_costBegun 118 = .ok (.goto (-73), 3) := by decide +kernel
theorem dX4_costBegun_121 : decode cX4_costBegun 121 = .ok (.aload_n 0, 1) := by decide +kernel
theorem dX4_costBegun_122 : decode cX4_costBegun 122 = .ok (.getfield 37, 3) := by decide +kernel
theorem dX4_costBegun_125 : decode cX4_costBegun 125 = .ok (.iconst 3, 1) := by decide +kernel
theorem dX4_costBegun_126 : decode cX4_costBegun 126 = .ok (.if_icmp .ne 8, 3) := by decide +kernel
theorem dX4_costBegun_129 : decode cX4_costBegun 129 = .ok (.iload 5, 2) := by decide +kernel
theorem dX4_costBegun_131 : decode cX4_costBegun 131 = .ok (.goto 5, 3) := by decide +kernel
theorem dX4_costBegun_134 : decode cX4_costBegun 134 = .ok (.iload 4, 2) := by decide +kernel
theorem dX4_costBegun_136 : decode cX4_costBegun 136 = .ok (.ireturn, 1) := by decide +kernel
theorem dX5_init_0 : decode cX5_init 0 = .ok (.aload_n 0, 1) := by decide +kernel
theorem dX5_init_1 : decode cX5_init 1 = .ok (.invokespecial 3, 3) := by decide +kernel
theorem dX5_init_4 : decode cX5_init 4 = .ok (.aload_n 0, 1) := by decide +kernel
theorem dX5_init_5 : decode cX5_init 5 = .ok (.bipush 120, 2) := by decide +kernel
theorem dX5_init_7 : decode cX5_init 7 = .ok (.newarray .int, 2) := by decide +kernel
theorem dX5_init_9 : decode cX5_init 9 = .ok (.putfield 9, 3) := by decide +kernel
theorem dX5_init_12 : decode cX5_init 12 = .ok (.aload_n 0, 1) := by decide +kernel
theorem dX5_init_13 : decode cX5_init 13 = .ok (.iconst 0, 1) := by decide +kernel
theorem dX5_init_14 : decode cX5_init 14 = .ok (.putfield 15, 3) := by decide +kernel
theorem dX5_init_17 : decode cX5_init 17 = .ok (.aload_n 0, 1) := by decide +kernel
theorem dX5_init_18 : decode cX5_init 18 = .ok (.iconst 0, 1) := by decide +kernel
theorem dX5_init_19 : decode cX5_init 19 = .ok (.putfield 19, 3) := by decide +kernel
theorem dX5_init_22 : decode cX5_init 22 = .ok (.aload_n 0, 1) := by decide +kernel
theorem dX5_init_23 : decode cX5_init 23 = .ok (.iconst (-1), 1) := by decide +kernel
theorem dX5_init_24 : decode cX5_init 24 = .ok (.putfield 22, 3) := by decide +kernel
theorem dX5_init_27 : decode cX5_init 27 = .ok (.aload_n 0, 1) := by decide +kernel
theorem dX5_init_28 : decode cX5_init 28 = .ok (.new 25, 3) := by decide +kernel
theorem dX5_init_31 : decode cX5_init 31 = .ok (.dup, 1) := by decide +kernel
theorem dX5_init_32 : decode cX5_init 32 = .ok (.invokespecial 27, 3) := by decide +kernel
theorem dX5_init_35 : decode cX5_init 35 = .ok (.putfield 28, 3) := by decide +kernel
theorem dX5_init_38 : decode cX5_init 38 = .ok (.return_, 1) := by decide +kernel
theorem dX5_size_0 : decode cX5_size 0 = .ok (.aload_n 0, 1) := by decide +kernel
theorem dX5_size_1 : decode cX5_size 1 = .ok (.getfield 15, 3) := by decide +kernel
theorem dX5_size_4 : decode cX5_size 4 = .ok (.ireturn, 1) := by decide +kernel
theorem dX5_take_0 : decode cX5_take 0 = .ok (.aload_n 0, 1) := by decide +kernel
theorem dX5_take_1 : decode cX5_take 1 = .ok (.getfield 15, 3) := by decide +kernel
theorem dX5_take_4 : decode cX5_take 4 = .ok (.bipush 120, 2) := by decide +kernel
theorem dX5_take_6 : decode cX5_take 6 = .ok (.if_icmp .lt 6, 3) := by decide +kernel
theorem dX5_take_9 : decode cX5_take 9 = .ok (.bipush (-3), 2) := by decide +kernel
theorem dX5_take_11 : decode cX5_take 11 = .ok (.ireturn, 1) := by decide +kernel
theorem dX5_take_12 : decode cX5_take 12 = .ok (.aload_n 0, 1) := by decide +kernel
theorem dX5_take_13 : decode cX5_take 13 = .ok (.getfield 9, 3) := by decide +kernel
theorem dX5_take_16 : decode cX5_take 16 = .ok (.aload_n 0, 1) := by decide +kernel
theorem dX5_take_17 : decode cX5_take 17 = .ok (.getfield 15, 3) := by decide +kernel
theorem dX5_take_20 : decode cX5_take 20 = .ok (.iload_n 1, 1) := by decide +kernel
theorem dX5_take_21 : decode cX5_take 21 = .ok (.iastore, 1) := by decide +kernel
theorem dX5_take_22 : decode cX5_take 22 = .ok (.aload_n 0, 1) := by decide +kernel
theorem dX5_take_23 : decode cX5_take 23 = .ok (.dup, 1) := by decide +kernel
theorem dX5_take_24 : decode cX5_take 24 = .ok (.getfield 15, 3) := by decide +kernel
theorem dX5_take_27 : decode cX5_take 27 = .ok (.iconst 1, 1) := by decide +kernel
theorem dX5_take_28 : decode cX5_take 28 = .ok (.iadd, 1) := by decide +kernel
theorem dX5_take_29 : decode cX5_take 29 = .ok (.putfield 15, 3) := by decide +kernel
theorem dX5_take_32 : decode cX5_take 32 = .ok (.aload_n 0, 1) := by decide +kernel
theorem dX5_take_33 : decode cX5_take 33 = .ok (.getfield 15, 3) := by decide +kernel
theorem dX5_take_36 : decode cX5_take 36 = .ok (.ireturn, 1) := by decide +kernel
theorem dX5_read_0 : decode cX5_read 0 = .ok (.aload_n 0, 1) := by decide +kernel
theorem dX5_read_1 : decode cX5_read 1 = .ok (.iconst 0, 1) := by decide +kernel
theorem dX5_read_2 : decode cX5_read 2 = .ok (.putfield 19, 3) := by decide +kernel
theorem dX5_read_5 : decode cX5_read 5 = .ok (.aload_n 0, 1) := by decide +kernel
theorem dX5_read_6 : decode cX5_read 6 = .ok (.iconst (-1), 1) := by decide +kernel
theorem dX5_read_7 : decode cX5_read 7 = .ok (.putfield 22, 3) := by decide +kernel
theorem dX5_read_10 : decode cX5_read 10 = .ok (.aload_n 0, 1) := by decide +kernel
theorem dX5_read_11 : decode cX5_read 11 = .ok (.getfield 28, 3) := by decide +kernel
theorem dX5_read_14 : decode cX5_read 14 = .ok (.invokevirtual 32, 3) := by decide +kernel
theorem dX5_read_17 : decode cX5_read 17 = .ok (.aload_n 0, 1) := by decide +kernel
theorem dX5_read_18 : decode cX5_read 18 = .ok (.invokevirtual 35, 3) := by decide +kernel
theorem dX5_read_21 : decode cX5_read 21 = .ok (.iconst 0, 1) := by decide +kernel
theorem dX5_read_22 : decode cX5_read 22 = .ok (.istore_n 1, 1) := by decide +kernel
theorem dX5_read_23 : decode cX5_read 23 = .ok (.iload_n 1, 1) := by decide +kernel
theorem dX5_read_24 : decode cX5_read 24 = .ok (.bipush 120, 2) := by decide +kernel
theorem dX5_read_26 : decode cX5_read 26 = .ok (.if_icmp .ge 22, 3) := by decide +kernel
theorem dX5_read_29 : decode cX5_read 29 = .ok (.aload_n 0, 1) := by decide +kernel
theorem dX5_read_30 : decode cX5_read 30 = .ok (.bipush 59, 2) := by decide +kernel
theorem dX5_read_32 : decode cX5_read 32 = .ok (.invokevirtual 38, 3) := by decide +kernel
theorem dX5_read_35 : decode cX5_read 35 = .ok (.ifCond .eq 13, 3) := by decide +kernel
theorem dX5_read_38 : decode cX5_read 38 = .ok (.aload_n 0, 1) := by decide +kernel
theorem dX5_read_39 : decode cX5_read 39 = .ok (.invokevirtual 35, 3) := by decide +kernel
theorem dX5_read_42 : decode cX5_read 42 = .ok (.iinc 1 1, 3) := by decide +kernel
theorem dX5_read_45 : decode cX5_read 45 = .ok (.goto (-22), 3) := by decide +kernel
theorem dX5_read_48 : decode cX5_read 48 = .ok (.aload_n 0, 1) := by decide +kernel
theorem dX5_read_49 : decode cX5_read 49 = .ok (.getfield 19, 3) := by decide +kernel
theorem dX5_read_52 : decode cX5_read 52 = .ok (.aload_n 0, 1) := by decide +kernel
theorem dX5_read_53 : decode cX5_read 53 = .ok (.getfield 15, 3) := by decide +kernel
theorem dX5_read_56 : decode cX5_read 56 = .ok (.if_icmp .ge 8, 3) := by decide +kernel
theorem dX5_read_59 : decode cX5_read 59 = .ok (.aload_n 0, 1) := by decide +kernel
theorem dX5_read_60 : decode cX5_read 60 = .ok (.invokevirtual 42, 3) := by decide +kernel
theorem dX5_read_63 : decode cX5_read 63 = .ok (.pop, 1) := by decide +kernel
theorem dX5_read_64 : decode cX5_read 64 = .ok (.aload_n 0, 1) := by decide +kernel
theorem dX5_read_65 : decode cX5_read 65 = .ok (.iconst 0, 1) := by decide +kernel
theorem dX5_read_66 : decode cX5_read 66 = .ok (.putfield 15, 3) := by decide +kernel
theorem dX5_read_69 : decode cX5_read 69 = .ok (.aload_n 0, 1) := by decide +kernel
theorem dX5_read_70 : decode cX5_read 70 = .ok (.getfield 22, 3) := by decide +kernel
theorem dX5_read_73 : decode cX5_read 73 = .ok (.ireturn, 1) := by decide +kernel
theorem dX5_handOut_0 : decode cX5_handOut 0 = .ok (.aload_n 0, 1) := by decide +kernel
theorem dX5_handOut_1 : decode cX5_handOut 1 = .ok (.getfield 28, 3) := by decide +kernel
theorem dX5_handOut_4 : decode cX5_handOut 4 = .ok (.astore_n 2, 1) := by decide +kernel
theorem dX5_handOut_5 : decode cX5_handOut 5 = .ok (.aload_n 0, 1) := by decide +kernel
theorem dX5_handOut_6 : decode cX5_handOut 6 = .ok (.aload_n 1, 1) := by decide +kernel
theorem dX5_handOut_7 : decode cX5_handOut 7 = .ok (.ifnonnull 13, 3) := by decide +kernel
theorem dX5_handOut_10 : decode cX5_handOut 10 = .ok (.new 25, 3) := by decide +kernel
theorem dX5_handOut_13 : decode cX5_handOut 13 = .ok (.dup, 1) := by decide +kernel
theorem dX5_handOut_14 : decode cX5_handOut 14 = .ok (.invokespecial 27, 3) := by decide +kernel
theorem dX5_handOut_17 : decode cX5_handOut 17 = .ok (.goto 4, 3) := by decide +kernel
theorem dX5_handOut_20 : decode cX5_handOut 20 = .ok (.aload_n 1, 1) := by decide +kernel
theorem dX5_handOut_21 : decode cX5_handOut 21 = .ok (.putfield 28, 3) := by decide +kernel
theorem dX5_handOut_24 : decode cX5_handOut 24 = .ok (.aload_n 2, 1) := by decide +kernel
theorem dX5_handOut_25 : decode cX5_handOut 25 = .ok (.areturn, 1) := by decide +kernel
theorem dX5_readLine_0 : decode cX5_readLine 0 = .ok (.aload_n 0, 1) := by decide +kernel
theorem dX5_readLine_1 : decode cX5_readLine 1 = .ok (.iconst 0, 1) := by decide +kernel
theorem dX5_readLine_2 : decode cX5_readLine 2 = .ok (.invokevirtual 46, 3) := by decide +kernel
theorem dX5_readLine_5 : decode cX5_readLine 5 = .ok (.istore_n 1, 1) := by decide +kernel
theorem dX5_readLine_6 : decode cX5_readLine 6 = .ok (.aload_n 0, 1) := by decide +kernel
theorem dX5_readLine_7 : decode cX5_readLine 7 = .ok (.bipush 63, 2) := by decide +kernel
theorem dX5_readLine_9 : decode cX5_readLine 9 = .ok (.invokevirtual 38, 3) := by decide +kernel
theorem dX5_readLine_12 : decode cX5_readLine 12 = .ok (.ifCond .eq 19, 3) := by decide +kernel
theorem dX5_readLine_15 : decode cX5_readLine 15 = .ok (.aload_n 0, 1) := by decide +kernel
theorem dX5_readLine_16 : decode cX5_readLine 16 = .ok (.getfield 28, 3) := by decide +kernel
theorem dX5_readLine_19 : decode cX5_readLine 19 = .ok (.iload_n 1, 1) := by decide +kernel
theorem dX5_readLine_20 : decode cX5_readLine 20 = .ok (.aload_n 0, 1) := by decide +kernel
theorem dX5_readLine_21 : decode cX5_readLine 21 = .ok (.iconst 0, 1) := by decide +kernel
theorem dX5_readLine_22 : decode cX5_readLine 22 = .ok (.invokevirtual 46, 3) := by decide +kernel
theorem dX5_readLine_25 : decode cX5_readLine 25 = .ok (.invokevirtual 50, 3) := by decide +kernel
theorem dX5_readLine_28 : decode cX5_readLine 28 = .ok (.goto 12, 3) := by decide +kernel
theorem dX5_readLine_31 : decode cX5_readLine 31 = .ok (.aload_n 0, 1) := by decide +kernel
theorem dX5_readLine_32 : decode cX5_readLine 32 = .ok (.getfield 28, 3) := by decide +kernel
theorem dX5_readLine_35 : decode cX5_readLine 35 = .ok (.iconst (-1), 1) := by decide +kernel
theorem dX5_readLine_36 : decode cX5_readLine 36 = .ok (.iload_n 1, 1) := by decide +kernel
theorem dX5_readLine_37 : decode cX5_readLine 37 = .ok (.invokevirtual 50, 3) := by decide +kernel
theorem dX5_readLine_40 : decode cX5_readLine 40 = .ok (.return_, 1) := by decide +kernel
theorem dX5_anyOf_0 : decode cX5_anyOf 0 = .ok (.aload_n 0, 1) := by decide +kernel
theorem dX5_anyOf_1 : decode cX5_anyOf 1 = .ok (.iload_n 1, 1) := by decide +kernel
theorem dX5_anyOf_2 : decode cX5_anyOf 2 = .ok (.invokevirtual 54, 3) := by decide +kernel
theorem dX5_anyOf_5 : decode cX5_anyOf 5 = .ok (.istore_n 2, 1) := by decide +kernel
theorem dX5_anyOf_6 : decode cX5_anyOf 6 = .ok (.iconst 0, 1) := by decide +kernel
theorem dX5_anyOf_7 : decode cX5_anyOf 7 = .ok (.istore_n 3, 1) := by decide +kernel
theorem dX5_anyOf_8 : decode cX5_anyOf 8 = .ok (.iload_n 3, 1) := by decide +kernel
theorem dX5_anyOf_9 : decode cX5_anyOf 9 = .ok (.bipush 120, 2) := by decide +kernel
theorem dX5_anyOf_11 : decode cX5_anyOf 11 = .ok (.if_icmp .ge 34, 3) := by decide +kernel
theorem dX5_anyOf_14 : decode cX5_anyOf 14 = .ok (.aload_n 0, 1) := by decide +kernel
theorem dX5_anyOf_15 : decode cX5_anyOf 15 = .ok (.bipush 124, 2) := by decide +kernel
theorem dX5_anyOf_17 : decode cX5_anyOf 17 = .ok (.invokevirtual 38, 3) := by decide +kernel
theorem dX5_anyOf_20 : decode cX5_anyOf 20 = .ok (.ifCond .eq 25, 3) := by decide +kernel
theorem dX5_anyOf_23 : decode cX5_anyOf 23 = .ok (.aload_n 0, 1) := by decide +kernel
theorem dX5_anyOf_24 : decode cX5_anyOf 24 = .ok (.getfield 28, 3) := by decide +kernel
theorem dX5_anyOf_27 : decode cX5_anyOf 27 = .ok (.bipush 124, 2) := by decide +kernel
theorem dX5_anyOf_29 : decode cX5_anyOf 29 = .ok (.iload_n 2, 1) := by decide +kernel
theorem dX5_anyOf_30 : decode cX5_anyOf 30 = .ok (.aload_n 0, 1) := by decide +kernel
theorem dX5_anyOf_31 : decode cX5_anyOf 31 = .ok (.iload_n 1, 1) := by decide +kernel
theorem dX5_anyOf_32 : decode cX5_anyOf 32 = .ok (.invokevirtual 54, 3) := by decide +kernel
theorem dX5_anyOf_35 : decode cX5_anyOf 35 = .ok (.invokevirtual 57, 3) := by decide +kernel
theorem dX5_anyOf_38 : decode cX5_anyOf 38 = .ok (.istore_n 2, 1) := by decide +kernel
theorem dX5_anyOf_39 : decode cX5_anyOf 39 = .ok (.iinc 3 1, 3) := by decide +kernel
theorem dX5_anyOf_42 : decode cX5_anyOf 42 = .ok (.goto (-34), 3) := by decide +kernel
theorem dX5_anyOf_45 : decode cX5_anyOf 45 = .ok (.iload_n 2, 1) := by decide +kernel
theorem dX5_anyOf_46 : decode cX5_anyOf 46 = .ok (.ireturn, 1) := by decide +kernel
theorem dX5_allOf_0 : decode cX5_allOf 0 = .ok (.aload_n 0, 1) := by decide +kernel
theorem dX5_allOf_1 : decode cX5_allOf 1 = .ok (.iload_n 1, 1) := by decide +kernel
theorem dX5_allOf_2 : decode cX5_allOf 2 = .ok (.invokevirtual 61, 3) := by decide +kernel
theorem dX5_allOf_5 : decode cX5_allOf 5 = .ok (.istore_n 2, 1) := by decide +kernel
theorem dX5_allOf_6 : decode cX5_allOf 6 = .ok (.iconst 0, 1) := by decide +kernel
theorem dX5_allOf_7 : decode cX5_allOf 7 = .ok (.istore_n 3, 1) := by decide +kernel
theorem dX5_allOf_8 : decode cX5_allOf 8 = .ok (.iload_n 3, 1) := by decide +kernel
theorem dX5_allOf_9 : decode cX5_allOf 9 = .ok (.bipush 120, 2) := by decide +kernel
theorem dX5_allOf_11 : decode cX5_allOf 11 = .ok (.if_icmp .ge 34, 3) := by decide +kernel
theorem dX5_allOf_14 : decode cX5_allOf 14 = .ok (.aload_n 0, 1) := by decide +kernel
theorem dX5_allOf_15 : decode cX5_allOf 15 = .ok (.bipush 38, 2) := by decide +kernel
theorem dX5_allOf_17 : decode cX5_allOf 17 = .ok (.invokevirtual 38, 3) := by decide +kernel
theorem dX5_allOf_20 : decode cX5_allOf 20 = .ok (.ifCond .eq 25, 3) := by decide +kernel
theorem dX5_allOf_23 : decode cX5_allOf 23 = .ok (.aload_n 0, 1) := by decide +kernel
theorem dX5_allOf_24 : decode cX5_allOf 24 = .ok (.getfield 28, 3) := by decide +kernel
theorem dX5_allOf_27 : decode cX5_allOf 27 = .ok (.bipush 38, 2) := by decide +kernel
theorem dX5_allOf_29 : decode cX5_allOf 29 = .ok (.iload_n 2, 1) := by decide +kernel
theorem dX5_allOf_30 : decode cX5_allOf 30 = .ok (.aload_n 0, 1) := by decide +kernel
theorem dX5_allOf_31 : decode cX5_allOf 31 = .ok (.iload_n 1, 1) := by decide +kernel
theorem dX5_allOf_32 : decode cX5_allOf 32 = .ok (.invokevirtual 61, 3) := by decide +kernel
theorem dX5_allOf_35 : decode cX5_allOf 35 = .ok (.invokevirtual 57, 3) := by decide +kernel
theorem dX5_allOf_38 : decode cX5_allOf 38 = .ok (.istore_n 2, 1) := by decide +kernel
theorem dX5_allOf_39 : decode cX5_allOf 39 = .ok (.iinc 3 1, 3) := by decide +kernel
theorem dX5_allOf_42 : decode cX5_allOf 42 = .ok (.goto (-34), 3) := by decide +kernel
theorem dX5_allOf_45 : decode cX5_allOf 45 = .ok (.iload_n 2, 1) := by decide +kernel
theorem dX5_allOf_46 : decode cX5_allOf 46 = .ok (.ireturn, 1) := by decide +kernel
theorem dX5_compared_0 : decode cX5_compared 0 = .ok (.aload_n 0, 1) := by decide +kernel
theorem dX5_compared_1 : decode cX5_compared 1 = .ok (.iload_n 1, 1) := by decide +kernel
theorem dX5_compared_2 : decode cX5_compared 2 = .ok (.invokevirtual 64, 3) := by decide +kernel
theorem dX5_compared_5 : decode cX5_compared 5 = .ok (.istore_n 2, 1) := by decide +kernel
theorem dX5_compared_6 : decode cX5_compared 6 = .ok (.aload_n 0, 1) := by decide +kernel
theorem dX5_compared_7 : decode cX5_compared 7 = .ok (.invokevirtual 67, 3) := by decide +kernel
theorem dX5_compared_10 : decode cX5_compared 10 = .ok (.istore_n 3, 1) := by decide +kernel
theorem dX5_compared_11 : decode cX5_compared 11 = .ok (.iload_n 3, 1) := by decide +kernel
theorem dX5_compared_12 : decode cX5_compared 12 = .ok (.bipush 60, 2) := by decide +kernel
theorem dX5_compared_14 : decode cX5_compared 14 = .ok (.if_icmp .eq 15, 3) := by decide +kernel
theorem dX5_compared_17 : decode cX5_compared 17 = .ok (.iload_n 3, 1) := by decide +kernel
theorem dX5_compared_18 : decode cX5_compared 18 = .ok (.bipush 61, 2) := by decide +kernel
theorem dX5_compared_20 : decode cX5_compared 20 = .ok (.if_icmp .eq 9, 3) := by decide +kernel
theorem dX5_compared_23 : decode cX5_compared 23 = .ok (.iload_n 3, 1) := by decide +kernel
theorem dX5_compared_24 : decode cX5_compared 24 = .ok (.bipush 62, 2) := by decide +kernel
theorem dX5_compared_26 : decode cX5_compared 26 = .ok (.if_icmp .ne 28, 3) := by decide +kernel
theorem dX5_compared_29 : decode cX5_compared 29 = .ok (.aload_n 0, 1) := by decide +kernel
theorem dX5_compared_30 : decode cX5_compared 30 = .ok (.dup, 1) := by decide +kernel
theorem dX5_compared_31 : decode cX5_compared 31 = .ok (.getfield 19, 3) := by decide +kernel
theorem dX5_compared_34 : decode cX5_compared 34 = .ok (.iconst 1, 1) := by decide +kernel
theorem dX5_compared_35 : decode cX5_compared 35 = .ok (.iadd, 1) := by decide +kernel
theorem dX5_compared_36 : decode cX5_compared 36 = .ok (.putfield 19, 3) := by decide +kernel
theorem dX5_compared_39 : decode cX5_compared 39 = .ok (.aload_n 0, 1) := by decide +kernel
theorem dX5_compared_40 : decode cX5_compared 40 = .ok (.getfield 28, 3) := by decide +kernel
theorem dX5_compared_43 : decode cX5_compared 43 = .ok (.iload_n 3, 1) := by decide +kernel
theorem dX5_compared_44 : decode cX5_compared 44 = .ok (.iload_n 2, 1) := by decide +kernel
theorem dX5_compared_45 : decode cX5_compared 45 = .ok (.aload_n 0, 1) := by decide +kernel
theorem dX5_compared_46 : decode cX5_compared 46 = .ok (.iload_n 1, 1) := by decide +kernel
theorem dX5_compared_47 : decode cX5_compared 47 = .ok (.invokevirtual 64, 3) := by decide +kernel
theorem dX5_compared_50 : decode cX5_compared 50 = .ok (.invokevirtual 57, 3) := by decide +kernel
theorem dX5_compared_53 : decode cX5_compared 53 = .ok (.istore_n 2, 1) := by decide +kernel
theorem dX5_compared_54 : decode cX5_compared 54 = .ok (.iload_n 2, 1) := by decide +kernel
theorem dX5_compared_55 : decode cX5_compared 55 = .ok (.ireturn, 1) := by decide +kernel
theorem dX5_sum_0 : decode cX5_sum 0 = .ok (.aload_n 0, 1) := by decide +kernel
theorem dX5_sum_1 : decode cX5_sum 1 = .ok (.iload_n 1, 1) := by decide +kernel
theorem dX5_sum_2 : decode cX5_sum 2 = .ok (.invokevirtual 70, 3) := by decide +kernel
theorem dX5_sum_5 : decode cX5_sum 5 = .ok (.istore_n 2, 1) := by decide +kernel
theorem dX5_sum_6 : decode cX5_sum 6 = .ok (.iconst 0, 1) := by decide +kernel
theorem dX5_sum_7 : decode cX5_sum 7 = .ok (.istore_n 3, 1) := by decide +kernel
theorem dX5_sum_8 : decode cX5_sum 8 = .ok (.iload_n 3, 1) := by decide +kernel
theorem dX5_sum_9 : decode cX5_sum 9 = .ok (.bipush 120, 2) := by decide +kernel
theorem dX5_sum_11 : decode cX5_sum 11 = .ok (.if_icmp .ge 59, 3) := by decide +kernel
theorem dX5_sum_14 : decode cX5_sum 14 = .ok (.aload_n 0, 1) := by decide +kernel
theorem dX5_sum_15 : decode cX5_sum 15 = .ok (.invokevirtual 67, 3) := by decide +kernel
theorem dX5_sum_18 : decode cX5_sum 18 = .ok (.bipush 43, 2) := by decide +kernel
theorem dX5_sum_20 : decode cX5_sum 20 = .ok (.if_icmp .eq 12, 3) := by decide +kernel
theorem dX5_sum_23 : decode cX5_sum 23 = .ok (.aload_n 0, 1) := by decide +kernel
theorem dX5_sum_24 : decode cX5_sum 24 = .ok (.invokevirtual 67, 3) := by decide +kernel
theorem dX5_sum_27 : decode cX5_sum 27 = .ok (.bipush 45, 2) := by decide +kernel
theorem dX5_sum_29 : decode cX5_sum 29 = .ok (.if_icmp .ne 41, 3) := by decide +kernel
theorem dX5_sum_32 : decode cX5_sum 32 = .ok (.aload_n 0, 1) := by decide +kernel
theorem dX5_sum_33 : decode cX5_sum 33 = .ok (.invokevirtual 67, 3) := by decide +kernel
theorem dX5_sum_36 : decode cX5_sum 36 = .ok (.istore 4, 2) := by decide +kernel
theorem dX5_sum_38 : decode cX5_sum 38 = .ok (.aload_n 0, 1) := by decide +kernel
theorem dX5_sum_39 : decode cX5_sum 39 = .ok (.dup, 1) := by decide +kernel
theorem dX5_sum_40 : decode cX5_sum 40 = .ok (.getfield 19, 3) := by decide +kernel
theorem dX5_sum_43 : decode cX5_sum 43 = .ok (.iconst 1, 1) := by decide +kernel
theorem dX5_sum_44 : decode cX5_sum 44 = .ok (.iadd, 1) := by decide +kernel
theorem dX5_sum_45 : decode cX5_sum 45 = .ok (.putfield 19, 3) := by decide +kernel
theorem dX5_sum_48 : decode cX5_sum 48 = .ok (.aload_n 0, 1) := by decide +kernel
theorem dX5_sum_49 : decode cX5_sum 49 = .ok (.getfield 28, 3) := by decide +kernel
theorem dX5_sum_52 : decode cX5_sum 52 = .ok (.iload 4, 2) := by decide +kernel
theorem dX5_sum_54 : decode cX5_sum 54 = .ok (.iload_n 2, 1) := by decide +kernel
theorem dX5_sum_55 : decode cX5_sum 55 = .ok (.aload_n 0, 1) := by decide +kernel
theorem dX5_sum_56 : decode cX5_sum 56 = .ok (.iload_n 1, 1) := by decide +kernel
theorem dX5_sum_57 : decode cX5_sum 57 = .ok (.invokevirtual 70, 3) := by decide +kernel
theorem dX5_sum_60 : decode cX5_sum 60 = .ok (.invokevirtual 57, 3) := by decide +kernel
theorem dX5_sum_63 : decode cX5_sum 63 = .ok (.istore_n 2, 1) := by decide +kernel
theorem dX5_sum_64 : decode cX5_sum 64 = .ok (.iinc 3 1, 3) := by decide +kernel
theorem dX5_sum_67 : decode cX5_sum 67 = .ok (.goto (-59), 3) := by decide +kernel
theorem dX5_sum_70 : decode cX5_sum 70 = .ok (.iload_n 2, 1) := by decide +kernel
theorem dX5_sum_71 : decode cX5_sum 71 = .ok (.ireturn, 1) := by decide +kernel
theorem dX5_product_0 : decode cX5_product 0 = .ok (.aload_n 0, 1) := by decide +kernel
theorem dX5_product_1 : decode cX5_product 1 = .ok (.iload_n 1, 1) := by decide +kernel
theorem dX5_product_2 : decode cX5_product 2 = .ok (.invokevirtual 73, 3) := by decide +kernel
theorem dX5_product_5 : decode cX5_product 5 = .ok (.istore_n 2, 1) := by decide +kernel
theorem dX5_product_6 : decode cX5_product 6 = .ok (.iconst 0, 1) := by decide +kernel
theorem dX5_product_7 : decode cX5_product 7 = .ok (.istore_n 3, 1) := by decide +kernel
theorem dX5_product_8 : decode cX5_product 8 = .ok (.iload_n 3, 1) := by decide +kernel
theorem dX5_product_9 : decode cX5_product 9 = .ok (.bipush 120, 2) := by decide +kernel
theorem dX5_product_11 : decode cX5_product 11 = .ok (.if_icmp .ge 68, 3) := by decide +kernel
theorem dX5_product_14 : decode cX5_product 14 = .ok (.aload_n 0, 1) := by decide +kernel
theorem dX5_product_15 : decode cX5_product 15 = .ok (.invokevirtual 67, 3) := by decide +kernel
theorem dX5_product_18 : decode cX5_product 18 = .ok (.bipush 42, 2) := by decide +kernel
theorem dX5_product_20 : decode cX5_product 20 = .ok (.if_icmp .eq 21, 3) := by decide +kernel
theorem dX5_product_23 : decode cX5_product 23 = .ok (.aload_n 0, 1) := by decide +kernel
theorem dX5_product_24 : decode cX5_product 24 = .ok (.invokevirtual 67, 3) := by decide +kernel
theorem dX5_product_27 : decode cX5_product 27 = .ok (.bipush 47, 2) := by decide +kernel
theorem dX5_product_29 : decode cX5_product 29 = .ok (.if_icmp .eq 12, 3) := by decide +kernel
theorem dX5_product_32 : decode cX5_product 32 = .ok (.aload_n 0, 1) := by decide +kernel
theorem dX5_product_33 : decode cX5_product 33 = .ok (.invokevirtual 67, 3) := by decide +kernel
theorem dX5_product_36 : decode cX5_product 36 = .ok (.bipush 37, 2) := by decide +kernel
theorem dX5_product_38 : decode cX5_product 38 = .ok (.if_icmp .ne 41, 3) := by decide +kernel
theorem dX5_product_41 : decode cX5_product 41 = .ok (.aload_n 0, 1) := by decide +kernel
theorem dX5_product_42 : decode cX5_product 42 = .ok (.invokevirtual 67, 3) := by decide +kernel
theorem dX5_product_45 : decode cX5_product 45 = .ok (.istore 4, 2) := by decide +kernel
theorem dX5_product_47 : decode cX5_product 47 = .ok (.aload_n 0, 1) := by decide +kernel
theorem dX5_product_48 : decode cX5_product 48 = .ok (.dup, 1) := by decide +kernel
theorem dX5_product_49 : decode cX5_product 49 = .ok (.getfield 19, 3) := by decide +kernel
theorem dX5_product_52 : decode cX5_product 52 = .ok (.iconst 1, 1) := by decide +kernel
theorem dX5_product_53 : decode cX5_product 53 = .ok (.iadd, 1) := by decide +kernel
theorem dX5_product_54 : decode cX5_product 54 = .ok (.putfield 19, 3) := by decide +kernel
theorem dX5_product_57 : decode cX5_product 57 = .ok (.aload_n 0, 1) := by decide +kernel
theorem dX5_product_58 : decode cX5_product 58 = .ok (.getfield 28, 3) := by decide +kernel
theorem dX5_product_61 : decode cX5_product 61 = .ok (.iload 4, 2) := by decide +kernel
theorem dX5_product_63 : decode cX5_product 63 = .ok (.iload_n 2, 1) := by decide +kernel
theorem dX5_product_64 : decode cX5_product 64 = .ok (.aload_n 0, 1) := by decide +kernel
theorem dX5_product_65 : decode cX5_product 65 = .ok (.iload_n 1, 1) := by decide +kernel
theorem dX5_product_66 : decode cX5_product 66 = .ok (.invokevirtual 73, 3) := by decide +kernel
theorem dX5_product_69 : decode cX5_product 69 = .ok (.invokevirtual 57, 3) := by decide +kernel
theorem dX5_product_72 : decode cX5_product 72 = .ok (.istore_n 2, 1) := by decide +kernel
theorem dX5_product_73 : decode cX5_product 73 = .ok (.iinc 3 1, 3) := by decide +kernel
theorem dX5_product_76 : decode cX5_product 76 = .ok (.goto (-68), 3) := by decide +kernel
theorem dX5_product_79 : decode cX5_product 79 = .ok (.iload_n 2, 1) := by decide +kernel
theorem dX5_product_80 : decode cX5_product 80 = .ok (.ireturn, 1) := by decide +kernel
theorem dX5_operand_0 : decode cX5_operand 0 = .ok (.aload_n 0, 1) := by decide +kernel
theorem dX5_operand_1 : decode cX5_operand 1 = .ok (.invokevirtual 67, 3) := by decide +kernel
theorem dX5_operand_4 : decode cX5_operand 4 = .ok (.istore_n 2, 1) := by decide +kernel
theorem dX5_operand_5 : decode cX5_operand 5 = .ok (.iload_n 2, 1) := by decide +kernel
theorem dX5_operand_6 : decode cX5_operand 6 = .ok (.bipush 40, 2) := by decide +kernel
theorem dX5_operand_8 : decode cX5_operand 8 = .ok (.if_icmp .eq 15, 3) := by decide +kernel
theorem dX5_operand_11 : decode cX5_operand 11 = .ok (.iload_n 2, 1) := by decide +kernel
theorem dX5_operand_12 : decode cX5_operand 12 = .ok (.bipush 33, 2) := by decide +kernel
theorem dX5_operand_14 : decode cX5_operand 14 = .ok (.if_icmp .eq 9, 3) := by decide +kernel
theorem dX5_operand_17 : decode cX5_operand 17 = .ok (.iload_n 2, 1) := by decide +kernel
theorem dX5_operand_18 : decode cX5_operand 18 = .ok (.bipush 45, 2) := by decide +kernel
theorem dX5_operand_20 : decode cX5_operand 20 = .ok (.if_icmp .ne 25, 3) := by decide +kernel
theorem dX5_operand_23 : decode cX5_operand 23 = .ok (.iload_n 1, 1) := by decide +kernel
theorem dX5_operand_24 : decode cX5_operand 24 = .ok (.bipush 6, 2) := by decide +kernel
theorem dX5_operand_26 : decode cX5_operand 26 = .ok (.if_icmp .ge 14, 3) := by decide +kernel
theorem dX5_operand_29 : decode cX5_operand 29 = .ok (.aload_n 0, 1) := by decide +kernel
theorem dX5_operand_30 : decode cX5_operand 30 = .ok (.iload_n 2, 1) := by decide +kernel
theorem dX5_operand_31 : decode cX5_operand 31 = .ok (.iload_n 1, 1) := by decide +kernel
theorem dX5_operand_32 : decode cX5_operand 32 = .ok (.iconst 1, 1) := by decide +kernel
theorem dX5_operand_33 : decode cX5_operand 33 = .ok (.iadd, 1) := by decide +kernel
theorem dX5_operand_34 : decode cX5_operand 34 = .ok (.invokevirtual 76, 3) := by decide +kernel
theorem dX5_operand_37 : decode cX5_operand 37 = .ok (.goto 7, 3) := by decide +kernel
theorem dX5_operand_40 : decode cX5_operand 40 = .ok (.aload_n 0, 1) := by decide +kernel
theorem dX5_operand_41 : decode cX5_operand 41 = .ok (.invokevirtual 42, 3) := by decide +kernel
theorem dX5_operand_44 : decode cX5_operand 44 = .ok (.ireturn, 1) := by decide +kernel
theorem dX5_operand_45 : decode cX5_operand 45 = .ok (.aload_n 0, 1) := by decide +kernel
theorem dX5_operand_46 : decode cX5_operand 46 = .ok (.iload_n 2, 1) := by decide +kernel
theorem dX5_operand_47 : decode cX5_operand 47 = .ok (.invokevirtual 80, 3) := by decide +kernel
theorem dX5_operand_50 : decode cX5_operand 50 = .ok (.ifCond .eq 8, 3) := by decide +kernel
theorem dX5_operand_53 : decode cX5_operand 53 = .ok (.aload_n 0, 1) := by decide +kernel
theorem dX5_operand_54 : decode cX5_operand 54 = .ok (.invokevirtual 83, 3) := by decide +kernel
theorem dX5_operand_57 : decode cX5_operand 57 = .ok (.ireturn, 1) := by decide +kernel
theorem dX5_operand_58 : decode cX5_operand 58 = .ok (.aload_n 0, 1) := by decide +kernel
theorem dX5_operand_59 : decode cX5_operand 59 = .ok (.iload_n 2, 1) := by decide +kernel
theorem dX5_operand_60 : decode cX5_operand 60 = .ok (.invokevirtual 86, 3) := by decide +kernel
theorem dX5_operand_63 : decode cX5_operand 63 = .ok (.istore_n 3, 1) := by decide +kernel
theorem dX5_operand_64 : decode cX5_operand 64 = .ok (.iload_n 3, 1) := by decide +kernel
theorem dX5_operand_65 : decode cX5_operand 65 = .ok (.ifCond .ge 8, 3) := by decide +kernel
theorem dX5_operand_68 : decode cX5_operand 68 = .ok (.aload_n 0, 1) := by decide +kernel
theorem dX5_operand_69 : decode cX5_operand 69 = .ok (.invokevirtual 42, 3) := by decide +kernel
theorem dX5_operand_72 : decode cX5_operand 72 = .ok (.ireturn, 1) := by decide +kernel
theorem dX5_operand_73 : decode cX5_operand 73 = .ok (.aload_n 0, 1) := by decide +kernel
theorem dX5_operand_74 : decode cX5_operand 74 = .ok (.dup, 1) := by decide +kernel
theorem dX5_operand_75 : decode cX5_operand 75 = .ok (.getfield 19, 3) := by decide +kernel
theorem dX5_operand_78 : decode cX5_operand 78 = .ok (.iconst 1, 1) := by decide +kernel
theorem dX5_operand_79 : decode cX5_operand 79 = .ok (.iadd, 1) := by decide +kernel
theorem dX5_operand_80 : decode cX5_operand 80 = .ok (.putfield 19, 3) := by decide +kernel
theorem dX5_operand_83 : decode cX5_operand 83 = .ok (.aload_n 0, 1) := by decide +kernel
theorem dX5_operand_84 : decode cX5_operand 84 = .ok (.getfield 28, 3) := by decide +kernel
theorem dX5_operand_87 : decode cX5_operand 87 = .ok (.bipush 107, 2) := by decide +kernel
theorem dX5_operand_89 : decode cX5_operand 89 = .ok (.iload_n 3, 1) := by decide +kernel
theorem dX5_operand_90 : decode cX5_operand 90 = .ok (.iconst (-1), 1) := by decide +kernel
theorem dX5_operand_91 : decode cX5_operand 91 = .ok (.invokevirtual 57, 3) := by decide +kernel
theorem dX5_operand_94 : decode cX5_operand 94 = .ok (.ireturn, 1) := by decide +kernel
theorem dX5_opened_0 : decode cX5_opened 0 = .ok (.aload_n 0, 1) := by decide +kernel
theorem dX5_opened_1 : decode cX5_opened 1 = .ok (.dup, 1) := by decide +kernel
theorem dX5_opened_2 : decode cX5_opened 2 = .ok (.getfield 19, 3) := by decide +kernel
theorem dX5_opened_5 : decode cX5_opened 5 = .ok (.iconst 1, 1) := by decide +kernel
theorem dX5_opened_6 : decode cX5_opened 6 = .ok (.iadd, 1) := by decide +kernel
theorem dX5_opened_7 : decode cX5_opened 7 = .ok (.putfield 19, 3) := by decide +kernel
theorem dX5_opened_10 : decode cX5_opened 10 = .ok (.iload_n 1, 1) := by decide +kernel
theorem dX5_opened_11 : decode cX5_opened 11 = .ok (.bipush 33, 2) := by decide +kernel
theorem dX5_opened_13 : decode cX5_opened 13 = .ok (.if_icmp .ne 19, 3) := by decide +kernel
theorem dX5_opened_16 : decode cX5_opened 16 = .ok (.aload_n 0, 1) := by decide +kernel
theorem dX5_opened_17 : decode cX5_opened 17 = .ok (.getfield 28, 3) := by decide +kernel
theorem dX5_opened_20 : decode cX5_opened 20 = .ok (.bipush 33, 2) := by decide +kernel
theorem dX5_opened_22 : decode cX5_opened 22 = .ok (.aload_n 0, 1) := by decide +kernel
theorem dX5_opened_23 : decode cX5_opened 23 = .ok (.iload_n 2, 1) := by decide +kernel
theorem dX5_opened_24 : decode cX5_opened 24 = .ok (.invokevirtual 73, 3) := by decide +kernel
theorem dX5_opened_27 : decode cX5_opened 27 = .ok (.iconst (-1), 1) := by decide +kernel
theorem dX5_opened_28 : decode cX5_opened 28 = .ok (.invokevirtual 57, 3) := by decide +kernel
theorem dX5_opened_31 : decode cX5_opened 31 = .ok (.ireturn, 1) := by decide +kernel
theorem dX5_opened_32 : decode cX5_opened 32 = .ok (.iload_n 1, 1) := by decide +kernel
theorem dX5_opened_33 : decode cX5_opened 33 = .ok (.bipush 45, 2) := by decide +kernel
theorem dX5_opened_35 : decode cX5_opened 35 = .ok (.if_icmp .ne 19, 3) := by decide +kernel
theorem dX5_opened_38 : decode cX5_opened 38 = .ok (.aload_n 0, 1) := by decide +kernel
theorem dX5_opened_39 : decode cX5_opened 39 = .ok (.getfield 28, 3) := by decide +kernel
theorem dX5_opened_42 : decode cX5_opened 42 = .ok (.bipush 126, 2) := by decide +kernel
theorem dX5_opened_44 : decode cX5_opened 44 = .ok (.aload_n 0, 1) := by decide +kernel
theorem dX5_opened_45 : decode cX5_opened 45 = .ok (.iload_n 2, 1) := by decide +kernel
theorem dX5_opened_46 : decode cX5_opened 46 = .ok (.invokevirtual 73, 3) := by decide +kernel
theorem dX5_opened_49 : decode cX5_opened 49 = .ok (.iconst (-1), 1) := by decide +kernel
theorem dX5_opened_50 : decode cX5_opened 50 = .ok (.invokevirtual 57, 3) := by decide +kernel
theorem dX5_opened_53 : decode cX5_opened 53 = .ok (.ireturn, 1) := by decide +kernel
theorem dX5_opened_54 : decode cX5_opened 54 = .ok (.aload_n 0, 1) := by decide +kernel
theorem dX5_opened_55 : decode cX5_opened 55 = .ok (.iload_n 2, 1) := by decide +kernel
theorem dX5_opened_56 : decode cX5_opened 56 = .ok (.invokevirtual 46, 3) := by decide +kernel
theorem dX5_opened_59 : decode cX5_opened 59 = .ok (.istore_n 3, 1) := by decide +kernel
theorem dX5_opened_60 : decode cX5_opened 60 = .ok (.aload_n 0, 1) := by decide +kernel
theorem dX5_opened_61 : decode cX5_opened 61 = .ok (.bipush 41, 2) := by decide +kernel
theorem dX5_opened_63 : decode cX5_opened 63 = .ok (.invokevirtual 38, 3) := by decide +kernel
theorem dX5_opened_66 : decode cX5_opened 66 = .ok (.ifCond .eq 7, 3) := by decide +kernel
theorem dX5_opened_69 : decode cX5_opened 69 = .ok (.iload_n 3, 1) := by decide +kernel
theorem dX5_opened_70 : decode cX5_opened 70 = .ok (.goto 7, 3) := by decide +kernel
theorem dX5_opened_73 : decode cX5_opened 73 = .ok (.aload_n 0, 1) := by decide +kernel
theorem dX5_opened_74 : decode cX5_opened 74 = .ok (.invokevirtual 42, 3) := by decide +kernel
theorem dX5_opened_77 : decode cX5_opened 77 = .ok (.ireturn, 1) := by decide +kernel
theorem dX5_number_0 : decode cX5_number 0 = .ok (.iconst 0, 1) := by decide +kernel
theorem dX5_number_1 : decode cX5_number 1 = .ok (.istore_n 1, 1) := by decide +kernel
theorem dX5_number_2 : decode cX5_number 2 = .ok (.iconst 0, 1) := by decide +kernel
theorem dX5_number_3 : decode cX5_number 3 = .ok (.istore_n 2, 1) := by decide +kernel
theorem dX5_number_4 : decode cX5_number 4 = .ok (.iload_n 2, 1) := by decide +kernel
theorem dX5_number_5 : decode cX5_number 5 = .ok (.iconst 4, 1) := by decide +kernel
theorem dX5_number_6 : decode cX5_number 6 = .ok (.if_icmp .ge 43, 3) := by decide +kernel
theorem dX5_number_9 : decode cX5_number 9 = .ok (.aload_n 0, 1) := by decide +kernel
theorem dX5_number_10 : decode cX5_number 10 = .ok (.aload_n 0, 1) := by decide +kernel
theorem dX5_number_11 : decode cX5_number 11 = .ok (.invokevirtual 67, 3) := by decide +kernel
theorem dX5_number_14 : decode cX5_number 14 = .ok (.invokevirtual 80, 3) := by decide +kernel
theorem dX5_number_17 : decode cX5_number 17 = .ok (.ifCond .eq 32, 3) := by decide +kernel
theorem dX5_number_20 : decode cX5_number 20 = .ok (.bipush 10, 2) := by decide +kernel
theorem dX5_number_22 : decode cX5_number 22 = .ok (.iload_n 1, 1) := by decide +kernel
theorem dX5_number_23 : decode cX5_number 23 = .ok (.imul, 1) := by decide +kernel
theorem dX5_number_24 : decode cX5_number 24 = .ok (.aload_n 0, 1) := by decide +kernel
theorem dX5_number_25 : decode cX5_number 25 = .ok (.invokevirtual 67, 3) := by decide +kernel
theorem dX5_number_28 : decode cX5_number 28 = .ok (.iadd, 1) := by decide +kernel
theorem dX5_number_29 : decode cX5_number 29 = .ok (.bipush 48, 2) := by decide +kernel
theorem dX5_number_31 : decode cX5_number 31 = .ok (.isub, 1) := by decide +kernel
theorem dX5_number_32 : decode cX5_number 32 = .ok (.istore_n 1, 1) := by decide +kernel
theorem dX5_number_33 : decode cX5_number 33 = .ok (.aload_n 0, 1) := by decide +kernel
theorem dX5_number_34 : decode cX5_number 34 = .ok (.dup, 1) := by decide +kernel
theorem dX5_number_35 : decode cX5_number 35 = .ok (.getfield 19, 3) := by decide +kernel
theorem dX5_number_38 : decode cX5_number 38 = .ok (.iconst 1, 1) := by decide +kernel
theorem dX5_number_39 : decode cX5_number 39 = .ok (.iadd, 1) := by decide +kernel
theorem dX5_number_40 : decode cX5_number 40 = .ok (.putfield 19, 3) := by decide +kernel
theorem dX5_number_43 : decode cX5_number 43 = .ok (.iinc 2 1, 3) := by decide +kernel
theorem dX5_number_46 : decode cX5_number 46 = .ok (.goto (-42), 3) := by decide +kernel
theorem dX5_number_49 : decode cX5_number 49 = .ok (.aload_n 0, 1) := by decide +kernel
theorem dX5_number_50 : decode cX5_number 50 = .ok (.getfield 28, 3) := by decide +kernel
theorem dX5_number_53 : decode cX5_number 53 = .ok (.bipush 48, 2) := by decide +kernel
theorem dX5_number_55 : decode cX5_number 55 = .ok (.iload_n 1, 1) := by decide +kernel
theorem dX5_number_56 : decode cX5_number 56 = .ok (.iconst (-1), 1) := by decide +kernel
theorem dX5_number_57 : decode cX5_number 57 = .ok (.invokevirtual 57, 3) := by decide +kernel
theorem dX5_number_60 : decode cX5_number 60 = .ok (.ireturn, 1) := by decide +kernel
theorem dX5_isDigit_0 : decode cX5_isDigit 0 = .ok (.iload_n 1, 1) := by decide +kernel
theorem dX5_isDigit_1 : decode cX5_isDigit 1 = .ok (.bipush 48, 2) := by decide +kernel
theorem dX5_isDigit_3 : decode cX5_isDigit 3 = .ok (.if_icmp .lt 13, 3) := by decide +kernel
theorem dX5_isDigit_6 : decode cX5_isDigit 6 = .ok (.iload_n 1, 1) := by decide +kernel
theorem dX5_isDigit_7 : decode cX5_isDigit 7 = .ok (.bipush 57, 2) := by decide +kernel
theorem dX5_isDigit_9 : decode cX5_isDigit 9 = .ok (.if_icmp .gt 7, 3) := by decide +kernel
theorem dX5_isDigit_12 : decode cX5_isDigit 12 = .ok (.iconst 1, 1) := by decide +kernel
theorem dX5_isDigit_13 : decode cX5_isDigit 13 = .ok (.goto 4, 3) := by decide +kernel
theorem dX5_isDigit_16 : decode cX5_isDigit 16 = .ok (.iconst 0, 1) := by decide +kernel
theorem dX5_isDigit_17 : decode cX5_isDigit 17 = .ok (.ireturn, 1) := by decide +kernel
theorem dX5_nameOf_0 : decode cX5_nameOf 0 = .ok (.iload_n 1, 1) := by decide +kernel
theorem dX5_nameOf_1 : decode cX5_nameOf 1 = .ok (.tableswitch 94 104 119 #[85, 94, 94, 79, 83, 91, 81, 94, 94, 94, 94, 94, 94, 94, 87, 89], 79) := by decide +kernel
theorem dX5_nameOf_80 : decode cX5_nameOf 80 = .ok (.iconst 0, 1) := by decide +kernel
theorem dX5_nameOf_81 : decode cX5_nameOf 81 = .ok (.ireturn, 1) := by decide +kernel
theorem dX5_nameOf_82 : decode cX5_nameOf 82 = .ok (.iconst 1, 1) := by decide +kernel
theorem dX5_nameOf_83 : decode cX5_nameOf 83 = .ok (.ireturn, 1) := by decide +kernel
theorem dX5_nameOf_84 : decode cX5_nameOf 84 = .ok (.iconst 2, 1) := by decide +kernel
theorem dX5_nameOf_85 : decode cX5_nameOf 85 = .ok (.ireturn, 1) := by decide +kernel
theorem dX5_nameOf_86 : decode cX5_nameOf 86 = .ok (.iconst 3, 1) := by decide +kernel
theorem dX5_nameOf_87 : decode cX5_nameOf 87 = .ok (.ireturn, 1) := by decide +kernel
theorem dX5_nameOf_88 : decode cX5_nameOf 88 = .ok (.iconst 4, 1) := by decide +kernel
theorem dX5_nameOf_89 : decode cX5_nameOf 89 = .ok (.ireturn, 1) := by decide +kernel
theorem dX5_nameOf_90 : decode cX5_nameOf 90 = .ok (.iconst 5, 1) := by decide +kernel
theorem dX5_nameOf_91 : decode cX5_nameOf 91 = .ok (.ireturn, 1) := by decide +kernel
theorem dX5_nameOf_92 : decode cX5_nameOf 92 = .ok (.bipush 6, 2) := by decide +kernel
theorem dX5_nameOf_94 : decode cX5_nameOf 94 = .ok (.ireturn, 1) := by decide +kernel
theorem dX5_nameOf_95 : decode cX5_nameOf 95 = .ok (.bipush (-2), 2) := by decide +kernel
theorem dX5_nameOf_97 : decode cX5_nameOf 97 = .ok (.ireturn, 1) := by decide +kernel
theorem dX5_ahead_0 : decode cX5_ahead 0 = .ok (.aload_n 0, 1) := by decide +kernel
theorem dX5_ahead_1 : decode cX5_ahead 1 = .ok (.getfield 22, 3) := by decide +kernel
theorem dX5_ahead_4 : decode cX5_ahead 4 = .ok (.iconst (-1), 1) := by decide +kernel
theorem dX5_ahead_5 : decode cX5_ahead 5 = .ok (.if_icmp .ne 42, 3) := by decide +kernel
theorem dX5_ahead_8 : decode cX5_ahead 8 = .ok (.aload_n 0, 1) := by decide +kernel
theorem dX5_ahead_9 : decode cX5_ahead 9 = .ok (.getfield 19, 3) := by decide +kernel
theorem dX5_ahead_12 : decode cX5_ahead 12 = .ok (.ifCond .lt 35, 3) := by decide +kernel
theorem dX5_ahead_15 : decode cX5_ahead 15 = .ok (.aload_n 0, 1) := by decide +kernel
theorem dX5_ahead_16 : decode cX5_ahead 16 = .ok (.getfield 19, 3) := by decide +kernel
theorem dX5_ahead_19 : decode cX5_ahead 19 = .ok (.aload_n 0, 1) := by decide +kernel
theorem dX5_ahead_20 : decode cX5_ahead 20 = .ok (.getfield 15, 3) := by decide +kernel
theorem dX5_ahead_23 : decode cX5_ahead 23 = .ok (.if_icmp .ge 24, 3) := by decide +kernel
theorem dX5_ahead_26 : decode cX5_ahead 26 = .ok (.aload_n 0, 1) := by decide +kernel
theorem dX5_ahead_27 : decode cX5_ahead 27 = .ok (.getfield 19, 3) := by decide +kernel
theorem dX5_ahead_30 : decode cX5_ahead 30 = .ok (.bipush 120, 2) := by decide +kernel
theorem dX5_ahead_32 : decode cX5_ahead 32 = .ok (.if_icmp .ge 15, 3) := by decide +kernel
theorem dX5_ahead_35 : decode cX5_ahead 35 = .ok (.aload_n 0, 1) := by decide +kernel
theorem dX5_ahead_36 : decode cX5_ahead 36 = .ok (.getfield 9, 3) := by decide +kernel
theorem dX5_ahead_39 : decode cX5_ahead 39 = .ok (.aload_n 0, 1) := by decide +kernel
theorem dX5_ahead_40 : decode cX5_ahead 40 = .ok (.getfield 19, 3) := by decide +kernel
theorem dX5_ahead_43 : decode cX5_ahead 43 = .ok (.iaload, 1) := by decide +kernel
theorem dX5_ahead_44 : decode cX5_ahead 44 = .ok (.goto 5, 3) := by decide +kernel
theorem dX5_ahead_47 : decode cX5_ahead 47 = .ok (.bipush (-2), 2) := by decide +kernel
theorem dX5_ahead_49 : decode cX5_ahead 49 = .ok (.ireturn, 1) := by decide +kernel
theorem dX5_took_0 : decode cX5_took 0 = .ok (.aload_n 0, 1) := by decide +kernel
theorem dX5_took_1 : decode cX5_took 1 = .ok (.invokevirtual 67, 3) := by decide +kernel
theorem dX5_took_4 : decode cX5_took 4 = .ok (.iload_n 1, 1) := by decide +kernel
theorem dX5_took_5 : decode cX5_took 5 = .ok (.if_icmp .eq 5, 3) := by decide +kernel
theorem dX5_took_8 : decode cX5_took 8 = .ok (.iconst 0, 1) := by decide +kernel
theorem dX5_took_9 : decode cX5_took 9 = .ok (.ireturn, 1) := by decide +kernel
theorem dX5_took_10 : decode cX5_took 10 = .ok (.aload_n 0, 1) := by decide +kernel
theorem dX5_took_11 : decode cX5_took 11 = .ok (.dup, 1) := by decide +kernel
theorem dX5_took_12 : decode cX5_took 12 = .ok (.getfield 19, 3) := by decide +kernel
theorem dX5_took_15 : decode cX5_took 15 = .ok (.iconst 1, 1) := by decide +kernel
theorem dX5_took_16 : decode cX5_took 16 = .ok (.iadd, 1) := by decide +kernel
theorem dX5_took_17 : decode cX5_took 17 = .ok (.putfield 19, 3) := by decide +kernel
theorem dX5_took_20 : decode cX5_took 20 = .ok (.iconst 1, 1) := by decide +kernel
theorem dX5_took_21 : decode cX5_took 21 = .ok (.ireturn, 1) := by decide +kernel
theorem dX5_failed_0 : decode cX5_failed 0 = .ok (.aload_n 0, 1) := by decide +kernel
theorem dX5_failed_1 : decode cX5_failed 1 = .ok (.getfield 22, 3) := by decide +kernel
theorem dX5_failed_4 : decode cX5_failed 4 = .ok (.iconst (-1), 1) := by decide +kernel
theorem dX5_failed_5 : decode cX5_failed 5 = .ok (.if_icmp .ne 11, 3) := by decide +kernel
theorem dX5_failed_8 : decode cX5_failed 8 = .ok (.aload_n 0, 1) := by decide +kernel
theorem dX5_failed_9 : decode cX5_failed 9 = .ok (.aload_n 0, 1) := by decide +kernel
theorem dX5_failed_10 : decode cX5_failed 10 = .ok (.getfield 19, 3) := by decide +kernel
theorem dX5_failed_13 : decode cX5_failed 13 = .ok (.putfield 22, 3) := by decide +kernel
theorem dX5_failed_16 : decode cX5_failed 16 = .ok (.iconst (-1), 1) := by decide +kernel
theorem dX5_failed_17 : decode cX5_failed 17 = .ok (.ireturn, 1) := by decide +kernel
theorem dJ6_bitCount_0f7a4_0 : decode cJ6_bitCount_0f7a4 0 = .ok (.iload_n 0, 1) := by decide +kernel
theorem dJ6_bitCount_0f7a4_1 : decode cJ6_bitCount_0f7a4 1 = .ok (.iload_n 0, 1) := by decide +kernel
theorem dJ6_bitCount_0f7a4_2 : decode cJ6_bitCount_0f7a4 2 = .ok (.iconst 1, 1) := by decide +kernel
theorem dJ6_bitCount_0f7a4_3 : decode cJ6_bitCount_0f7a4 3 = .ok (.iushr, 1) := by decide +kernel
theorem dJ6_bitCount_0f7a4_4 : decode cJ6_bitCount_0f7a4 4 = .ok (.ldc_w 265, 3) := by decide +kernel
theorem dJ6_bitCount_0f7a4_7 : decode cJ6_bitCount_0f7a4 7 = .ok (.iand, 1) := by decide +kernel
theorem dJ6_bitCount_0f7a4_8 : decode cJ6_bitCount_0f7a4 8 = .ok (.isub, 1) := by decide +kernel
theorem dJ6_bitCount_0f7a4_9 : decode cJ6_bitCount_0f7a4 9 = .ok (.istore_n 0, 1) := by decide +kernel
theorem dJ6_bitCount_0f7a4_10 : decode cJ6_bitCount_0f7a4 10 = .ok (.iload_n 0, 1) := by decide +kernel
theorem dJ6_bitCount_0f7a4_11 : decode cJ6_bitCount_0f7a4 11 = .ok (.ldc_w 266, 3) := by decide +kernel
theorem dJ6_bitCount_0f7a4_14 : decode cJ6_bitCount_0f7a4 14 = .ok (.iand, 1) := by decide +kernel
theorem dJ6_bitCount_0f7a4_15 : decode cJ6_bitCount_0f7a4 15 = .ok (.iload_n 0, 1) := by decide +kernel
theorem dJ6_bitCount_0f7a4_16 : decode cJ6_bitCount_0f7a4 16 = .ok (.iconst 2, 1) := by decide +kernel
theorem dJ6_bitCount_0f7a4_17 : decode cJ6_bitCount_0f7a4 17 = .ok (.iushr, 1) := by decide +kernel
theorem dJ6_bitCount_0f7a4_18 : decode cJ6_bitCount_0f7a4 18 = .ok (.ldc_w 266, 3) := by decide +kernel
theorem dJ6_bitCount_0f7a4_21 : decode cJ6_bitCount_0f7a4 21 = .ok (.iand, 1) := by decide +kernel
theorem dJ6_bitCount_0f7a4_22 : decode cJ6_bitCount_0f7a4 22 = .ok (.iadd, 1) := by decide +kernel
theorem dJ6_bitCount_0f7a4_23 : decode cJ6_bitCount_0f7a4 23 = .ok (.istore_n 0, 1) := by decide +kernel
theorem dJ6_bitCount_0f7a4_24 : decode cJ6_bitCount_0f7a4 24 = .ok (.iload_n 0, 1) := by decide +kernel
theorem dJ6_bitCount_0f7a4_25 : decode cJ6_bitCount_0f7a4 25 = .ok (.iload_n 0, 1) := by decide +kernel
theorem dJ6_bitCount_0f7a4_26 : decode cJ6_bitCount_0f7a4 26 = .ok (.iconst 4, 1) := by decide +kernel
theorem dJ6_bitCount_0f7a4_27 : decode cJ6_bitCount_0f7a4 27 = .ok (.iushr, 1) := by decide +kernel
theorem dJ6_bitCount_0f7a4_28 : decode cJ6_bitCount_0f7a4 28 = .ok (.iadd, 1) := by decide +kernel
theorem dJ6_bitCount_0f7a4_29 : decode cJ6_bitCount_0f7a4 29 = .ok (.ldc_w 267, 3) := by decide +kernel
theorem dJ6_bitCount_0f7a4_32 : decode cJ6_bitCount_0f7a4 32 = .ok (.iand, 1) := by decide +kernel
theorem dJ6_bitCount_0f7a4_33 : decode cJ6_bitCount_0f7a4 33 = .ok (.istore_n 0, 1) := by decide +kernel
theorem dJ6_bitCount_0f7a4_34 : decode cJ6_bitCount_0f7a4 34 = .ok (.iload_n 0, 1) := by decide +kernel
theorem dJ6_bitCount_0f7a4_35 : decode cJ6_bitCount_0f7a4 35 = .ok (.iload_n 0, 1) := by decide +kernel
theorem dJ6_bitCount_0f7a4_36 : decode cJ6_bitCount_0f7a4 36 = .ok (.bipush 8, 2) := by decide +kernel
theorem dJ6_bitCount_0f7a4_38 : decode cJ6_bitCount_0f7a4 38 = .ok (.iushr, 1) := by decide +kernel
theorem dJ6_bitCount_0f7a4_39 : decode cJ6_bitCount_0f7a4 39 = .ok (.iadd, 1) := by decide +kernel
theorem dJ6_bitCount_0f7a4_40 : decode cJ6_bitCount_0f7a4 40 = .ok (.istore_n 0, 1) := by decide +kernel
theorem dJ6_bitCount_0f7a4_41 : decode cJ6_bitCount_0f7a4 41 = .ok (.iload_n 0, 1) := by decide +kernel
theorem dJ6_bitCount_0f7a4_42 : decode cJ6_bitCount_0f7a4 42 = .ok (.iload_n 0, 1) := by decide +kernel
theorem dJ6_bitCount_0f7a4_43 : decode cJ6_bitCount_0f7a4 43 = .ok (.bipush 16, 2) := by decide +kernel
theorem dJ6_bitCount_0f7a4_45 : decode cJ6_bitCount_0f7a4 45 = .ok (.iushr, 1) := by decide +kernel
theorem dJ6_bitCount_0f7a4_46 : decode cJ6_bitCount_0f7a4 46 = .ok (.iadd, 1) := by decide +kernel
theorem dJ6_bitCount_0f7a4_47 : decode cJ6_bitCount_0f7a4 47 = .ok (.istore_n 0, 1) := by decide +kernel
theorem dJ6_bitCount_0f7a4_48 : decode cJ6_bitCount_0f7a4 48 = .ok (.iload_n 0, 1) := by decide +kernel
theorem dJ6_bitCount_0f7a4_49 : decode cJ6_bitCount_0f7a4 49 = .ok (.bipush 63, 2) := by decide +kernel
theorem dJ6_bitCount_0f7a4_51 : decode cJ6_bitCount_0f7a4 51 = .ok (.iand, 1) := by decide +kernel
theorem dJ6_bitCount_0f7a4_52 : decode cJ6_bitCount_0f7a4 52 = .ok (.ireturn, 1) := by decide +kernel
theorem dJ9_floorMod_7cf53_0 : decode cJ9_floorMod_7cf53 0 = .ok (.iload_n 0, 1) := by decide +kernel
theorem dJ9_floorMod_7cf53_1 : decode cJ9_floorMod_7cf53 1 = .ok (.iload_n 1, 1) := by decide +kernel
theorem dJ9_floorMod_7cf53_2 : decode cJ9_floorMod_7cf53 2 = .ok (.irem, 1) := by decide +kernel
theorem dJ9_floorMod_7cf53_3 : decode cJ9_floorMod_7cf53 3 = .ok (.istore_n 2, 1) := by decide +kernel
theorem dJ9_floorMod_7cf53_4 : decode cJ9_floorMod_7cf53 4 = .ok (.iload_n 0, 1) := by decide +kernel
theorem dJ9_floorMod_7cf53_5 : decode cJ9_floorMod_7cf53 5 = .ok (.iload_n 1, 1) := by decide +kernel
theorem dJ9_floorMod_7cf53_6 : decode cJ9_floorMod_7cf53 6 = .ok (.ixor, 1) := by decide +kernel
theorem dJ9_floorMod_7cf53_7 : decode cJ9_floorMod_7cf53 7 = .ok (.ifCond .ge 11, 3) := by decide +kernel
theorem dJ9_floorMod_7cf53_10 : decode cJ9_floorMod_7cf53 10 = .ok (.iload_n 2, 1) := by decide +kernel
theorem dJ9_floorMod_7cf53_11 : decode cJ9_floorMod_7cf53 11 = .ok (.ifCond .eq 7, 3) := by decide +kernel
theorem dJ9_floorMod_7cf53_14 : decode cJ9_floorMod_7cf53 14 = .ok (.iload_n 2, 1) := by decide +kernel
theorem dJ9_floorMod_7cf53_15 : decode cJ9_floorMod_7cf53 15 = .ok (.iload_n 1, 1) := by decide +kernel
theorem dJ9_floorMod_7cf53_16 : decode cJ9_floorMod_7cf53 16 = .ok (.iadd, 1) := by decide +kernel
theorem dJ9_floorMod_7cf53_17 : decode cJ9_floorMod_7cf53 17 = .ok (.ireturn, 1) := by decide +kernel
theorem dJ9_floorMod_7cf53_18 : decode cJ9_floorMod_7cf53 18 = .ok (.iload_n 2, 1) := by decide +kernel
theorem dJ9_floorMod_7cf53_19 : decode cJ9_floorMod_7cf53 19 = .ok (.ireturn, 1) := by decide +kernel
theorem dJ9_max_7cf53_0 : decode cJ9_max_7cf53 0 = .ok (.iload_n 0, 1) := by decide +kernel
theorem dJ9_max_7cf53_1 : decode cJ9_max_7cf53 1 = .ok (.iload_n 1, 1) := by decide +kernel
theorem dJ9_max_7cf53_2 : decode cJ9_max_7cf53 2 = .ok (.if_icmp .lt 7, 3) := by decide +kernel
theorem dJ9_max_7cf53_5 : decode cJ9_max_7cf53 5 = .ok (.iload_n 0, 1) := by decide +kernel
theorem dJ9_max_7cf53_6 : decode cJ9_max_7cf53 6 = .ok (.goto 4, 3) := by decide +kernel
theorem dJ9_max_7cf53_9 : decode cJ9_max_7cf53 9 = .ok (.iload_n 1, 1) := by decide +kernel
theorem dJ9_max_7cf53_10 : decode cJ9_max_7cf53 10 = .ok (.ireturn, 1) := by decide +kernel
theorem dJ9_min_7cf53_0 : decode cJ9_min_7cf53 0 = .ok (.iload_n 0, 1) := by decide +kernel
theorem dJ9_min_7cf53_1 : decode cJ9_min_7cf53 1 = .ok (.iload_n 1, 1) := by decide +kernel
theorem dJ9_min_7cf53_2 : decode cJ9_min_7cf53 2 = .ok (.if_icmp .gt 7, 3) := by decide +kernel
theorem dJ9_min_7cf53_5 : decode cJ9_min_7cf53 5 = .ok (.iload_n 0, 1) := by decide +kernel
theorem dJ9_min_7cf53_6 : decode cJ9_min_7cf53 6 = .ok (.goto 4, 3) := by decide +kernel
theorem dJ9_min_7cf53_9 : decode cJ9_min_7cf53 9 = .ok (.iload_n 1, 1) := by decide +kernel
theorem dJ9_min_7cf53_10 : decode cJ9_min_7cf53 10 = .ok (.ireturn, 1) := by decide +kernel
theorem dJ7_fill_53178_0 : decode cJ7_fill_53178 0 = .ok (.iconst 0, 1) := by decide +kernel
theorem dJ7_fill_53178_1 : decode cJ7_fill_53178 1 = .ok (.istore_n 2, 1) := by decide +kernel
theorem dJ7_fill_53178_2 : decode cJ7_fill_53178 2 = .ok (.aload_n 0, 1) := by decide +kernel
theorem dJ7_fill_53178_3 : decode cJ7_fill_53178 3 = .ok (.arraylength, 1) := by decide +kernel
theorem dJ7_fill_53178_4 : decode cJ7_fill_53178 4 = .ok (.istore_n 3, 1) := by decide +kernel
theorem dJ7_fill_53178_5 : decode cJ7_fill_53178 5 = .ok (.iload_n 2, 1) := by decide +kernel
theorem dJ7_fill_53178_6 : decode cJ7_fill_53178 6 = .ok (.iload_n 3, 1) := by decide +kernel
theorem dJ7_fill_53178_7 : decode cJ7_fill_53178 7 = .ok (.if_icmp .ge 13, 3) := by decide +kernel
theorem dJ7_fill_53178_10 : decode cJ7_fill_53178 10 = .ok (.aload_n 0, 1) := by decide +kernel
theorem dJ7_fill_53178_11 : decode cJ7_fill_53178 11 = .ok (.iload_n 2, 1) := by decide +kernel
theorem dJ7_fill_53178_12 : decode cJ7_fill_53178 12 = .ok (.iload_n 1, 1) := by decide +kernel
theorem dJ7_fill_53178_13 : decode cJ7_fill_53178 13 = .ok (.iastore, 1) := by decide +kernel
theorem dJ7_fill_53178_14 : decode cJ7_fill_53178 14 = .ok (.iinc 2 1, 3) := by decide +kernel
theorem dJ7_fill_53178_17 : decode cJ7_fill_53178 17 = .ok (.goto (-12), 3) := by decide +kernel
theorem dJ7_fill_53178_20 : decode cJ7_fill_53178 20 = .ok (.return_, 1) := by decide +kernel
