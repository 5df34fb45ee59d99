theorem dX6_init_0 : decode cX6_init 0 = .ok (.aload_n 0, 1) := by decide +kernel
theorem dX6_init_1 : decode cX6_init 1 = .ok (.invokespecial 3, 3) := by decide +kernel
theorem dX6_init_4 : decode cX6_init 4 = .ok (.aload_n 0, 1) := by decide +kernel
theorem dX6_init_5 : decode cX6_init 5 = .ok (.bipush 6, 2) := by decide +kernel
theorem dX6_init_7 : decode cX6_init 7 = .ok (.newarray .int, 2) := by decide +kernel
theorem dX6_init_9 : decode cX6_init 9 = .ok (.putfield 9, 3) := by decide +kernel
theorem dX6_init_12 : decode cX6_init 12 = .ok (.aload_n 0, 1) := by decide +kernel
theorem dX6_init_13 : decode cX6_init 13 = .ok (.bipush 6, 2) := by decide +kernel
theorem dX6_init_15 : decode cX6_init 15 = .ok (.newarray .int, 2) := by decide +kernel
theorem dX6_init_17 : decode cX6_init 17 = .ok (.putfield 15, 3) := by decide +kernel
theorem dX6_init_20 : decode cX6_init 20 = .ok (.aload_n 0, 1) := by decide +kernel
theorem dX6_init_21 : decode cX6_init 21 = .ok (.bipush 6, 2) := by decide +kernel
theorem dX6_init_23 : decode cX6_init 23 = .ok (.newarray .int, 2) := by decide +kernel
theorem dX6_init_25 : decode cX6_init 25 = .ok (.putfield 18, 3) := by decide +kernel
theorem dX6_init_28 : decode cX6_init 28 = .ok (.aload_n 0, 1) := by decide +kernel
theorem dX6_init_29 : decode cX6_init 29 = .ok (.sipush 360, 3) := by decide +kernel
theorem dX6_init_32 : decode cX6_init 32 = .ok (.newarray .long, 2) := by decide +kernel
theorem dX6_init_34 : decode cX6_init 34 = .ok (.putfield 21, 3) := by decide +kernel
theorem dX6_init_37 : decode cX6_init 37 = .ok (.aload_n 0, 1) := by decide +kernel
theorem dX6_init_38 : decode cX6_init 38 = .ok (.getfield 9, 3) := by decide +kernel
theorem dX6_init_41 : decode cX6_init 41 = .ok (.iconst (-1), 1) := by decide +kernel
theorem dX6_init_42 : decode cX6_init 42 = .ok (.invokestatic 25, 3) := by decide +kernel
theorem dX6_init_45 : decode cX6_init 45 = .ok (.return_, 1) := by decide +kernel
theorem dX6_has_0 : decode cX6_has 0 = .ok (.iload_n 1, 1) := by decide +kernel
theorem dX6_has_1 : decode cX6_has 1 = .ok (.ifCond .lt 13, 3) := by decide +kernel
theorem dX6_has_4 : decode cX6_has 4 = .ok (.iload_n 1, 1) := by decide +kernel
theorem dX6_has_5 : decode cX6_has 5 = .ok (.bipush 6, 2) := by decide +kernel
theorem dX6_has_7 : decode cX6_has 7 = .ok (.if_icmp .ge 7, 3) := by decide +kernel
theorem dX6_has_10 : decode cX6_has 10 = .ok (.iconst 1, 1) := by decide +kernel
theorem dX6_has_11 : decode cX6_has 11 = .ok (.goto 4, 3) := by decide +kernel
theorem dX6_has_14 : decode cX6_has 14 = .ok (.iconst 0, 1) := by decide +kernel
theorem dX6_has_15 : decode cX6_has 15 = .ok (.ireturn, 1) := by decide +kernel
theorem dX6_isEmpty_0 : decode cX6_isEmpty 0 = .ok (.aload_n 0, 1) := by decide +kernel
theorem dX6_isEmpty_1 : decode cX6_isEmpty 1 = .ok (.iload_n 1, 1) := by decide +kernel
theorem dX6_isEmpty_2 : decode cX6_isEmpty 2 = .ok (.invokevirtual 31, 3) := by decide +kernel
theorem dX6_isEmpty_5 : decode cX6_isEmpty 5 = .ok (.ifCond .eq 13, 3) := by decide +kernel
theorem dX6_isEmpty_8 : decode cX6_isEmpty 8 = .ok (.aload_n 0, 1) := by decide +kernel
theorem dX6_isEmpty_9 : decode cX6_isEmpty 9 = .ok (.getfield 9, 3) := by decide +kernel
theorem dX6_isEmpty_12 : decode cX6_isEmpty 12 = .ok (.iload_n 1, 1) := by decide +kernel
theorem dX6_isEmpty_13 : decode cX6_isEmpty 13 = .ok (.iaload, 1) := by decide +kernel
theorem dX6_isEmpty_14 : decode cX6_isEmpty 14 = .ok (.iconst (-1), 1) := by decide +kernel
theorem dX6_isEmpty_15 : decode cX6_isEmpty 15 = .ok (.if_icmp .ne 7, 3) := by decide +kernel
theorem dX6_isEmpty_18 : decode cX6_isEmpty 18 = .ok (.iconst 1, 1) := by decide +kernel
theorem dX6_isEmpty_19 : decode cX6_isEmpty 19 = .ok (.goto 4, 3) := by decide +kernel
theorem dX6_isEmpty_22 : decode cX6_isEmpty 22 = .ok (.iconst 0, 1) := by decide +kernel
theorem dX6_isEmpty_23 : decode cX6_isEmpty 23 = .ok (.ireturn, 1) := by decide +kernel
theorem dX6_holdsRow_0 : decode cX6_holdsRow 0 = .ok (.aload_n 0, 1) := by decide +kernel
theorem dX6_holdsRow_1 : decode cX6_holdsRow 1 = .ok (.iload_n 1, 1) := by decide +kernel
theorem dX6_holdsRow_2 : decode cX6_holdsRow 2 = .ok (.invokevirtual 31, 3) := by decide +kernel
theorem dX6_holdsRow_5 : decode cX6_holdsRow 5 = .ok (.ifCond .eq 16, 3) := by decide +kernel
theorem dX6_holdsRow_8 : decode cX6_holdsRow 8 = .ok (.aload_n 0, 1) := by decide +kernel
theorem dX6_holdsRow_9 : decode cX6_holdsRow 9 = .ok (.getfield 9, 3) := by decide +kernel
theorem dX6_holdsRow_12 : decode cX6_holdsRow 12 = .ok (.iload_n 1, 1) := by decide +kernel
theorem dX6_holdsRow_13 : decode cX6_holdsRow 13 = .ok (.iaload, 1) := by decide +kernel
theorem dX6_holdsRow_14 : decode cX6_holdsRow 14 = .ok (.ifCond .lt 7, 3) := by decide +kernel
theorem dX6_holdsRow_17 : decode cX6_holdsRow 17 = .ok (.iconst 1, 1) := by decide +kernel
theorem dX6_holdsRow_18 : decode cX6_holdsRow 18 = .ok (.goto 4, 3) := by decide +kernel
theorem dX6_holdsRow_21 : decode cX6_holdsRow 21 = .ok (.iconst 0, 1) := by decide +kernel
theorem dX6_holdsRow_22 : decode cX6_holdsRow 22 = .ok (.ireturn, 1) := by decide +kernel
theorem dX6_holdsBytes_0 : decode cX6_holdsBytes 0 = .ok (.aload_n 0, 1) := by decide +kernel
theorem dX6_holdsBytes_1 : decode cX6_holdsBytes 1 = .ok (.iload_n 1, 1) := by decide +kernel
theorem dX6_holdsBytes_2 : decode cX6_holdsBytes 2 = .ok (.invokevirtual 31, 3) := by decide +kernel
theorem dX6_holdsBytes_5 : decode cX6_holdsBytes 5 = .ok (.ifCond .eq 16, 3) := by decide +kernel
theorem dX6_holdsBytes_8 : decode cX6_holdsBytes 8 = .ok (.aload_n 0, 1) := by decide +kernel
theorem dX6_holdsBytes_9 : decode cX6_holdsBytes 9 = .ok (.getfield 9, 3) := by decide +kernel
theorem dX6_holdsBytes_12 : decode cX6_holdsBytes 12 = .ok (.iload_n 1, 1) := by decide +kernel
theorem dX6_holdsBytes_13 : decode cX6_holdsBytes 13 = .ok (.iaload, 1) := by decide +kernel
theorem dX6_holdsBytes_14 : decode cX6_holdsBytes 14 = .ok (.ifCond .ne 7, 3) := by decide +kernel
theorem dX6_holdsBytes_17 : decode cX6_holdsBytes 17 = .ok (.iconst 1, 1) := by decide +kernel
theorem dX6_holdsBytes_18 : decode cX6_holdsBytes 18 = .ok (.goto 4, 3) := by decide +kernel
theorem dX6_holdsBytes_21 : decode cX6_holdsBytes 21 = .ok (.iconst 0, 1) := by decide +kernel
theorem dX6_holdsBytes_22 : decode cX6_holdsBytes 22 = .ok (.ireturn, 1) := by decide +kernel
theorem dX6_holdsLikeRows_0 : decode cX6_holdsLikeRows 0 = .ok (.aload_n 0, 1) := by decide +kernel
theorem dX6_holdsLikeRows_1 : decode cX6_holdsLikeRows 1 = .ok (.iload_n 1, 1) := by decide +kernel
theorem dX6_holdsLikeRows_2 : decode cX6_holdsLikeRows 2 = .ok (.invokevirtual 35, 3) := by decide +kernel
theorem dX6_holdsLikeRows_5 : decode cX6_holdsLikeRows 5 = .ok (.ifCond .eq 30, 3) := by decide +kernel
theorem dX6_holdsLikeRows_8 : decode cX6_holdsLikeRows 8 = .ok (.aload_n 0, 1) := by decide +kernel
theorem dX6_holdsLikeRows_9 : decode cX6_holdsLikeRows 9 = .ok (.iload_n 2, 1) := by decide +kernel
theorem dX6_holdsLikeRows_10 : decode cX6_holdsLikeRows 10 = .ok (.invokevirtual 35, 3) := by decide +kernel
theorem dX6_holdsLikeRows_13 : decode cX6_holdsLikeRows 13 = .ok (.ifCond .eq 22, 3) := by decide +kernel
theorem dX6_holdsLikeRows_16 : decode cX6_holdsLikeRows 16 = .ok (.aload_n 0, 1) := by decide +kernel
theorem dX6_holdsLikeRows_17 : decode cX6_holdsLikeRows 17 = .ok (.getfield 9, 3) := by decide +kernel
theorem dX6_holdsLikeRows_20 : decode cX6_holdsLikeRows 20 = .ok (.iload_n 1, 1) := by decide +kernel
theorem dX6_holdsLikeRows_21 : decode cX6_holdsLikeRows 21 = .ok (.iaload, 1) := by decide +kernel
theorem dX6_holdsLikeRows_22 : decode cX6_holdsLikeRows 22 = .ok (.aload_n 0, 1) := by decide +kernel
theorem dX6_holdsLikeRows_23 : decode cX6_holdsLikeRows 23 = .ok (.getfield 9, 3) := by decide +kernel
theorem dX6_holdsLikeRows_26 : decode cX6_holdsLikeRows 26 = .ok (.iload_n 2, 1) := by decide +kernel
theorem dX6_holdsLikeRows_27 : decode cX6_holdsLikeRows 27 = .ok (.iaload, 1) := by decide +kernel
theorem dX6_holdsLikeRows_28 : decode cX6_holdsLikeRows 28 = .ok (.if_icmp .ne 7, 3) := by decide +kernel
theorem dX6_holdsLikeRows_31 : decode cX6_holdsLikeRows 31 = .ok (.iconst 1, 1) := by decide +kernel
theorem dX6_holdsLikeRows_32 : decode cX6_holdsLikeRows 32 = .ok (.goto 4, 3) := by decide +kernel
theorem dX6_holdsLikeRows_35 : decode cX6_holdsLikeRows 35 = .ok (.iconst 0, 1) := by decide +kernel
theorem dX6_holdsLikeRows_36 : decode cX6_holdsLikeRows 36 = .ok (.ireturn, 1) := by decide +kernel
theorem dX6_hasPlaces_0 : decode cX6_hasPlaces 0 = .ok (.aload_n 0, 1) := by decide +kernel
theorem dX6_hasPlaces_1 : decode cX6_hasPlaces 1 = .ok (.iload_n 1, 1) := by decide +kernel
theorem dX6_hasPlaces_2 : decode cX6_hasPlaces 2 = .ok (.invokevirtual 35, 3) := by decide +kernel
theorem dX6_hasPlaces_5 : decode cX6_hasPlaces 5 = .ok (.ifCond .eq 37, 3) := by decide +kernel
theorem dX6_hasPlaces_8 : decode cX6_hasPlaces 8 = .ok (.iload_n 2, 1) := by decide +kernel
theorem dX6_hasPlaces_9 : decode cX6_hasPlaces 9 = .ok (.ifCond .lt 33, 3) := by decide +kernel
theorem dX6_hasPlaces_12 : decode cX6_hasPlaces 12 = .ok (.iload_n 3, 1) := by decide +kernel
theorem dX6_hasPlaces_13 : decode cX6_hasPlaces 13 = .ok (.ifCond .lt 29, 3) := by decide +kernel
theorem dX6_hasPlaces_16 : decode cX6_hasPlaces 16 = .ok (.iload_n 3, 1) := by decide +kernel
theorem dX6_hasPlaces_17 : decode cX6_hasPlaces 17 = .ok (.aload_n 0, 1) := by decide +kernel
theorem dX6_hasPlaces_18 : decode cX6_hasPlaces 18 = .ok (.getfield 18, 3) := by decide +kernel
theorem dX6_hasPlaces_21 : decode cX6_hasPlaces 21 = .ok (.iload_n 1, 1) := by decide +kernel
theorem dX6_hasPlaces_22 : decode cX6_hasPlaces 22 = .ok (.iaload, 1) := by decide +kernel
theorem dX6_hasPlaces_23 : decode cX6_hasPlaces 23 = .ok (.if_icmp .gt 19, 3) := by decide +kernel
theorem dX6_hasPlaces_26 : decode cX6_hasPlaces 26 = .ok (.iload_n 2, 1) := by decide +kernel
theorem dX6_hasPlaces_27 : decode cX6_hasPlaces 27 = .ok (.aload_n 0, 1) := by decide +kernel
theorem dX6_hasPlaces_28 : decode cX6_hasPlaces 28 = .ok (.getfield 18, 3) := by decide +kernel
theorem dX6_hasPlaces_31 : decode cX6_hasPlaces 31 = .ok (.iload_n 1, 1) := by decide +kernel
theorem dX6_hasPlaces_32 : decode cX6_hasPlaces 32 = .ok (.iaload, 1) := by decide +kernel
theorem dX6_hasPlaces_33 : decode cX6_hasPlaces 33 = .ok (.iload_n 3, 1) := by decide +kernel
theorem dX6_hasPlaces_34 : decode cX6_hasPlaces 34 = .ok (.isub, 1) := by decide +kernel
theorem dX6_hasPlaces_35 : decode cX6_hasPlaces 35 = .ok (.if_icmp .gt 7, 3) := by decide +kernel
theorem dX6_hasPlaces_38 : decode cX6_hasPlaces 38 = .ok (.iconst 1, 1) := by decide +kernel
theorem dX6_hasPlaces_39 : decode cX6_hasPlaces 39 = .ok (.goto 4, 3) := by decide +kernel
theorem dX6_hasPlaces_42 : decode cX6_hasPlaces 42 = .ok (.iconst 0, 1) := by decide +kernel
theorem dX6_hasPlaces_43 : decode cX6_hasPlaces 43 = .ok (.ireturn, 1) := by decide +kernel
theorem dX6_bodyOn_0 : decode cX6_bodyOn 0 = .ok (.aload_n 0, 1) := by decide +kernel
theorem dX6_bodyOn_1 : decode cX6_bodyOn 1 = .ok (.iload_n 1, 1) := by decide +kernel
theorem dX6_bodyOn_2 : decode cX6_bodyOn 2 = .ok (.invokevirtual 31, 3) := by decide +kernel
theorem dX6_bodyOn_5 : decode cX6_bodyOn 5 = .ok (.ifCond .eq 23, 3) := by decide +kernel
theorem dX6_bodyOn_8 : decode cX6_bodyOn 8 = .ok (.aload_n 0, 1) := by decide +kernel
theorem dX6_bodyOn_9 : decode cX6_bodyOn 9 = .ok (.getfield 9, 3) := by decide +kernel
theorem dX6_bodyOn_12 : decode cX6_bodyOn 12 = .ok (.iload_n 1, 1) := by decide +kernel
theorem dX6_bodyOn_13 : decode cX6_bodyOn 13 = .ok (.iaload, 1) := by decide +kernel
theorem dX6_bodyOn_14 : decode cX6_bodyOn 14 = .ok (.bipush (-2), 2) := by decide +kernel
theorem dX6_bodyOn_16 : decode cX6_bodyOn 16 = .ok (.if_icmp .ne 12, 3) := by decide +kernel
theorem dX6_bodyOn_19 : decode cX6_bodyOn 19 = .ok (.aload_n 0, 1) := by decide +kernel
theorem dX6_bodyOn_20 : decode cX6_bodyOn 20 = .ok (.getfield 15, 3) := by decide +kernel
theorem dX6_bodyOn_23 : decode cX6_bodyOn 23 = .ok (.iload_n 1, 1) := by decide +kernel
theorem dX6_bodyOn_24 : decode cX6_bodyOn 24 = .ok (.iaload, 1) := by decide +kernel
theorem dX6_bodyOn_25 : decode cX6_bodyOn 25 = .ok (.goto 5, 3) := by decide +kernel
theorem dX6_bodyOn_28 : decode cX6_bodyOn 28 = .ok (.bipush (-2), 2) := by decide +kernel
theorem dX6_bodyOn_30 : decode cX6_bodyOn 30 = .ok (.ireturn, 1) := by decide +kernel
theorem dX6_refusal_0 : decode cX6_refusal 0 = .ok (.aload_n 0, 1) := by decide +kernel
theorem dX6_refusal_1 : decode cX6_refusal 1 = .ok (.iload_n 1, 1) := by decide +kernel
theorem dX6_refusal_2 : decode cX6_refusal 2 = .ok (.invokevirtual 31, 3) := by decide +kernel
theorem dX6_refusal_5 : decode cX6_refusal 5 = .ok (.ifCond .ne 5, 3) := by decide +kernel
theorem dX6_refusal_8 : decode cX6_refusal 8 = .ok (.iconst (-1), 1) := by decide +kernel
theorem dX6_refusal_9 : decode cX6_refusal 9 = .ok (.ireturn, 1) := by decide +kernel
theorem dX6_refusal_10 : decode cX6_refusal 10 = .ok (.aload_n 0, 1) := by decide +kernel
theorem dX6_refusal_11 : decode cX6_refusal 11 = .ok (.iload_n 1, 1) := by decide +kernel
theorem dX6_refusal_12 : decode cX6_refusal 12 = .ok (.invokevirtual 38, 3) := by decide +kernel
theorem dX6_refusal_15 : decode cX6_refusal 15 = .ok (.ifCond .eq 6, 3) := by decide +kernel
theorem dX6_refusal_18 : decode cX6_refusal 18 = .ok (.bipush (-11), 2) := by decide +kernel
theorem dX6_refusal_20 : decode cX6_refusal 20 = .ok (.ireturn, 1) := by decide +kernel
theorem dX6_refusal_21 : decode cX6_refusal 21 = .ok (.aload_n 0, 1) := by decide +kernel
theorem dX6_refusal_22 : decode cX6_refusal 22 = .ok (.iload_n 1, 1) := by decide +kernel
theorem dX6_refusal_23 : decode cX6_refusal 23 = .ok (.invokevirtual 35, 3) := by decide +kernel
theorem dX6_refusal_26 : decode cX6_refusal 26 = .ok (.ifCond .ne 6, 3) := by decide +kernel
theorem dX6_refusal_29 : decode cX6_refusal 29 = .ok (.bipush (-12), 2) := by decide +kernel
theorem dX6_refusal_31 : decode cX6_refusal 31 = .ok (.ireturn, 1) := by decide +kernel
theorem dX6_refusal_32 : decode cX6_refusal 32 = .ok (.aload_n 0, 1) := by decide +kernel
theorem dX6_refusal_33 : decode cX6_refusal 33 = .ok (.iload_n 1, 1) := by decide +kernel
theorem dX6_refusal_34 : decode cX6_refusal 34 = .ok (.iload_n 2, 1) := by decide +kernel
theorem dX6_refusal_35 : decode cX6_refusal 35 = .ok (.iconst 1, 1) := by decide +kernel
theorem dX6_refusal_36 : decode cX6_refusal 36 = .ok (.invokevirtual 41, 3) := by decide +kernel
theorem dX6_refusal_39 : decode cX6_refusal 39 = .ok (.ifCond .eq 7, 3) := by decide +kernel
theorem dX6_refusal_42 : decode cX6_refusal 42 = .ok (.iconst 0, 1) := by decide +kernel
theorem dX6_refusal_43 : decode cX6_refusal 43 = .ok (.goto 5, 3) := by decide +kernel
theorem dX6_refusal_46 : decode cX6_refusal 46 = .ok (.bipush (-13), 2) := by decide +kernel
theorem dX6_refusal_48 : decode cX6_refusal 48 = .ok (.ireturn, 1) := by decide +kernel
theorem dX6_holdBody_0 : decode cX6_holdBody 0 = .ok (.aload_n 0, 1) := by decide +kernel
theorem dX6_holdBody_1 : decode cX6_holdBody 1 = .ok (.iload_n 1, 1) := by decide +kernel
theorem dX6_holdBody_2 : decode cX6_holdBody 2 = .ok (.invokevirtual 31, 3) := by decide +kernel
theorem dX6_holdBody_5 : decode cX6_holdBody 5 = .ok (.ifCond .eq 26, 3) := by decide +kernel
theorem dX6_holdBody_8 : decode cX6_holdBody 8 = .ok (.aload_n 0, 1) := by decide +kernel
theorem dX6_holdBody_9 : decode cX6_holdBody 9 = .ok (.getfield 9, 3) := by decide +kernel
theorem dX6_holdBody_12 : decode cX6_holdBody 12 = .ok (.iload_n 1, 1) := by decide +kernel
theorem dX6_holdBody_13 : decode cX6_holdBody 13 = .ok (.iload_n 2, 1) := by decide +kernel
theorem dX6_holdBody_14 : decode cX6_holdBody 14 = .ok (.ifCond .ge 7, 3) := by decide +kernel
theorem dX6_holdBody_17 : decode cX6_holdBody 17 = .ok (.iconst (-1), 1) := by decide +kernel
theorem dX6_holdBody_18 : decode cX6_holdBody 18 = .ok (.goto 5, 3) := by decide +kernel
theorem dX6_holdBody_21 : decode cX6_holdBody 21 = .ok (.bipush (-2), 2) := by decide +kernel
theorem dX6_holdBody_23 : decode cX6_holdBody 23 = .ok (.iastore, 1) := by decide +kernel
theorem dX6_holdBody_24 : decode cX6_holdBody 24 = .ok (.aload_n 0, 1) := by decide +kernel
theorem dX6_holdBody_25 : decode cX6_holdBody 25 = .ok (.getfield 15, 3) := by decide +kernel
theorem dX6_holdBody_28 : decode cX6_holdBody 28 = .ok (.iload_n 1, 1) := by decide +kernel
theorem dX6_holdBody_29 : decode cX6_holdBody 29 = .ok (.iload_n 2, 1) := by decide +kernel
theorem dX6_holdBody_30 : decode cX6_holdBody 30 = .ok (.iastore, 1) := by decide +kernel
theorem dX6_holdBody_31 : decode cX6_holdBody 31 = .ok (.return_, 1) := by decide +kernel
theorem dX6_holdRow_0 : decode cX6_holdRow 0 = .ok (.aload_n 0, 1) := by decide +kernel
theorem dX6_holdRow_1 : decode cX6_holdRow 1 = .ok (.iload_n 1, 1) := by decide +kernel
theorem dX6_holdRow_2 : decode cX6_holdRow 2 = .ok (.invokevirtual 31, 3) := by decide +kernel
theorem dX6_holdRow_5 : decode cX6_holdRow 5 = .ok (.ifCond .eq 46, 3) := by decide +kernel
theorem dX6_holdRow_8 : decode cX6_holdRow 8 = .ok (.aload_n 0, 1) := by decide +kernel
theorem dX6_holdRow_9 : decode cX6_holdRow 9 = .ok (.getfield 9, 3) := by decide +kernel
theorem dX6_holdRow_12 : decode cX6_holdRow 12 = .ok (.iload_n 1, 1) := by decide +kernel
theorem dX6_holdRow_13 : decode cX6_holdRow 13 = .ok (.iload_n 2, 1) := by decide +kernel
theorem dX6_holdRow_14 : decode cX6_holdRow 14 = .ok (.iastore, 1) := by decide +kernel
theorem dX6_holdRow_15 : decode cX6_holdRow 15 = .ok (.aload_n 0, 1) := by decide +kernel
theorem dX6_holdRow_16 : decode cX6_holdRow 16 = .ok (.getfield 18, 3) := by decide +kernel
theorem dX6_holdRow_19 : decode cX6_holdRow 19 = .ok (.iload_n 1, 1) := by decide +kernel
theorem dX6_holdRow_20 : decode cX6_holdRow 20 = .ok (.iload_n 3, 1) := by decide +kernel
theorem dX6_holdRow_21 : decode cX6_holdRow 21 = .ok (.iastore, 1) := by decide +kernel
theorem dX6_holdRow_22 : decode cX6_holdRow 22 = .ok (.iconst 0, 1) := by decide +kernel
theorem dX6_holdRow_23 : decode cX6_holdRow 23 = .ok (.istore 4, 2) := by decide +kernel
theorem dX6_holdRow_25 : decode cX6_holdRow 25 = .ok (.iload 4, 2) := by decide +kernel
theorem dX6_holdRow_27 : decode cX6_holdRow 27 = .ok (.bipush 60, 2) := by decide +kernel
theorem dX6_holdRow_29 : decode cX6_holdRow 29 = .ok (.if_icmp .ge 22, 3) := by decide +kernel
theorem dX6_holdRow_32 : decode cX6_holdRow 32 = .ok (.aload_n 0, 1) := by decide +kernel
theorem dX6_holdRow_33 : decode cX6_holdRow 33 = .ok (.getfield 21, 3) := by decide +kernel
theorem dX6_holdRow_36 : decode cX6_holdRow 36 = .ok (.iload_n 1, 1) := by decide +kernel
theorem dX6_holdRow_37 : decode cX6_holdRow 37 = .ok (.bipush 60, 2) := by decide +kernel
theorem dX6_holdRow_39 : decode cX6_holdRow 39 = .ok (.imul, 1) := by decide +kernel
theorem dX6_holdRow_40 : decode cX6_holdRow 40 = .ok (.iload 4, 2) := by decide +kernel
theorem dX6_holdRow_42 : decode cX6_holdRow 42 = .ok (.iadd, 1) := by decide +kernel
theorem dX6_holdRow_43 : decode cX6_holdRow 43 = .ok (.lconst 0, 1) := by decide +kernel
theorem dX6_holdRow_44 : decode cX6_holdRow 44 = .ok (.lastore, 1) := by decide +kernel
theorem dX6_holdRow_45 : decode cX6_holdRow 45 = .ok (.iinc 4 1, 3) := by decide +kernel
theorem dX6_holdRow_48 : decode cX6_holdRow 48 = .ok (.goto (-23), 3) := by decide +kernel
theorem dX6_holdRow_51 : decode cX6_holdRow 51 = .ok (.return_, 1) := by decide +kernel
theorem dX6_at_0 : decode cX6_at 0 = .ok (.aload_n 0, 1) := by decide +kernel
theorem dX6_at_1 : decode cX6_at 1 = .ok (.iload_n 1, 1) := by decide +kernel
theorem dX6_at_2 : decode cX6_at 2 = .ok (.iload_n 2, 1) := by decide +kernel
theorem dX6_at_3 : decode cX6_at 3 = .ok (.iconst 1, 1) := by decide +kernel
theorem dX6_at_4 : decode cX6_at 4 = .ok (.invokevirtual 41, 3) := by decide +kernel
theorem dX6_at_7 : decode cX6_at 7 = .ok (.ifCond .eq 17, 3) := by decide +kernel
theorem dX6_at_10 : decode cX6_at 10 = .ok (.aload_n 0, 1) := by decide +kernel
theorem dX6_at_11 : decode cX6_at 11 = .ok (.getfield 21, 3) := by decide +kernel
theorem dX6_at_14 : decode cX6_at 14 = .ok (.iload_n 1, 1) := by decide +kernel
theorem dX6_at_15 : decode cX6_at 15 = .ok (.bipush 60, 2) := by decide +kernel
theorem dX6_at_17 : decode cX6_at 17 = .ok (.imul, 1) := by decide +kernel
theorem dX6_at_18 : decode cX6_at 18 = .ok (.iload_n 2, 1) := by decide +kernel
theorem dX6_at_19 : decode cX6_at 19 = .ok (.iadd, 1) := by decide +kernel
theorem dX6_at_20 : decode cX6_at 20 = .ok (.laload, 1) := by decide +kernel
theorem dX6_at_21 : decode cX6_at 21 = .ok (.goto 4, 3) := by decide +kernel
theorem dX6_at_24 : decode cX6_at 24 = .ok (.lconst 0, 1) := by decide +kernel
theorem dX6_at_25 : decode cX6_at 25 = .ok (.lreturn, 1) := by decide +kernel
theorem dX6_setAt_0 : decode cX6_setAt 0 = .ok (.aload_n 0, 1) := by decide +kernel
theorem dX6_setAt_1 : decode cX6_setAt 1 = .ok (.iload_n 1, 1) := by decide +kernel
theorem dX6_setAt_2 : decode cX6_setAt 2 = .ok (.iload_n 2, 1) := by decide +kernel
theorem dX6_setAt_3 : decode cX6_setAt 3 = .ok (.iconst 1, 1) := by decide +kernel
theorem dX6_setAt_4 : decode cX6_setAt 4 = .ok (.invokevirtual 41, 3) := by decide +kernel
theorem dX6_setAt_7 : decode cX6_setAt 7 = .ok (.ifCond .eq 25, 3) := by decide +kernel
theorem dX6_setAt_10 : decode cX6_setAt 10 = .ok (.aload_n 0, 1) := by decide +kernel
theorem dX6_setAt_11 : decode cX6_setAt 11 = .ok (.getfield 21, 3) := by decide +kernel
theorem dX6_setAt_14 : decode cX6_setAt 14 = .ok (.iload_n 1, 1) := by decide +kernel
theorem dX6_setAt_15 : decode cX6_setAt 15 = .ok (.bipush 60, 2) := by decide +kernel
theorem dX6_setAt_17 : decode cX6_setAt 17 = .ok (.imul, 1) := by decide +kernel
theorem dX6_setAt_18 : decode cX6_setAt 18 = .ok (.iload_n 2, 1) := by decide +kernel
theorem dX6_setAt_19 : decode cX6_setAt 19 = .ok (.iadd, 1) := by decide +kernel
theorem dX6_setAt_20 : decode cX6_setAt 20 = .ok (.aload_n 0, 1) := by decide +kernel
theorem dX6_setAt_21 : decode cX6_setAt 21 = .ok (.aload_n 0, 1) := by decide +kernel
theorem dX6_setAt_22 : decode cX6_setAt 22 = .ok (.getfield 9, 3) := by decide +kernel
theorem dX6_setAt_25 : decode cX6_setAt 25 = .ok (.iload_n 1, 1) := by decide +kernel
theorem dX6_setAt_26 : decode cX6_setAt 26 = .ok (.iaload, 1) := by decide +kernel
theorem dX6_setAt_27 : decode cX6_setAt 27 = .ok (.lload_n 3, 1) := by decide +kernel
theorem dX6_setAt_28 : decode cX6_setAt 28 = .ok (.invokevirtual 45, 3) := by decide +kernel
theorem dX6_setAt_31 : decode cX6_setAt 31 = .ok (.lastore, 1) := by decide +kernel
theorem dX6_setAt_32 : decode cX6_setAt 32 = .ok (.return_, 1) := by decide +kernel
theorem dX6_lowestBits_0 : decode cX6_lowestBits 0 = .ok (.iload_n 1, 1) := by decide +kernel
theorem dX6_lowestBits_1 : decode cX6_lowestBits 1 = .ok (.tableswitch 61 0 4 #[35, 40, 45, 61, 49], 35) := by decide +kernel
theorem dX6_lowestBits_36 : decode cX6_lowestBits 36 = .ok (.lload_n 2, 1) := by decide +kernel
theorem dX6_lowestBits_37 : decode cX6_lowestBits 37 = .ok (.l2i, 1) := by decide +kernel
theorem dX6_lowestBits_38 : decode cX6_lowestBits 38 = .ok (.i2b, 1) := by decide +kernel
theorem dX6_lowestBits_39 : decode cX6_lowestBits 39 = .ok (.i2l, 1) := by decide +kernel
theorem dX6_lowestBits_40 : decode cX6_lowestBits 40 = .ok (.lreturn, 1) := by decide +kernel
theorem dX6_lowestBits_41 : decode cX6_lowestBits 41 = .ok (.lload_n 2, 1) := by decide +kernel
theorem dX6_lowestBits_42 : decode cX6_lowestBits 42 = .ok (.l2i, 1) := by decide +kernel
theorem dX6_lowestBits_43 : decode cX6_lowestBits 43 = .ok (.i2s, 1) := by decide +kernel
theorem dX6_lowestBits_44 : decode cX6_lowestBits 44 = .ok (.i2l, 1) := by decide +kernel
theorem dX6_lowestBits_45 : decode cX6_lowestBits 45 = .ok (.lreturn, 1) := by decide +kernel
theorem dX6_lowestBits_46 : decode cX6_lowestBits 46 = .ok (.lload_n 2, 1) := by decide +kernel
theorem dX6_lowestBits_47 : decode cX6_lowestBits 47 = .ok (.l2i, 1) := by decide +kernel
theorem dX6_lowestBits_48 : decode cX6_lowestBits 48 = .ok (.i2l, 1) := by decide +kernel
theorem dX6_lowestBits_49 : decode cX6_lowestBits 49 = .ok (.lreturn, 1) := by decide +kernel
theorem dX6_lowestBits_50 : decode cX6_lowestBits 50 = .ok (.lload_n 2, 1) := by decide +kernel
theorem dX6_lowestBits_51 : decode cX6_lowestBits 51 = .ok (.lconst 0, 1) := by decide +kernel
theorem dX6_lowestBits_52 : decode cX6_lowestBits 52 = .ok (.lcmp, 1) := by decide +kernel
theorem dX6_lowestBits_53 : decode cX6_lowestBits 53 = .ok (.ifCond .eq 7, 3) := by decide +kernel
theorem dX6_lowestBits_56 : decode cX6_lowestBits 56 = .ok (.lconst 1, 1) := by decide +kernel
theorem dX6_lowestBits_57 : decode cX6_lowestBits 57 = .ok (.goto 4, 3) := by decide +kernel
theorem dX6_lowestBits_60 : decode cX6_lowestBits 60 = .ok (.lconst 0, 1) := by decide +kernel
theorem dX6_lowestBits_61 : decode cX6_lowestBits 61 = .ok (.lreturn, 1) := by decide +kernel
theorem dX6_lowestBits_62 : decode cX6_lowestBits 62 = .ok (.lload_n 2, 1) := by decide +kernel
theorem dX6_lowestBits_63 : decode cX6_lowestBits 63 = .ok (.lreturn, 1) := by decide +kernel
theorem dX6_copy_0 : decode cX6_copy 0 = .ok (.aload_n 0, 1) := by decide +kernel
theorem dX6_copy_1 : decode cX6_copy 1 = .ok (.iload_n 1, 1) := by decide +kernel
theorem dX6_copy_2 : decode cX6_copy 2 = .ok (.iload_n 2, 1) := by decide +kernel
theorem dX6_copy_3 : decode cX6_copy 3 = .ok (.iload 5, 2) := by decide +kernel
theorem dX6_copy_5 : decode cX6_copy 5 = .ok (.invokevirtual 41, 3) := by decide +kernel
theorem dX6_copy_8 : decode cX6_copy 8 = .ok (.ifCond .eq 41, 3) := by decide +kernel
theorem dX6_copy_11 : decode cX6_copy 11 = .ok (.aload_n 0, 1) := by decide +kernel
theorem dX6_copy_12 : decode cX6_copy 12 = .ok (.iload_n 3, 1) := by decide +kernel
theorem dX6_copy_13 : decode cX6_copy 13 = .ok (.iload 4, 2) := by decide +kernel
theorem dX6_copy_15 : decode cX6_copy 15 = .ok (.iload 5, 2) := by decide +kernel
theorem dX6_copy_17 : decode cX6_copy 17 = .ok (.invokevirtual 41, 3) := by decide +kernel
theorem dX6_copy_20 : decode cX6_copy 20 = .ok (.ifCond .eq 29, 3) := by decide +kernel
theorem dX6_copy_23 : decode cX6_copy 23 = .ok (.aload_n 0, 1) := by decide +kernel
theorem dX6_copy_24 : decode cX6_copy 24 = .ok (.getfield 21, 3) := by decide +kernel
theorem dX6_copy_27 : decode cX6_copy 27 = .ok (.iload_n 1, 1) := by decide +kernel
theorem dX6_copy_28 : decode cX6_copy 28 = .ok (.bipush 60, 2) := by decide +kernel
theorem dX6_copy_30 : decode cX6_copy 30 = .ok (.imul, 1) := by decide +kernel
theorem dX6_copy_31 : decode cX6_copy 31 = .ok (.iload_n 2, 1) := by decide +kernel
theorem dX6_copy_32 : decode cX6_copy 32 = .ok (.iadd, 1) := by decide +kernel
theorem dX6_copy_33 : decode cX6_copy 33 = .ok (.aload_n 0, 1) := by decide +kernel
theorem dX6_copy_34 : decode cX6_copy 34 = .ok (.getfield 21, 3) := by decide +kernel
theorem dX6_copy_37 : decode cX6_copy 37 = .ok (.iload_n 3, 1) := by decide +kernel
theorem dX6_copy_38 : decode cX6_copy 38 = .ok (.bipush 60, 2) := by decide +kernel
theorem dX6_copy_40 : decode cX6_copy 40 = .ok (.imul, 1) := by decide +kernel
theorem dX6_copy_41 : decode cX6_copy 41 = .ok (.iload 4, 2) := by decide +kernel
theorem dX6_copy_43 : decode cX6_copy 43 = .ok (.iadd, 1) := by decide +kernel
theorem dX6_copy_44 : decode cX6_copy 44 = .ok (.iload 5, 2) := by decide +kernel
theorem dX6_copy_46 : decode cX6_copy 46 = .ok (.invokestatic 49, 3) := by decide +kernel
theorem dX6_copy_49 : decode cX6_copy 49 = .ok (.return_, 1) := by decide +kernel
theorem dX7_init_0 : decode cX7_init 0 = .ok (.aload_n 0, 1) := by decide +kernel
theorem dX7_init_1 : decode cX7_init 1 = .ok (.invokespecial 3, 3) := by decide +kernel
theorem dX7_init_4 : decode cX7_init 4 = .ok (.aload_n 0, 1) := by decide +kernel
theorem dX7_init_5 : decode cX7_init 5 = .ok (.iconst 3, 1) := by decide +kernel
theorem dX7_init_6 : decode cX7_init 6 = .ok (.newarray .int, 2) := by decide +kernel
theorem dX7_init_8 : decode cX7_init 8 = .ok (.putfield 9, 3) := by decide +kernel
theorem dX7_init_11 : decode cX7_init 11 = .ok (.aload_n 0, 1) := by decide +kernel
theorem dX7_init_12 : decode cX7_init 12 = .ok (.iconst 3, 1) := by decide +kernel
theorem dX7_init_13 : decode cX7_init 13 = .ok (.newarray .int, 2) := by decide +kernel
theorem dX7_init_15 : decode cX7_init 15 = .ok (.putfield 15, 3) := by decide +kernel
theorem dX7_init_18 : decode cX7_init 18 = .ok (.aload_n 0, 1) := by decide +kernel
theorem dX7_init_19 : decode cX7_init 19 = .ok (.iconst 3, 1) := by decide +kernel
theorem dX7_init_20 : decode cX7_init 20 = .ok (.newarray .int, 2) := by decide +kernel
theorem dX7_init_22 : decode cX7_init 22 = .ok (.putfield 18, 3) := by decide +kernel
theorem dX7_init_25 : decode cX7_init 25 = .ok (.aload_n 0, 1) := by decide +kernel
theorem dX7_init_26 : decode cX7_init 26 = .ok (.iconst 3, 1) := by decide +kernel
theorem dX7_init_27 : decode cX7_init 27 = .ok (.anewarray 21, 3) := by decide +kernel
theorem dX7_init_30 : decode cX7_init 30 = .ok (.putfield 23, 3) := by decide +kernel
theorem dX7_init_33 : decode cX7_init 33 = .ok (.aload_n 0, 1) := by decide +kernel
theorem dX7_init_34 : decode cX7_init 34 = .ok (.bipush 15, 2) := by decide +kernel
theorem dX7_init_36 : decode cX7_init 36 = .ok (.newarray .int, 2) := by decide +kernel
theorem dX7_init_38 : decode cX7_init 38 = .ok (.putfield 27, 3) := by decide +kernel
theorem dX7_init_41 : decode cX7_init 41 = .ok (.aload_n 0, 1) := by decide +kernel
theorem dX7_init_42 : decode cX7_init 42 = .ok (.bipush 15, 2) := by decide +kernel
theorem dX7_init_44 : decode cX7_init 44 = .ok (.newarray .int, 2) := by decide +kernel
theorem dX7_init_46 : decode cX7_init 46 = .ok (.putfield 30, 3) := by decide +kernel
theorem dX7_init_49 : decode cX7_init 49 = .ok (.aload_n 0, 1) := by decide +kernel
theorem dX7_init_50 : decode cX7_init 50 = .ok (.bipush 25, 2) := by decide +kernel
theorem dX7_init_52 : decode cX7_init 52 = .ok (.newarray .int, 2) := by decide +kernel
theorem dX7_init_54 : decode cX7_init 54 = .ok (.putfield 33, 3) := by decide +kernel
theorem dX7_init_57 : decode cX7_init 57 = .ok (.aload_n 0, 1) := by decide +kernel
theorem dX7_init_58 : decode cX7_init 58 = .ok (.iconst 5, 1) := by decide +kernel
theorem dX7_init_59 : decode cX7_init 59 = .ok (.newarray .int, 2) := by decide +kernel
theorem dX7_init_61 : decode cX7_init 61 = .ok (.putfield 36, 3) := by decide +kernel
theorem dX7_init_64 : decode cX7_init 64 = .ok (.aload_n 0, 1) := by decide +kernel
theorem dX7_init_65 : decode cX7_init 65 = .ok (.iconst 0, 1) := by decide +kernel
theorem dX7_init_66 : decode cX7_init 66 = .ok (.putfield 39, 3) := by decide +kernel
theorem dX7_init_69 : decode cX7_init 69 = .ok (.aload_n 0, 1) := by decide +kernel
theorem dX7_init_70 : decode cX7_init 70 = .ok (.iconst 0, 1) := by decide +kernel
theorem dX7_init_71 : decode cX7_init 71 = .ok (.putfield 43, 3) := by decide +kernel
theorem dX7_init_74 : decode cX7_init 74 = .ok (.return_, 1) := by decide +kernel
theorem dX7_moonCount_0 : decode cX7_moonCount 0 = .ok (.aload_n 0, 1) := by decide +kernel
theorem dX7_moonCount_1 : decode cX7_moonCount 1 = .ok (.getfield 39, 3) := by decide +kernel
theorem dX7_moonCount_4 : decode cX7_moonCount 4 = .ok (.ireturn, 1) := by decide +kernel
theorem dX7_valleyCount_0 : decode cX7_valleyCount 0 = .ok (.aload_n 0, 1) := by decide +kernel
theorem dX7_valleyCount_1 : decode cX7_valleyCount 1 = .ok (.getfield 43, 3) := by decide +kernel
theorem dX7_valleyCount_4 : decode cX7_valleyCount 4 = .ok (.ireturn, 1) := by decide +kernel
theorem dX7_hasMoon_0 : decode cX7_hasMoon 0 = .ok (.iload_n 1, 1) := by decide +kernel
theorem dX7_hasMoon_1 : decode cX7_hasMoon 1 = .ok (.ifCond .lt 20, 3) := by decide +kernel
theorem dX7_hasMoon_4 : decode cX7_hasMoon 4 = .ok (.iload_n 1, 1) := by decide +kernel
theorem dX7_hasMoon_5 : decode cX7_hasMoon 5 = .ok (.aload_n 0, 1) := by decide +kernel
theorem dX7_hasMoon_6 : decode cX7_hasMoon 6 = .ok (.getfield 39, 3) := by decide +kernel
theorem dX7_hasMoon_9 : decode cX7_hasMoon 9 = .ok (.if_icmp .ge 12, 3) := by decide +kernel
theorem dX7_hasMoon_12 : decode cX7_hasMoon 12 = .ok (.iload_n 1, 1) := by decide +kernel
theorem dX7_hasMoon_13 : decode cX7_hasMoon 13 = .ok (.iconst 3, 1) := by decide +kernel
theorem dX7_hasMoon_14 : decode cX7_hasMoon 14 = .ok (.if_icmp .ge 7, 3) := by decide +kernel
theorem dX7_hasMoon_17 : decode cX7_hasMoon 17 = .ok (.iconst 1, 1) := by decide +kernel
theorem dX7_hasMoon_18 : decode cX7_hasMoon 18 = .ok (.goto 4, 3) := by decide +kernel
theorem dX7_hasMoon_21 : decode cX7_hasMoon 21 = .ok (.iconst 0, 1) := by decide +kernel
theorem dX7_hasMoon_22 : decode cX7_hasMoon 22 = .ok (.ireturn, 1) := by decide +kernel
theorem dX7_hasValley_0 : decode cX7_hasValley 0 = .ok (.iload_n 1, 1) := by decide +kernel
theorem dX7_hasValley_1 : decode cX7_hasValley 1 = .ok (.ifCond .lt 20, 3) := by decide +kernel
theorem dX7_hasValley_4 : decode cX7_hasValley 4 = .ok (.iload_n 1, 1) := by decide +kernel
theorem dX7_hasValley_5 : decode cX7_hasValley 5 = .ok (.aload_n 0, 1) := by decide +kernel
theorem dX7_hasValley_6 : decode cX7_hasValley 6 = .ok (.getfield 43, 3) := by decide +kernel
theorem dX7_hasValley_9 : decode cX7_hasValley 9 = .ok (.if_icmp .ge 12, 3) := by decide +kernel
theorem dX7_hasValley_12 : decode cX7_hasValley 12 = .ok (.iload_n 1, 1) := by decide +kernel
theorem dX7_hasValley_13 : decode cX7_hasValley 13 = .ok (.iconst 5, 1) := by decide +kernel
theorem dX7_hasValley_14 : decode cX7_hasValley 14 = .ok (.if_icmp .ge 7, 3) := by decide +kernel
theorem dX7_hasValley_17 : decode cX7_hasValley 17 = .ok (.iconst 1, 1) := by decide +kernel
theorem dX7_hasValley_18 : decode cX7_hasValley 18 = .ok (.goto 4, 3) := by decide +kernel
theorem dX7_hasValley_21 : decode cX7_hasValley 21 = .ok (.iconst 0, 1) := by decide +kernel
theorem dX7_hasValley_22 : decode cX7_hasValley 22 = .ok (.ireturn, 1) := by decide +kernel
theorem dX7_isState_0 : decode cX7_isState 0 = .ok (.iload_n 1, 1) := by decide +kernel
theorem dX7_isState_1 : decode cX7_isState 1 = .ok (.ifCond .lt 17, 3) := by decide +kernel
theorem dX7_isState_4 : decode cX7_isState 4 = .ok (.iload_n 1, 1) := by decide +kernel
theorem dX7_isState_5 : decode cX7_isState 5 = .ok (.iconst 1, 1) := by decide +kernel
theorem dX7_isState_6 : decode cX7_isState 6 = .ok (.aload_n 0, 1) := by decide +kernel
theorem dX7_isState_7 : decode cX7_isState 7 = .ok (.getfield 39, 3) := by decide +kernel
theorem dX7_isState_10 : decode cX7_isState 10 = .ok (.ishl, 1) := by decide +kernel
theorem dX7_isState_11 : decode cX7_isState 11 = .ok (.if_icmp .ge 7, 3) := by decide +kernel
theorem dX7_isState_14 : decode cX7_isState 14 = .ok (.iconst 1, 1) := by decide +kernel
theorem dX7_isState_15 : decode cX7_isState 15 = .ok (.goto 4, 3) := by decide +kernel
theorem dX7_isState_18 : decode cX7_isState 18 = .ok (.iconst 0, 1) := by decide +kernel
theorem dX7_isState_19 : decode cX7_isState 19 = .ok (.ireturn, 1) := by decide +kernel
theorem dX7_addMoon_0 : decode cX7_addMoon 0 = .ok (.aload_n 0, 1) := by decide +kernel
theorem dX7_addMoon_1 : decode cX7_addMoon 1 = .ok (.getfield 39, 3) := by decide +kernel
theorem dX7_addMoon_4 : decode cX7_addMoon 4 = .ok (.iconst 3, 1) := by decide +kernel
theorem dX7_addMoon_5 : decode cX7_addMoon 5 = .ok (.if_icmp .lt 6, 3) := by decide +kernel
theorem dX7_addMoon_8 : decode cX7_addMoon 8 = .ok (.bipush (-3), 2) := by decide +kernel
theorem dX7_addMoon_10 : decode cX7_addMoon 10 = .ok (.ireturn, 1) := by decide +kernel
theorem dX7_addMoon_11 : decode cX7_addMoon 11 = .ok (.aload_n 0, 1) := by decide +kernel
theorem dX7_addMoon_12 : decode cX7_addMoon 12 = .ok (.getfield 9, 3) := by decide +kernel
theorem dX7_addMoon_15 : decode cX7_addMoon 15 = .ok (.aload_n 0, 1) := by decide +kernel
theorem dX7_addMoon_16 : decode cX7_addMoon 16 = .ok (.getfield 39, 3) := by decide +kernel
theorem dX7_addMoon_19 : decode cX7_addMoon 19 = .ok (.iload_n 1, 1) := by decide +kernel
theorem dX7_addMoon_20 : decode cX7_addMoon 20 = .ok (.iastore, 1) := by decide +kernel
theorem dX7_addMoon_21 : decode cX7_addMoon 21 = .ok (.aload_n 0, 1) := by decide +kernel
theorem dX7_addMoon_22 : decode cX7_addMoon 22 = .ok (.getfield 15, 3) := by decide +kernel
theorem dX7_addMoon_25 : decode cX7_addMoon 25 = .ok (.aload_n 0, 1) := by decide +kernel
theorem dX7_addMoon_26 : decode cX7_addMoon 26 = .ok (.getfield 39, 3) := by decide +kernel
theorem dX7_addMoon_29 : decode cX7_addMoon 29 = .ok (.iload_n 2, 1) := by decide +kernel
theorem dX7_addMoon_30 : decode cX7_addMoon 30 = .ok (.iastore, 1) := by decide +kernel
theorem dX7_addMoon_31 : decode cX7_addMoon 31 = .ok (.aload_n 0, 1) := by decide +kernel
theorem dX7_addMoon_32 : decode cX7_addMoon 32 = .ok (.getfield 18, 3) := by decide +kernel
theorem dX7_addMoon_35 : decode cX7_addMoon 35 = .ok (.aload_n 0, 1) := by decide +kernel
theorem dX7_addMoon_36 : decode cX7_addMoon 36 = .ok (.getfield 39, 3) := by decide +kernel
theorem dX7_addMoon_39 : decode cX7_addMoon 39 = .ok (.iload_n 3, 1) := by decide +kernel
theorem dX7_addMoon_40 : decode cX7_addMoon 40 = .ok (.iastore, 1) := by decide +kernel
theorem dX7_addMoon_41 : decode cX7_addMoon 41 = .ok (.aload_n 0, 1) := by decide +kernel
theorem dX7_addMoon_42 : decode cX7_addMoon 42 = .ok (.dup, 1) := by decide +kernel
theorem dX7_addMoon_43 : decode cX7_addMoon 43 = .ok (.getfield 39, 3) := by decide +kernel
theorem dX7_addMoon_46 : decode cX7_addMoon 46 = .ok (.dup_x1, 1) := by decide +kernel
theorem dX7_addMoon_47 : decode cX7_addMoon 47 = .ok (.iconst 1, 1) := by decide +kernel
theorem dX7_addMoon_48 : decode cX7_addMoon 48 = .ok (.iadd, 1) := by decide +kernel
theorem dX7_addMoon_49 : decode cX7_addMoon 49 = .ok (.putfield 39, 3) := by decide +kernel
theorem dX7_addMoon_52 : decode cX7_addMoon 52 = .ok (.ireturn, 1) := by decide +kernel
theorem dX7_addValley_0 : decode cX7_addValley 0 = .ok (.aload_n 0, 1) := by decide +kernel
theorem dX7_addValley_1 : decode cX7_addValley 1 = .ok (.getfield 43, 3) := by decide +kernel
theorem dX7_addValley_4 : decode cX7_addValley 4 = .ok (.iconst 5, 1) := by decide +kernel
theorem dX7_addValley_5 : decode cX7_addValley 5 = .ok (.if_icmp .lt 8, 3) := by decide +kernel
theorem dX7_addValley_8 : decode cX7_addValley 8 = .ok (.bipush (-3), 2) := by decide +kernel
theorem dX7_addValley_10 : decode cX7_addValley 10 = .ok (.goto 14, 3) := by decide +kernel
theorem dX7_addValley_13 : decode cX7_addValley 13 = .ok (.aload_n 0, 1) := by decide +kernel
theorem dX7_addValley_14 : decode cX7_addValley 14 = .ok (.dup, 1) := by decide +kernel
theorem dX7_addValley_15 : decode cX7_addValley 15 = .ok (.getfield 43, 3) := by decide +kernel
theorem dX7_addValley_18 : decode cX7_addValley 18 = .ok (.dup_x1, 1) := by decide +kernel
theorem dX7_addValley_19 : decode cX7_addValley 19 = .ok (.iconst 1, 1) := by decide +kernel
theorem dX7_addValley_20 : decode cX7_addValley 20 = .ok (.iadd, 1) := by decide +kernel
theorem dX7_addValley_21 : decode cX7_addValley 21 = .ok (.putfield 43, 3) := by decide +kernel
theorem dX7_addValley_24 : decode cX7_addValley 24 = .ok (.ireturn, 1) := by decide +kernel
theorem dX7_setHills_0 : decode cX7_setHills 0 = .ok (.aload_n 0, 1) := by decide +kernel
theorem dX7_setHills_1 : decode cX7_setHills 1 = .ok (.iload_n 1, 1) := by decide +kernel
theorem dX7_setHills_2 : decode cX7_setHills 2 = .ok (.invokevirtual 46, 3) := by decide +kernel
theorem dX7_setHills_5 : decode cX7_setHills 5 = .ok (.ifCond .eq 11, 3) := by decide +kernel
theorem dX7_setHills_8 : decode cX7_setHills 8 = .ok (.aload_n 0, 1) := by decide +kernel
theorem dX7_setHills_9 : decode cX7_setHills 9 = .ok (.iload_n 2, 1) := by decide +kernel
theorem dX7_setHills_10 : decode cX7_setHills 10 = .ok (.invokevirtual 50, 3) := by decide +kernel
theorem dX7_setHills_13 : decode cX7_setHills 13 = .ok (.ifCond .ne 5, 3) := by decide +kernel
theorem dX7_setHills_16 : decode cX7_setHills 16 = .ok (.iconst (-1), 1) := by decide +kernel
theorem dX7_setHills_17 : decode cX7_setHills 17 = .ok (.ireturn, 1) := by decide +kernel
theorem dX7_setHills_18 : decode cX7_setHills 18 = .ok (.iload_n 1, 1) := by decide +kernel
theorem dX7_setHills_19 : decode cX7_setHills 19 = .ok (.iconst 3, 1) := by decide +kernel
theorem dX7_setHills_20 : decode cX7_setHills 20 = .ok (.imul, 1) := by decide +kernel
theorem dX7_setHills_21 : decode cX7_setHills 21 = .ok (.iload_n 2, 1) := by decide +kernel
theorem dX7_setHills_22 : decode cX7_setHills 22 = .ok (.iadd, 1) := by decide +kernel
theorem dX7_setHills_23 : decode cX7_setHills 23 = .ok (.istore 4, 2) := by decide +kernel
theorem dX7_setHills_25 : decode cX7_setHills 25 = .ok (.bipush 100, 2) := by decide +kernel
theorem dX7_setHills_27 : decode cX7_setHills 27 = .ok (.aload_n 0, 1) := by decide +kernel
theorem dX7_setHills_28 : decode cX7_setHills 28 = .ok (.getfield 27, 3) := by decide +kernel
theorem dX7_setHills_31 : decode cX7_setHills 31 = .ok (.iload 4, 2) := by decide +kernel
theorem dX7_setHills_33 : decode cX7_setHills 33 = .ok (.iaload, 1) := by decide +kernel
theorem dX7_setHills_34 : decode cX7_setHills 34 = .ok (.imul, 1) := by decide +kernel
theorem dX7_setHills_35 : decode cX7_setHills 35 = .ok (.aload_n 0, 1) := by decide +kernel
theorem dX7_setHills_36 : decode cX7_setHills 36 = .ok (.getfield 30, 3) := by decide +kernel
theorem dX7_setHills_39 : decode cX7_setHills 39 = .ok (.iload 4, 2) := by decide +kernel
theorem dX7_setHills_41 : decode cX7_setHills 41 = .ok (.iaload, 1) := by decide +kernel
theorem dX7_setHills_42 : decode cX7_setHills 42 = .ok (.iadd, 1) := by decide +kernel
theorem dX7_setHills_43 : decode cX7_setHills 43 = .ok (.istore 5, 2) := by decide +kernel
theorem dX7_setHills_45 : decode cX7_setHills 45 = .ok (.aload_n 0, 1) := by decide +kernel
theorem dX7_setHills_46 : decode cX7_setHills 46 = .ok (.getfield 27, 3) := by decide +kernel
theorem dX7_setHills_49 : decode cX7_setHills 49 = .ok (.iload 4, 2) := by decide +kernel
theorem dX7_setHills_51 : decode cX7_setHills 51 = .ok (.iload_n 3, 1) := by decide +kernel
theorem dX7_setHills_52 : decode cX7_setHills 52 = .ok (.bipush 100, 2) := by decide +kernel
theorem dX7_setHills_54 : decode cX7_setHills 54 = .ok (.idiv, 1) := by decide +kernel
theorem dX7_setHills_55 : decode cX7_setHills 55 = .ok (.iastore, 1) := by decide +kernel
theorem dX7_setHills_56 : decode cX7_setHills 56 = .ok (.aload_n 0, 1) := by decide +kernel
theorem dX7_setHills_57 : decode cX7_setHills 57 = .ok (.getfield 30, 3) := by decide +kernel
theorem dX7_setHills_60 : decode cX7_setHills 60 = .ok (.iload 4, 2) := by decide +kernel
theorem dX7_setHills_62 : decode cX7_setHills 62 = .ok (.iload_n 3, 1) := by decide +kernel
theorem dX7_setHills_63 : decode cX7_setHills 63 = .ok (.bipush 100, 2) := by decide +kernel
theorem dX7_setHills_65 : decode cX7_setHills 65 = .ok (.irem, 1) := by decide +kernel
theorem dX7_setHills_66 : decode cX7_setHills 66 = .ok (.iastore, 1) := by decide +kernel
theorem dX7_setHills_67 : decode cX7_setHills 67 = .ok (.iload 5, 2) := by decide +kernel
theorem dX7_setHills_69 : decode cX7_setHills 69 = .ok (.ireturn, 1) := by decide +kernel
theorem dX7_setWay_0 : decode cX7_setWay 0 = .ok (.aload_n 0, 1) := by decide +kernel
theorem dX7_setWay_1 : decode cX7_setWay 1 = .ok (.iload_n 1, 1) := by decide +kernel
theorem dX7_setWay_2 : decode cX7_setWay 2 = .ok (.invokevirtual 46, 3) := by decide +kernel
theorem dX7_setWay_5 : decode cX7_setWay 5 = .ok (.ifCond .eq 11, 3) := by decide +kernel
theorem dX7_setWay_8 : decode cX7_setWay 8 = .ok (.aload_n 0, 1) := by decide +kernel
theorem dX7_setWay_9 : decode cX7_setWay 9 = .ok (.iload_n 2, 1) := by decide +kernel
theorem dX7_setWay_10 : decode cX7_setWay 10 = .ok (.invokevirtual 46, 3) := by decide +kernel
theorem dX7_setWay_13 : decode cX7_setWay 13 = .ok (.ifCond .ne 5, 3) := by decide +kernel
theorem dX7_setWay_16 : decode cX7_setWay 16 = .ok (.iconst (-1), 1) := by decide +kernel
theorem dX7_setWay_17 : decode cX7_setWay 17 = .ok (.ireturn, 1) := by decide +kernel
theorem dX7_setWay_18 : decode cX7_setWay 18 = .ok (.aload_n 0, 1) := by decide +kernel
theorem dX7_setWay_19 : decode cX7_setWay 19 = .ok (.getfield 33, 3) := by decide +kernel
theorem dX7_setWay_22 : decode cX7_setWay 22 = .ok (.iload_n 1, 1) := by decide +kernel
theorem dX7_setWay_23 : decode cX7_setWay 23 = .ok (.iconst 5, 1) := by decide +kernel
theorem dX7_setWay_24 : decode cX7_setWay 24 = .ok (.imul, 1) := by decide +kernel
theorem dX7_setWay_25 : decode cX7_setWay 25 = .ok (.iload_n 2, 1) := by decide +kernel
theorem dX7_setWay_26 : decode cX7_setWay 26 = .ok (.iadd, 1) := by decide +kernel
theorem dX7_setWay_27 : decode cX7_setWay 27 = .ok (.iaload, 1) := by decide +kernel
theorem dX7_setWay_28 : decode cX7_setWay 28 = .ok (.istore 4, 2) := by decide +kernel
theorem dX7_setWay_30 : decode cX7_setWay 30 = .ok (.aload_n 0, 1) := by decide +kernel
theorem dX7_setWay_31 : decode cX7_setWay 31 = .ok (.getfield 33, 3) := by decide +kernel
theorem dX7_setWay_34 : decode cX7_setWay 34 = .ok (.iload_n 1, 1) := by decide +kernel
theorem dX7_setWay_35 : decode cX7_setWay 35 = .ok (.iconst 5, 1) := by decide +kernel
theorem dX7_setWay_36 : decode cX7_setWay 36 = .ok (.imul, 1) := by decide +kernel
theorem dX7_setWay_37 : decode cX7_setWay 37 = .ok (.iload_n 2, 1) := by decide +kernel
theorem dX7_setWay_38 : decode cX7_setWay 38 = .ok (.iadd, 1) := by decide +kernel
theorem dX7_setWay_39 : decode cX7_setWay 39 = .ok (.iload_n 3, 1) := by decide +kernel
theorem dX7_setWay_40 : decode cX7_setWay 40 = .ok (.iastore, 1) := by decide +kernel
theorem dX7_setWay_41 : decode cX7_setWay 41 = .ok (.aload_n 0, 1) := by decide +kernel
theorem dX7_setWay_42 : decode cX7_setWay 42 = .ok (.getfield 33, 3) := by decide +kernel
theorem dX7_setWay_45 : decode cX7_setWay 45 = .ok (.iload_n 2, 1) := by decide +kernel
theorem dX7_setWay_46 : decode cX7_setWay 46 = .ok (.iconst 5, 1) := by decide +kernel
theorem dX7_setWay_47 : decode cX7_setWay 47 = .ok (.imul, 1) := by decide +kernel
theorem dX7_setWay_48 : decode cX7_setWay 48 = .ok (.iload_n 1, 1) := by decide +kernel
theorem dX7_setWay_49 : decode cX7_setWay 49 = .ok (.iadd, 1) := by decide +kernel
theorem dX7_setWay_50 : decode cX7_setWay 50 = .ok (.iload_n 3, 1) := by decide +kernel
theorem dX7_setWay_51 : decode cX7_setWay 51 = .ok (.iastore, 1) := by decide +kernel
theorem dX7_setWay_52 : decode cX7_setWay 52 = .ok (.iload 4, 2) := by decide +kernel
theorem dX7_setWay_54 : decode cX7_setWay 54 = .ok (.ireturn, 1) := by decide +kernel
theorem dX7_roundOf_0 : decode cX7_roundOf 0 = .ok (.aload_n 0, 1) := by decide +kernel
theorem dX7_roundOf_1 : decode cX7_roundOf 1 = .ok (.iload_n 1, 1) := by decide +kernel
theorem dX7_roundOf_2 : decode cX7_roundOf 2 = .ok (.invokevirtual 50, 3) := by decide +kernel
theorem dX7_roundOf_5 : decode cX7_roundOf 5 = .ok (.ifCond .eq 12, 3) := by decide +kernel
theorem dX7_roundOf_8 : decode cX7_roundOf 8 = .ok (.aload_n 0, 1) := by decide +kernel
theorem dX7_roundOf_9 : decode cX7_roundOf 9 = .ok (.getfield 9, 3) := by decide +kernel
theorem dX7_roundOf_12 : decode cX7_roundOf 12 = .ok (.iload_n 1, 1) := by decide +kernel
theorem dX7_roundOf_13 : decode cX7_roundOf 13 = .ok (.iaload, 1) := by decide +kernel
theorem dX7_roundOf_14 : decode cX7_roundOf 14 = .ok (.goto 4, 3) := by decide +kernel
theorem dX7_roundOf_17 : decode cX7_roundOf 17 = .ok (.iconst 0, 1) := by decide +kernel
theorem dX7_roundOf_18 : decode cX7_roundOf 18 = .ok (.ireturn, 1) := by decide +kernel
theorem dX7_told_0 : decode cX7_told 0 = .ok (.aload_n 0, 1) := by decide +kernel
theorem dX7_told_1 : decode cX7_told 1 = .ok (.iload_n 1, 1) := by decide +kernel
theorem dX7_told_2 : decode cX7_told 2 = .ok (.invokevirtual 50, 3) := by decide +kernel
theorem dX7_told_5 : decode cX7_told 5 = .ok (.ifCond .ne 5, 3) := by decide +kernel
theorem dX7_told_8 : decode cX7_told 8 = .ok (.iconst 0, 1) := by decide +kernel
theorem dX7_told_9 : decode cX7_told 9 = .ok (.ireturn, 1) := by decide +kernel
theorem dX7_told_10 : decode cX7_told 10 = .ok (.iload_n 2, 1) := by decide +kernel
theorem dX7_told_11 : decode cX7_told 11 = .ok (.ifCond .ne 12, 3) := by decide +kernel
theorem dX7_told_14 : decode cX7_told 14 = .ok (.aload_n 0, 1) := by decide +kernel
theorem dX7_told_15 : decode cX7_told 15 = .ok (.getfield 15, 3) := by decide +kernel
theorem dX7_told_18 : decode cX7_told 18 = .ok (.iload_n 1, 1) := by decide +kernel
theorem dX7_told_19 : decode cX7_told 19 = .ok (.iaload, 1) := by decide +kernel
theorem dX7_told_20 : decode cX7_told 20 = .ok (.goto 9, 3) := by decide +kernel
theorem dX7_told_23 : decode cX7_told 23 = .ok (.aload_n 0, 1) := by decide +kernel
theorem dX7_told_24 : decode cX7_told 24 = .ok (.getfield 18, 3) := by decide +kernel
theorem dX7_told_27 : decode cX7_told 27 = .ok (.iload_n 1, 1) := by decide +kernel
theorem dX7_told_28 : decode cX7_told 28 = .ok (.iaload, 1) := by decide +kernel
theorem dX7_told_29 : decode cX7_told 29 = .ok (.ireturn, 1) := by decide +kernel
theorem dX7_tell_0 : decode cX7_tell 0 = .ok (.aload_n 0, 1) := by decide +kernel
theorem dX7_tell_1 : decode cX7_tell 1 = .ok (.iload_n 1, 1) := by decide +kernel
theorem dX7_tell_2 : decode cX7_tell 2 = .ok (.invokevirtual 50, 3) := by decide +kernel
theorem dX7_tell_5 : decode cX7_tell 5 = .ok (.ifCond .eq 25, 3) := by decide +kernel
theorem dX7_tell_8 : decode cX7_tell 8 = .ok (.iload_n 2, 1) := by decide +kernel
theorem dX7_tell_9 : decode cX7_tell 9 = .ok (.ifCond .ne 10, 3) := by decide +kernel
theorem dX7_tell_12 : decode cX7_tell 12 = .ok (.aload_n 0, 1) := by decide +kernel
theorem dX7_tell_13 : decode cX7_tell 13 = .ok (.getfield 15, 3) := by decide +kernel
theorem dX7_tell_16 : decode cX7_tell 16 = .ok (.goto 7, 3) := by decide +kernel
theorem dX7_tell_19 : decode cX7_tell 19 = .ok (.aload_n 0, 1) := by decide +kernel
theorem dX7_tell_20 : decode cX7_tell 20 = .ok (.getfield 18, 3) := by decide +kernel
theorem dX7_tell_23 : decode cX7_tell 23 = .ok (.astore 4, 2) := by decide +kernel
theorem dX7_tell_25 : decode cX7_tell 25 = .ok (.aload 4, 2) := by decide +kernel
theorem dX7_tell_27 : decode cX7_tell 27 = .ok (.iload_n 1, 1) := by decide +kernel
theorem dX7_tell_28 : decode cX7_tell 28 = .ok (.iload_n 3, 1) := by decide +kernel
theorem dX7_tell_29 : decode cX7_tell 29 = .ok (.iastore, 1) := by decide +kernel
theorem dX7_tell_30 : decode cX7_tell 30 = .ok (.return_, 1) := by decide +kernel
theorem dX7_setLaw_0 : decode cX7_setLaw 0 = .ok (.aload_n 0, 1) := by decide +kernel
theorem dX7_setLaw_1 : decode cX7_setLaw 1 = .ok (.iload_n 1, 1) := by decide +kernel
theorem dX7_setLaw_2 : decode cX7_setLaw 2 = .ok (.invokevirtual 50, 3) := by decide +kernel
theorem dX7_setLaw_5 : decode cX7_setLaw 5 = .ok (.ifCond .eq 19, 3) := by decide +kernel
theorem dX7_setLaw_8 : decode cX7_setLaw 8 = .ok (.aload_n 0, 1) := by decide +kernel
theorem dX7_setLaw_9 : decode cX7_setLaw 9 = .ok (.getfield 23, 3) := by decide +kernel
theorem dX7_setLaw_12 : decode cX7_setLaw 12 = .ok (.iload_n 1, 1) := by decide +kernel
theorem dX7_setLaw_13 : decode cX7_setLaw 13 = .ok (.aload_n 2, 1) := by decide +kernel
theorem dX7_setLaw_14 : decode cX7_setLaw 14 = .ok (.aload_n 0, 1) := by decide +kernel
theorem dX7_setLaw_15 : decode cX7_setLaw 15 = .ok (.getfield 23, 3) := by decide +kernel
theorem dX7_setLaw_18 : decode cX7_setLaw 18 = .ok (.iload_n 1, 1) := by decide +kernel
theorem dX7_setLaw_19 : decode cX7_setLaw 19 = .ok (.aaload, 1) := by decide +kernel
theorem dX7_setLaw_20 : decode cX7_setLaw 20 = .ok (.invokevirtual 53, 3) := by decide +kernel
theorem dX7_setLaw_23 : decode cX7_setLaw 23 = .ok (.aastore, 1) := by decide +kernel
theorem dX7_setLaw_24 : decode cX7_setLaw 24 = .ok (.return_, 1) := by decide +kernel
theorem dX7_lawOf_0 : decode cX7_lawOf 0 = .ok (.aload_n 0, 1) := by decide +kernel
theorem dX7_lawOf_1 : decode cX7_lawOf 1 = .ok (.iload_n 1, 1) := by decide +kernel
theorem dX7_lawOf_2 : decode cX7_lawOf 2 = .ok (.invokevirtual 50, 3) := by decide +kernel
theorem dX7_lawOf_5 : decode cX7_lawOf 5 = .ok (.ifCond .eq 12, 3) := by decide +kernel
theorem dX7_lawOf_8 : decode cX7_lawOf 8 = .ok (.aload_n 0, 1) := by decide +kernel
theorem dX7_lawOf_9 : decode cX7_lawOf 9 = .ok (.getfield 23, 3) := by decide +kernel
theorem dX7_lawOf_12 : decode cX7_lawOf 12 = .ok (.iload_n 1, 1) := by decide +kernel
theorem dX7_lawOf_13 : decode cX7_lawOf 13 = .ok (.aaload, 1) := by decide +kernel
theorem dX7_lawOf_14 : decode cX7_lawOf 14 = .ok (.goto 4, 3) := by decide +kernel
theorem dX7_lawOf_17 : decode cX7_lawOf 17 = .ok (.aconst_null, 1) := by decide +kernel
theorem dX7_lawOf_18 : decode cX7_lawOf 18 = .ok (.areturn, 1) := by decide +kernel
theorem dX7_upIn_0 : decode cX7_upIn 0 = .ok (.aload_n 0, 1) := by decide +kernel
theorem dX7_upIn_1 : decode cX7_upIn 1 = .ok (.iload_n 1, 1) := by decide +kernel
theorem dX7_upIn_2 : decode cX7_upIn 2 = .ok (.invokevirtual 46, 3) := by decide +kernel
theorem dX7_upIn_5 : decode cX7_upIn 5 = .ok (.ifCond .ne 5, 3) := by decide +kernel
theorem dX7_upIn_8 : decode cX7_upIn 8 = .ok (.iconst 0, 1) := by decide +kernel
theorem dX7_upIn_9 : decode cX7_upIn 9 = .ok (.ireturn, 1) := by decide +kernel
theorem dX7_upIn_10 : decode cX7_upIn 10 = .ok (.iconst 0, 1) := by decide +kernel
theorem dX7_upIn_11 : decode cX7_upIn 11 = .ok (.istore_n 3, 1) := by decide +kernel
theorem dX7_upIn_12 : decode cX7_upIn 12 = .ok (.iconst 0, 1) := by decide +kernel
theorem dX7_upIn_13 : decode cX7_upIn 13 = .ok (.istore 4, 2) := by decide +kernel
theorem dX7_upIn_15 : decode cX7_upIn 15 = .ok (.iload 4, 2) := by decide +kernel
theorem dX7_upIn_17 : decode cX7_upIn 17 = .ok (.aload_n 0, 1) := by decide +kernel
theorem dX7_upIn_18 : decode cX7_upIn 18 = .ok (.getfield 39, 3) := by decide +kernel
theorem dX7_upIn_21 : decode cX7_upIn 21 = .ok (.if_icmp .ge 92, 3) := by decide +kernel
theorem dX7_upIn_24 : decode cX7_upIn 24 = .ok (.iload 4, 2) := by decide +kernel
theorem dX7_upIn_26 : decode cX7_upIn 26 = .ok (.iconst 3, 1) := by decide +kernel
theorem dX7_upIn_27 : decode cX7_upIn 27 = .ok (.if_icmp .ge 86, 3) := by decide +kernel
theorem dX7_upIn_30 : decode cX7_upIn 30 = .ok (.iload_n 1, 1) := by decide +kernel
theorem dX7_upIn_31 : decode cX7_upIn 31 = .ok (.iconst 3, 1) := by decide +kernel
theorem dX7_upIn_32 : decode cX7_upIn 32 = .ok (.imul, 1) := by decide +kernel
theorem dX7_upIn_33 : decode cX7_upIn 33 = .ok (.iload 4, 2) := by decide +kernel
theorem dX7_upIn_35 : decode cX7_upIn 35 = .ok (.iadd, 1) := by decide +kernel
theorem dX7_upIn_36 : decode cX7_upIn 36 = .ok (.istore 5, 2) := by decide +kernel
theorem dX7_upIn_38 : decode cX7_upIn 38 = .ok (.aload_n 0, 1) := by decide +kernel
theorem dX7_upIn_39 : decode cX7_upIn 39 = .ok (.getfield 9, 3) := by decide +kernel
theorem dX7_upIn_42 : decode cX7_upIn 42 = .ok (.iload 4, 2) := by decide +kernel
theorem dX7_upIn_44 : decode cX7_upIn 44 = .ok (.iaload, 1) := by decide +kernel
theorem dX7_upIn_45 : decode cX7_upIn 45 = .ok (.istore 6, 2) := by decide +kernel
theorem dX7_upIn_47 : decode cX7_upIn 47 = .ok (.iload 6, 2) := by decide +kernel
theorem dX7_upIn_49 : decode cX7_upIn 49 = .ok (.ifCond .le 28, 3) := by decide +kernel
theorem dX7_upIn_52 : decode cX7_upIn 52 = .ok (.iload_n 2, 1) := by decide +kernel
theorem dX7_upIn_53 : decode cX7_upIn 53 = .ok (.aload_n 0, 1) := by decide +kernel
theorem dX7_upIn_54 : decode cX7_upIn 54 = .ok (.getfield 18, 3) := by decide +kernel
theorem dX7_upIn_57 : decode cX7_upIn 57 = .ok (.iload 4, 2) := by decide +kernel
theorem dX7_upIn_59 : decode cX7_upIn 59 = .ok (.iaload, 1) := by decide +kernel
theorem dX7_upIn_60 : decode cX7_upIn 60 = .ok (.isub, 1) := by decide +kernel
theorem dX7_upIn_61 : decode cX7_upIn 61 = .ok (.aload_n 0, 1) := by decide +kernel
theorem dX7_upIn_62 : decode cX7_upIn 62 = .ok (.getfield 27, 3) := by decide +kernel
theorem dX7_upIn_65 : decode cX7_upIn 65 = .ok (.iload 5, 2) := by decide +kernel
theorem dX7_upIn_67 : decode cX7_upIn 67 = .ok (.iaload, 1) := by decide +kernel
theorem dX7_upIn_68 : decode cX7_upIn 68 = .ok (.isub, 1) := by decide +kernel
theorem dX7_upIn_69 : decode cX7_upIn 69 = .ok (.iload 6, 2) := by decide +kernel
theorem dX7_upIn_71 : decode cX7_upIn 71 = .ok (.invokestatic 59, 3) := by decide +kernel
theorem dX7_upIn_74 : decode cX7_upIn 74 = .ok (.goto 4, 3) := by decide +kernel
theorem dX7_upIn_77 : decode cX7_upIn 77 = .ok (.iconst 0, 1) := by decide +kernel
theorem dX7_upIn_78 : decode cX7_upIn 78 = .ok (.istore 7, 2) := by decide +kernel
theorem dX7_upIn_80 : decode cX7_upIn 80 = .ok (.iload 7, 2) := by decide +kernel
theorem dX7_upIn_82 : decode cX7_upIn 82 = .ok (.aload_n 0, 1) := by decide +kernel
theorem dX7_upIn_83 : decode cX7_upIn 83 = .ok (.getfield 15, 3) := by decide +kernel
theorem dX7_upIn_86 : decode cX7_upIn 86 = .ok (.iload 4, 2) := by decide +kernel
theorem dX7_upIn_88 : decode cX7_upIn 88 = .ok (.iaload, 1) := by decide +kernel
theorem dX7_upIn_89 : decode cX7_upIn 89 = .ok (.aload_n 0, 1) := by decide +kernel
theorem dX7_upIn_90 : decode cX7_upIn 90 = .ok (.getfield 30, 3) := by decide +kernel
theorem dX7_upIn_93 : decode cX7_upIn 93 = .ok (.iload 5, 2) := by decide +kernel
theorem dX7_upIn_95 : decode cX7_upIn 95 = .ok (.iaload, 1) := by decide +kernel
theorem dX7_upIn_96 : decode cX7_upIn 96 = .ok (.isub, 1) := by decide +kernel
theorem dX7_upIn_97 : decode cX7_upIn 97 = .ok (.if_icmp .ge 10, 3) := by decide +kernel
theorem dX7_upIn_100 : decode cX7_upIn 100 = .ok (.iload_n 3, 1) := by decide +kernel
theorem dX7_upIn_101 : decode cX7_upIn 101 = .ok (.iconst 1, 1) := by decide +kernel
theorem dX7_upIn_102 : decode cX7_upIn 102 = .ok (.iload 4, 2) := by decide +kernel
theorem dX7_upIn_104 : decode cX7_upIn 104 = .ok (.ishl, 1) := by decide +kernel
theorem dX7_upIn_105 : decode cX7_upIn 105 = .ok (.ior, 1) := by decide +kernel
theorem dX7_upIn_106 : decode cX7_upIn 106 = .ok (.istore_n 3, 1) := by decide +kernel
theorem dX7_upIn_107 : decode cX7_upIn 107 = .ok (.iinc 4 1, 3) := by decide +kernel
theorem dX7_upIn_110 : decode cX7_upIn 110 = .ok (.goto (-95), 3) := by decide +kernel
theorem dX7_upIn_113 : decode cX7_upIn 113 = .ok (.iload_n 3, 1) := by decide +kernel
theorem dX7_upIn_114 : decode cX7_upIn 114 = .ok (.ireturn, 1) := by decide +kernel
theorem dX7_hoursWith_0 : decode cX7_hoursWith 0 = .ok (.iconst 0, 1) := by decide +kernel
theorem dX7_hoursWith_1 : decode cX7_hoursWith 1 = .ok (.istore 5, 2) := by decide +kernel
theorem dX7_hoursWith_3 : decode cX7_hoursWith 3 = .ok (.iconst 0, 1) := by decide +kernel
theorem dX7_hoursWith_4 : decode cX7_hoursWith 4 = .ok (.istore 6, 2) := by decide +kernel
theorem dX7_hoursWith_6 : decode cX7_hoursWith 6 = .ok (.iload 6, 2) := by decide +kernel
theorem dX7_hoursWith_8 : decode cX7_hoursWith 8 = .ok (.iload_n 3, 1) := by decide +kernel
theorem dX7_hoursWith_9 : decode cX7_hoursWith 9 = .ok (.if_icmp .ge 26, 3) := by decide +kernel
theorem dX7_hoursWith_12 : decode cX7_hoursWith 12 = .ok (.aload_n 0, 1) := by decide +kernel
theorem dX7_hoursWith_13 : decode cX7_hoursWith 13 = .ok (.iload_n 1, 1) := by decide +kernel
theorem dX7_hoursWith_14 : decode cX7_hoursWith 14 = .ok (.iload_n 2, 1) := by decide +kernel
theorem dX7_hoursWith_15 : decode cX7_hoursWith 15 = .ok (.iload 6, 2) := by decide +kernel
theorem dX7_hoursWith_17 : decode cX7_hoursWith 17 = .ok (.iadd, 1) := by decide +kernel
theorem dX7_hoursWith_18 : decode cX7_hoursWith 18 = .ok (.invokevirtual 65, 3) := by decide +kernel
theorem dX7_hoursWith_21 : decode cX7_hoursWith 21 = .ok (.iload 4, 2) := by decide +kernel
theorem dX7_hoursWith_23 : decode cX7_hoursWith 23 = .ok (.if_icmp .ne 6, 3) := by decide +kernel
theorem dX7_hoursWith_26 : decode cX7_hoursWith 26 = .ok (.iinc 5 1, 3) := by decide +kernel
theorem dX7_hoursWith_29 : decode cX7_hoursWith 29 = .ok (.iinc 6 1, 3) := by decide +kernel
theorem dX7_hoursWith_32 : decode cX7_hoursWith 32 = .ok (.goto (-26), 3) := by decide +kernel
theorem dX7_hoursWith_35 : decode cX7_hoursWith 35 = .ok (.iload 5, 2) := by decide +kernel
theorem dX7_hoursWith_37 : decode cX7_hoursWith 37 = .ok (.ireturn, 1) := by decide +kernel
theorem dX7_roundOfAll_0 : decode cX7_roundOfAll 0 = .ok (.iconst 1, 1) := by decide +kernel
theorem dX7_roundOfAll_1 : decode cX7_roundOfAll 1 = .ok (.istore_n 1, 1) := by decide +kernel
theorem dX7_roundOfAll_2 : decode cX7_roundOfAll 2 = .ok (.iconst 0, 1) := by decide +kernel
theorem dX7_roundOfAll_3 : decode cX7_roundOfAll 3 = .ok (.istore_n 2, 1) := by decide +kernel
theorem dX7_roundOfAll_4 : decode cX7_roundOfAll 4 = .ok (.iload_n 2, 1) := by decide +kernel
theorem dX7_roundOfAll_5 : decode cX7_roundOfAll 5 = .ok (.aload_n 0, 1) := by decide +kernel
theorem dX7_roundOfAll_6 : decode cX7_roundOfAll 6 = .ok (.getfield 39, 3) := by decide +kernel
theorem dX7_roundOfAll_9 : decode cX7_roundOfAll 9 = .ok (.if_icmp .ge 44, 3) := by decide +kernel
theorem dX7_roundOfAll_12 : decode cX7_roundOfAll 12 = .ok (.iload_n 2, 1) := by decide +kernel
theorem dX7_roundOfAll_13 : decode cX7_roundOfAll 13 = .ok (.iconst 3, 1) := by decide +kernel
theorem dX7_roundOfAll_14 : decode cX7_roundOfAll 14 = .ok (.if_icmp .ge 39, 3) := by decide +kernel
theorem dX7_roundOfAll_17 : decode cX7_roundOfAll 17 = .ok (.aload_n 0, 1) := by decide +kernel
theorem dX7_roundOfAll_18 : decode cX7_roundOfAll 18 = .ok (.iload_n 2, 1) := by decide +kernel
theorem dX7_roundOfAll_19 : decode cX7_roundOfAll 19 = .ok (.invokevirtual 68, 3) := by decide +kernel
theorem dX7_roundOfAll_22 : decode cX7_roundOfAll 22 = .ok (.istore_n 3, 1) := by decide +kernel
theorem dX7_roundOfAll_23 : decode cX7_roundOfAll 23 = .ok (.aload_n 0, 1) := by decide +kernel
theorem dX7_roundOfAll_24 : decode cX7_roundOfAll 24 = .ok (.iload_n 1, 1) := by decide +kernel
theorem dX7_roundOfAll_25 : decode cX7_roundOfAll 25 = .ok (.iload_n 3, 1) := by decide +kernel
theorem dX7_roundOfAll_26 : decode cX7_roundOfAll 26 = .ok (.invokevirtual 72, 3) := by decide +kernel
theorem dX7_roundOfAll_29 : decode cX7_roundOfAll 29 = .ok (.istore 4, 2) := by decide +kernel
theorem dX7_roundOfAll_31 : decode cX7_roundOfAll 31 = .ok (.iload 4, 2) := by decide +kernel
theorem dX7_roundOfAll_33 : decode cX7_roundOfAll 33 = .ok (.ifCond .le 12, 3) := by decide +kernel
theorem dX7_roundOfAll_36 : decode cX7_roundOfAll 36 = .ok (.iload_n 1, 1) := by decide +kernel
theorem dX7_roundOfAll_37 : decode cX7_roundOfAll 37 = .ok (.iload 4, 2) := by decide +kernel
theorem dX7_roundOfAll_39 : decode cX7_roundOfAll 39 = .ok (.idiv, 1) := by decide +kernel
theorem dX7_roundOfAll_40 : decode cX7_roundOfAll 40 = .ok (.iload_n 3, 1) := by decide +kernel
theorem dX7_roundOfAll_41 : decode cX7_roundOfAll 41 = .ok (.imul, 1) := by decide +kernel
theorem dX7_roundOfAll_42 : decode cX7_roundOfAll 42 = .ok (.goto 4, 3) := by decide +kernel
theorem dX7_roundOfAll_45 : decode cX7_roundOfAll 45 = .ok (.iload_n 1, 1) := by decide +kernel
theorem dX7_roundOfAll_46 : decode cX7_roundOfAll 46 = .ok (.istore_n 1, 1) := by decide +kernel
theorem dX7_roundOfAll_47 : decode cX7_roundOfAll 47 = .ok (.iinc 2 1, 3) := by decide +kernel
theorem dX7_roundOfAll_50 : decode cX7_roundOfAll 50 = .ok (.goto (-46), 3) := by decide +kernel
theorem dX7_roundOfAll_53 : decode cX7_roundOfAll 53 = .ok (.iload_n 1, 1) := by decide +kernel
theorem dX7_roundOfAll_54 : decode cX7_roundOfAll 54 = .ok (.ireturn, 1) := by decide +kernel
theorem dX7_greatestShared_0 : decode cX7_greatestShared 0 = .ok (.iconst 0, 1) := by decide +kernel
theorem dX7_greatestShared_1 : decode cX7_greatestShared 1 = .ok (.istore_n 3, 1) := by decide +kernel
theorem dX7_greatestShared_2 : decode cX7_greatestShared 2 = .ok (.iload_n 3, 1) := by decide +kernel
theorem dX7_greatestShared_3 : decode cX7_greatestShared 3 = .ok (.bipush 100, 2) := by decide +kernel
theorem dX7_greatestShared_5 : decode cX7_greatestShared 5 = .ok (.if_icmp .ge 23, 3) := by decide +kernel
theorem dX7_greatestShared_8 : decode cX7_greatestShared 8 = .ok (.iload_n 2, 1) := by decide +kernel
theorem dX7_greatestShared_9 : decode cX7_greatestShared 9 = .ok (.ifCond .le 19, 3) := by decide +kernel
theorem dX7_greatestShared_12 : decode cX7_greatestShared 12 = .ok (.iload_n 1, 1) := by decide +kernel
theorem dX7_greatestShared_13 : decode cX7_greatestShared 13 = .ok (.iload_n 2, 1) := by decide +kernel
theorem dX7_greatestShared_14 : decode cX7_greatestShared 14 = .ok (.irem, 1) := by decide +kernel
theorem dX7_greatestShared_15 : decode cX7_greatestShared 15 = .ok (.istore 4, 2) := by decide +kernel
theorem dX7_greatestShared_17 : decode cX7_greatestShared 17 = .ok (.iload_n 2, 1) := by decide +kernel
theorem dX7_greatestShared_18 : decode cX7_greatestShared 18 = .ok (.istore_n 1, 1) := by decide +kernel
theorem dX7_greatestShared_19 : decode cX7_greatestShared 19 = .ok (.iload 4, 2) := by decide +kernel
theorem dX7_greatestShared_21 : decode cX7_greatestShared 21 = .ok (.istore_n 2, 1) := by decide +kernel
theorem dX7_greatestShared_22 : decode cX7_greatestShared 22 = .ok (.iinc 3 1, 3) := by decide +kernel
theorem dX7_greatestShared_25 : decode cX7_greatestShared 25 = .ok (.goto (-23), 3) := by decide +kernel
theorem dX7_greatestShared_28 : decode cX7_greatestShared 28 = .ok (.iload_n 1, 1) := by decide +kernel
theorem dX7_greatestShared_29 : decode cX7_greatestShared 29 = .ok (.ireturn, 1) := by decide +kernel
theorem dX7_measureRoads_0 : decode cX7_measureRoads 0 = .ok (.iconst 0, 1) := by decide +kernel
theorem dX7_measureRoads_1 : decode cX7_measureRoads 1 = .ok (.istore_n 2, 1) := by decide +kernel
theorem dX7_measureRoads_2 : decode cX7_measureRoads 2 = .ok (.iload_n 2, 1) := by decide +kernel
theorem dX7_measureRoads_3 : decode cX7_measureRoads 3 = .ok (.iconst 5, 1) := by decide +kernel
theorem dX7_measureRoads_4 : decode cX7_measureRoads 4 = .ok (.if_icmp .ge 26, 3) := by decide +kernel
theorem dX7_measureRoads_7 : decode cX7_measureRoads 7 = .ok (.aload_n 0, 1) := by decide +kernel
theorem dX7_measureRoads_8 : decode cX7_measureRoads 8 = .ok (.getfield 36, 3) := by decide +kernel
theorem dX7_measureRoads_11 : decode cX7_measureRoads 11 = .ok (.iload_n 2, 1) := by decide +kernel
theorem dX7_measureRoads_12 : decode cX7_measureRoads 12 = .ok (.iload_n 2, 1) := by decide +kernel
theorem dX7_measureRoads_13 : decode cX7_measureRoads 13 = .ok (.iload_n 1, 1) := by decide +kernel
theorem dX7_measureRoads_14 : decode cX7_measureRoads 14 = .ok (.if_icmp .ne 7, 3) := by decide +kernel
theorem dX7_measureRoads_17 : decode cX7_measureRoads 17 = .ok (.iconst 0, 1) := by decide +kernel
theorem dX7_measureRoads_18 : decode cX7_measureRoads 18 = .ok (.goto 5, 3) := by decide +kernel
theorem dX7_measureRoads_21 : decode cX7_measureRoads 21 = .ok (.ldc 75, 2) := by decide +kernel
theorem dX7_measureRoads_23 : decode cX7_measureRoads 23 = .ok (.iastore, 1) := by decide +kernel
theorem dX7_measureRoads_24 : decode cX7_measureRoads 24 = .ok (.iinc 2 1, 3) := by decide +kernel
theorem dX7_measureRoads_27 : decode cX7_measureRoads 27 = .ok (.goto (-25), 3) := by decide +kernel
theorem dX7_measureRoads_30 : decode cX7_measureRoads 30 = .ok (.iconst 1, 1) := by decide +kernel
theorem dX7_measureRoads_31 : decode cX7_measureRoads 31 = .ok (.istore_n 2, 1) := by decide +kernel
theorem dX7_measureRoads_32 : decode cX7_measureRoads 32 = .ok (.iload_n 2, 1) := by decide +kernel
theorem dX7_measureRoads_33 : decode cX7_measureRoads 33 = .ok (.iconst 5, 1) := by decide +kernel
theorem dX7_measureRoads_34 : decode cX7_measureRoads 34 = .ok (.if_icmp .ge 72, 3) := by decide +kernel
theorem dX7_measureRoads_37 : decode cX7_measureRoads 37 = .ok (.iconst 0, 1) := by decide +kernel
theorem dX7_measureRoads_38 : decode cX7_measureRoads 38 = .ok (.istore_n 3, 1) := by decide +kernel
theorem dX7_measureRoads_39 : decode cX7_measureRoads 39 = .ok (.iload_n 3, 1) := by decide +kernel
theorem dX7_measureRoads_40 : decode cX7_measureRoads 40 = .ok (.bipush 25, 2) := by decide +kernel
theorem dX7_measureRoads_42 : decode cX7_measureRoads 42 = .ok (.if_icmp .ge 58, 3) := by decide +kernel
theorem dX7_measureRoads_45 : decode cX7_measureRoads 45 = .ok (.aload_n 0, 1) := by decide +kernel
theorem dX7_measureRoads_46 : decode cX7_measureRoads 46 = .ok (.getfield 36, 3) := by decide +kernel
theorem dX7_measureRoads_49 : decode cX7_measureRoads 49 = .ok (.iload_n 3, 1) := by decide +kernel
theorem dX7_measureRoads_50 : decode cX7_measureRoads 50 = .ok (.iconst 5, 1) := by decide +kernel
theorem dX7_measureRoads_51 : decode cX7_measureRoads 51 = .ok (.idiv, 1) := by decide +kernel
theorem dX7_measureRoads_52 : decode cX7_measureRoads 52 = .ok (.iaload, 1) := by decide +kernel
theorem dX7_measureRoads_53 : decode cX7_measureRoads 53 = .ok (.aload_n 0, 1) := by decide +kernel
theorem dX7_measureRoads_54 : decode cX7_measureRoads 54 = .ok (.getfield 33, 3) := by decide +kernel
theorem dX7_measureRoads_57 : decode cX7_measureRoads 57 = .ok (.iload_n 3, 1) := by decide +kernel
theorem dX7_measureRoads_58 : decode cX7_measureRoads 58 = .ok (.iaload, 1) := by decide +kernel
theorem dX7_measureRoads_59 : decode cX7_measureRoads 59 = .ok (.iadd, 1) := by decide +kernel
theorem dX7_measureRoads_60 : decode cX7_measureRoads 60 = .ok (.istore 4, 2) := by decide +kernel
theorem dX7_measureRoads_62 : decode cX7_measureRoads 62 = .ok (.aload_n 0, 1) := by decide +kernel
theorem dX7_measureRoads_63 : decode cX7_measureRoads 63 = .ok (.getfield 33, 3) := by decide +kernel
theorem dX7_measureRoads_66 : decode cX7_measureRoads 66 = .ok (.iload_n 3, 1) := by decide +kernel
theorem dX7_measureRoads_67 : decode cX7_measureRoads 67 = .ok (.iaload, 1) := by decide +kernel
theorem dX7_measureRoads_68 : decode cX7_measureRoads 68 = .ok (.ifCond .le 26, 3) := by decide +kernel
theorem dX7_measureRoads_71 : decode cX7_measureRoads 71 = .ok (.iload 4, 2) := by decide +kernel
theorem dX7_measureRoads_73 : decode cX7_measureRoads 73 = .ok (.aload_n 0, 1) := by decide +kernel
theorem dX7_measureRoads_74 : decode cX7_measureRoads 74 = .ok (.getfield 36, 3) := by decide +kernel
theorem dX7_measureRoads_77 : decode cX7_measureRoads 77 = .ok (.iload_n 3, 1) := by decide +kernel
theorem dX7_measureRoads_78 : decode cX7_measureRoads 78 = .ok (.iconst 5, 1) := by decide +kernel
theorem dX7_measureRoads_79 : decode cX7_measureRoads 79 = .ok (.irem, 1) := by decide +kernel
theorem dX7_measureRoads_80 : decode cX7_measureRoads 80 = .ok (.iaload, 1) := by decide +kernel
theorem dX7_measureRoads_81 : decode cX7_measureRoads 81 = .ok (.if_icmp .ge 13, 3) := by decide +kernel
theorem dX7_measureRoads_84 : decode cX7_measureRoads 84 = .ok (.aload_n 0, 1) := by decide +kernel
theorem dX7_measureRoads_85 : decode cX7_measureRoads 85 = .ok (.getfield 36, 3) := by decide +kernel
theorem dX7_measureRoads_88 : decode cX7_measureRoads 88 = .ok (.iload_n 3, 1) := by decide +kernel
theorem dX7_measureRoads_89 : decode cX7_measureRoads 89 = .ok (.iconst 5, 1) := by decide +kernel
theorem dX7_measureRoads_90 : decode cX7_measureRoads 90 = .ok (.irem, 1) := by decide +kernel
theorem dX7_measureRoads_91 : decode cX7_measureRoads 91 = .ok (.iload 4, 2) := by decide +kernel
theorem dX7_measureRoads_93 : decode cX7_measureRoads 93 = .ok (.iastore, 1) := by decide +kernel
theorem dX7_measureRoads_94 : decode cX7_measureRoads 94 = .ok (.iinc 3 1, 3) := by decide +kernel
theorem dX7_measureRoads_97 : decode cX7_measureRoads 97 = .ok (.goto (-58), 3) := by decide +kernel
theorem dX7_measureRoads_100 : decode cX7_measureRoads 100 = .ok (.iinc 2 1, 3) := by decide +kernel
theorem dX7_measureRoads_103 : decode cX7_measureRoads 103 = .ok (.goto (-71), 3) := by decide +kernel
theorem dX7_measureRoads_106 : decode cX7_measureRoads 106 = .ok (.return_, 1) := by decide +kernel
theorem dX7_roadTo_0 : decode cX7_roadTo 0 = .ok (.aload_n 0, 1) := by decide +kernel
theorem dX7_roadTo_1 : decode cX7_roadTo 1 = .ok (.iload_n 1, 1) := by decide +kernel
theorem dX7_roadTo_2 : decode cX7_roadTo 2 = .ok (.invokevirtual 46, 3) := by decide +kernel
theorem dX7_roadTo_5 : decode cX7_roadTo 5 = .ok (.ifCond .eq 23, 3) := by decide +kernel
theorem dX7_roadTo_8 : decode cX7_roadTo 8 = .ok (.aload_n 0, 1) := by decide +kernel
theorem dX7_roadTo_9 : decode cX7_roadTo 9 = .ok (.getfield 36, 3) := by decide +kernel
theorem dX7_roadTo_12 : decode cX7_roadTo 12 = .ok (.iload_n 1, 1) := by decide +kernel
theorem dX7_roadTo_13 : decode cX7_roadTo 13 = .ok (.iaload, 1) := by decide +kernel
theorem dX7_roadTo_14 : decode cX7_roadTo 14 = .ok (.ldc 75, 2) := by decide +kernel
theorem dX7_roadTo_16 : decode cX7_roadTo 16 = .ok (.if_icmp .ge 12, 3) := by decide +kernel
theorem dX7_roadTo_19 : decode cX7_roadTo 19 = .ok (.aload_n 0, 1) := by decide +kernel
theorem dX7_roadTo_20 : decode cX7_roadTo 20 = .ok (.getfield 36, 3) := by decide +kernel
theorem dX7_roadTo_23 : decode cX7_roadTo 23 = .ok (.iload_n 1, 1) := by decide +kernel
theorem dX7_roadTo_24 : decode cX7_roadTo 24 = .ok (.iaload, 1) := by decide +kernel
theorem dX7_roadTo_25 : decode cX7_roadTo 25 = .ok (.goto 5, 3) := by decide +kernel
theorem dX7_roadTo_28 : decode cX7_roadTo 28 = .ok (.bipush (-2), 2) := by decide +kernel
theorem dX7_roadTo_30 : decode cX7_roadTo 30 = .ok (.ireturn, 1) := by decide +kernel
theorem dX8_init_0 : decode cX8_init 0 = .ok (.aload_n 0, 1) := by decide +kernel
theorem dX8_init_1 : decode cX8_init 1 = .ok (.invokespecial 3, 3) := by decide +kernel
theorem dX8_init_4 : decode cX8_init 4 = .ok (.aload_n 0, 1) := by decide +kernel
theorem dX8_init_5 : decode cX8_init 5 = .ok (.bipush 120, 2) := by decide +kernel
theorem dX8_init_7 : decode cX8_init 7 = .ok (.newarray .int, 2) := by decide +kernel
theorem dX8_init_9 : decode cX8_init 9 = .ok (.putfield 9, 3) := by decide +kernel
theorem dX8_init_12 : decode cX8_init 12 = .ok (.aload_n 0, 1) := by decide +kernel
theorem dX8_init_13 : decode cX8_init 13 = .ok (.bipush 120, 2) := by decide +kernel
theorem dX8_init_15 : decode cX8_init 15 = .ok (.newarray .int, 2) := by decide +kernel
theorem dX8_init_17 : decode cX8_init 17 = .ok (.putfield 15, 3) := by decide +kernel
theorem dX8_init_20 : decode cX8_init 20 = .ok (.aload_n 0, 1) := by decide +kernel
theorem dX8_init_21 : decode cX8_init 21 = .ok (.bipush 120, 2) := by decide +kernel
theorem dX8_init_23 : decode cX8_init 23 = .ok (.newarray .int, 2) := by decide +kernel
theorem dX8_init_25 : decode cX8_init 25 = .ok (.putfield 18, 3) := by decide +kernel
theorem dX8_init_28 : decode cX8_init 28 = .ok (.aload_n 0, 1) := by decide +kernel
theorem dX8_init_29 : decode cX8_init 29 = .ok (.bipush 120, 2) := by decide +kernel
theorem dX8_init_31 : decode cX8_init 31 = .ok (.newarray .int, 2) := by decide +kernel
theorem dX8_init_33 : decode cX8_init 33 = .ok (.putfield 21, 3) := by decide +kernel
theorem dX8_init_36 : decode cX8_init 36 = .ok (.aload_n 0, 1) := by decide +kernel
theorem dX8_init_37 : decode cX8_init 37 = .ok (.bipush 120, 2) := by decide +kernel
theorem dX8_init_39 : decode cX8_init 39 = .ok (.newarray .int, 2) := by decide +kernel
theorem dX8_init_41 : decode cX8_init 41 = .ok (.putfield 24, 3) := by decide +kernel
theorem dX8_init_44 : decode cX8_init 44 = .ok (.aload_n 0, 1) := by decide +kernel
theorem dX8_init_45 : decode cX8_init 45 = .ok (.iconst 0, 1) := by decide +kernel
theorem dX8_init_46 : decode cX8_init 46 = .ok (.putfield 27, 3) := by decide +kernel
theorem dX8_init_49 : decode cX8_init 49 = .ok (.aload_n 0, 1) := by decide +kernel
theorem dX8_init_50 : decode cX8_init 50 = .ok (.iconst 0, 1) := by decide +kernel
theorem dX8_init_51 : decode cX8_init 51 = .ok (.putfield 31, 3) := by decide +kernel
theorem dX8_init_54 : decode cX8_init 54 = .ok (.return_, 1) := by decide +kernel
theorem dX8_clear_0 : decode cX8_clear 0 = .ok (.aload_n 0, 1) := by decide +kernel
theorem dX8_clear_1 : decode cX8_clear 1 = .ok (.iconst 0, 1) := by decide +kernel
theorem dX8_clear_2 : decode cX8_clear 2 = .ok (.putfield 27, 3) := by decide +kernel
theorem dX8_clear_5 : decode cX8_clear 5 = .ok (.aload_n 0, 1) := by decide +kernel
theorem dX8_clear_6 : decode cX8_clear 6 = .ok (.iconst 0, 1) := by decide +kernel
theorem dX8_clear_7 : decode cX8_clear 7 = .ok (.putfield 31, 3) := by decide +kernel
theorem dX8_clear_10 : decode cX8_clear 10 = .ok (.return_, 1) := by decide +kernel
theorem dX8_addStep_0 : decode cX8_addStep 0 = .ok (.aload_n 0, 1) := by decide +kernel
theorem dX8_addStep_1 : decode cX8_addStep 1 = .ok (.getfield 27, 3) := by decide +kernel
theorem dX8_addStep_4 : decode cX8_addStep 4 = .ok (.bipush 120, 2) := by decide +kernel
theorem dX8_addStep_6 : decode cX8_addStep 6 = .ok (.if_icmp .lt 5, 3) := by decide +kernel
theorem dX8_addStep_9 : decode cX8_addStep 9 = .ok (.iconst (-1), 1) := by decide +kernel
theorem dX8_addStep_10 : decode cX8_addStep 10 = .ok (.ireturn, 1) := by decide +kernel
theorem dX8_addStep_11 : decode cX8_addStep 11 = .ok (.aload_n 0, 1) := by decide +kernel
theorem dX8_addStep_12 : decode cX8_addStep 12 = .ok (.getfield 9, 3) := by decide +kernel
theorem dX8_addStep_15 : decode cX8_addStep 15 = .ok (.aload_n 0, 1) := by decide +kernel
theorem dX8_addStep_16 : decode cX8_addStep 16 = .ok (.getfield 27, 3) := by decide +kernel
theorem dX8_addStep_19 : decode cX8_addStep 19 = .ok (.iload_n 1, 1) := by decide +kernel
theorem dX8_addStep_20 : decode cX8_addStep 20 = .ok (.iastore, 1) := by decide +kernel
theorem dX8_addStep_21 : decode cX8_addStep 21 = .ok (.aload_n 0, 1) := by decide +kernel
theorem dX8_addStep_22 : decode cX8_addStep 22 = .ok (.getfield 15, 3) := by decide +kernel
theorem dX8_addStep_25 : decode cX8_addStep 25 = .ok (.aload_n 0, 1) := by decide +kernel
theorem dX8_addStep_26 : decode cX8_addStep 26 = .ok (.getfield 27, 3) := by decide +kernel
theorem dX8_addStep_29 : decode cX8_addStep 29 = .ok (.iload_n 2, 1) := by decide +kernel
theorem dX8_addStep_30 : decode cX8_addStep 30 = .ok (.iastore, 1) := by decide +kernel
theorem dX8_addStep_31 : decode cX8_addStep 31 = .ok (.aload_n 0, 1) := by decide +kernel
theorem dX8_addStep_32 : decode cX8_addStep 32 = .ok (.getfield 18, 3) := by decide +kernel
theorem dX8_addStep_35 : decode cX8_addStep 35 = .ok (.aload_n 0, 1) := by decide +kernel
theorem dX8_addStep_36 : decode cX8_addStep 36 = .ok (.getfield 27, 3) := by decide +kernel
theorem dX8_addStep_39 : decode cX8_addStep 39 = .ok (.iload_n 3, 1) := by decide +kernel
theorem dX8_addStep_40 : decode cX8_addStep 40 = .ok (.iastore, 1) := by decide +kernel
theorem dX8_addStep_41 : decode cX8_addStep 41 = .ok (.aload_n 0, 1) := by decide +kernel
theorem dX8_addStep_42 : decode cX8_addStep 42 = .ok (.dup, 1) := by decide +kernel
theorem dX8_addStep_43 : decode cX8_addStep 43 = .ok (.getfield 27, 3) := by decide +kernel
theorem dX8_addStep_46 : decode cX8_addStep 46 = .ok (.dup_x1, 1) := by decide +kernel
theorem dX8_addStep_47 : decode cX8_addStep 47 = .ok (.iconst 1, 1) := by decide +kernel
theorem dX8_addStep_48 : decode cX8_addStep 48 = .ok (.iadd, 1) := by decide +kernel
theorem dX8_addStep_49 : decode cX8_addStep 49 = .ok (.putfield 27, 3) := by decide +kernel
theorem dX8_addStep_52 : decode cX8_addStep 52 = .ok (.ireturn, 1) := by decide +kernel
theorem dX8_addLine_0 : decode cX8_addLine 0 = .ok (.aload_n 0, 1) := by decide +kernel
theorem dX8_addLine_1 : decode cX8_addLine 1 = .ok (.getfield 31, 3) := by decide +kernel
theorem dX8_addLine_4 : decode cX8_addLine 4 = .ok (.bipush 120, 2) := by decide +kernel
theorem dX8_addLine_6 : decode cX8_addLine 6 = .ok (.if_icmp .ge 33, 3) := by decide +kernel
theorem dX8_addLine_9 : decode cX8_addLine 9 = .ok (.aload_n 0, 1) := by decide +kernel
theorem dX8_addLine_10 : decode cX8_addLine 10 = .ok (.getfield 21, 3) := by decide +kernel
theorem dX8_addLine_13 : decode cX8_addLine 13 = .ok (.aload_n 0, 1) := by decide +kernel
theorem dX8_addLine_14 : decode cX8_addLine 14 = .ok (.getfield 31, 3) := by decide +kernel
theorem dX8_addLine_17 : decode cX8_addLine 17 = .ok (.iload_n 1, 1) := by decide +kernel
theorem dX8_addLine_18 : decode cX8_addLine 18 = .ok (.iastore, 1) := by decide +kernel
theorem dX8_addLine_19 : decode cX8_addLine 19 = .ok (.aload_n 0, 1) := by decide +kernel
theorem dX8_addLine_20 : decode cX8_addLine 20 = .ok (.getfield 24, 3) := by decide +kernel
theorem dX8_addLine_23 : decode cX8_addLine 23 = .ok (.aload_n 0, 1) := by decide +kernel
theorem dX8_addLine_24 : decode cX8_addLine 24 = .ok (.getfield 31, 3) := by decide +kernel
theorem dX8_addLine_27 : decode cX8_addLine 27 = .ok (.iload_n 2, 1) := by decide +kernel
theorem dX8_addLine_28 : decode cX8_addLine 28 = .ok (.iastore, 1) := by decide +kernel
theorem dX8_addLine_29 : decode cX8_addLine 29 = .ok (.aload_n 0, 1) := by decide +kernel
theorem dX8_addLine_30 : decode cX8_addLine 30 = .ok (.dup, 1) := by decide +kernel
theorem dX8_addLine_31 : decode cX8_addLine 31 = .ok (.getfield 31, 3) := by decide +kernel
theorem dX8_addLine_34 : decode cX8_addLine 34 = .ok (.iconst 1, 1) := by decide +kernel
theorem dX8_addLine_35 : decode cX8_addLine 35 = .ok (.iadd, 1) := by decide +kernel
theorem dX8_addLine_36 : decode cX8_addLine 36 = .ok (.putfield 31, 3) := by decide +kernel
theorem dX8_addLine_39 : decode cX8_addLine 39 = .ok (.return_, 1) := by decide +kernel
theorem dX8_answer_0 : decode cX8_answer 0 = .ok (.aload_n 1, 1) := by decide +kernel
theorem dX8_answer_1 : decode cX8_answer 1 = .ok (.ifnull 7, 3) := by decide +kernel
theorem dX8_answer_4 : decode cX8_answer 4 = .ok (.aload_n 2, 1) := by decide +kernel
theorem dX8_answer_5 : decode cX8_answer 5 = .ok (.ifnonnull 5, 3) := by decide +kernel
theorem dX8_answer_8 : decode cX8_answer 8 = .ok (.iconst 0, 1) := by decide +kernel
theorem dX8_answer_9 : decode cX8_answer 9 = .ok (.ireturn, 1) := by decide +kernel
theorem dX8_answer_10 : decode cX8_answer 10 = .ok (.iconst 0, 1) := by decide +kernel
theorem dX8_answer_11 : decode cX8_answer 11 = .ok (.istore_n 3, 1) := by decide +kernel
theorem dX8_answer_12 : decode cX8_answer 12 = .ok (.iload_n 3, 1) := by decide +kernel
theorem dX8_answer_13 : decode cX8_answer 13 = .ok (.aload_n 0, 1) := by decide +kernel
theorem dX8_answer_14 : decode cX8_answer 14 = .ok (.getfield 27, 3) := by decide +kernel
theorem dX8_answer_17 : decode cX8_answer 17 = .ok (.if_icmp .ge 152, 3) := by decide +kernel
theorem dX8_answer_20 : decode cX8_answer 20 = .ok (.iload_n 3, 1) := by decide +kernel
theorem dX8_answer_21 : decode cX8_answer 21 = .ok (.bipush 120, 2) := by decide +kernel
theorem dX8_answer_23 : decode cX8_answer 23 = .ok (.if_icmp .ge 146, 3) := by decide +kernel
theorem dX8_answer_26 : decode cX8_answer 26 = .ok (.iload_n 3, 1) := by decide +kernel
theorem dX8_answer_27 : decode cX8_answer 27 = .ok (.aload_n 2, 1) := by decide +kernel
theorem dX8_answer_28 : decode cX8_answer 28 = .ok (.arraylength, 1) := by decide +kernel
theorem dX8_answer_29 : decode cX8_answer 29 = .ok (.if_icmp .ge 140, 3) := by decide +kernel
theorem dX8_answer_32 : decode cX8_answer 32 = .ok (.aload_n 0, 1) := by decide +kernel
theorem dX8_answer_33 : decode cX8_answer 33 = .ok (.getfield 15, 3) := by decide +kernel
theorem dX8_answer_36 : decode cX8_answer 36 = .ok (.iload_n 3, 1) := by decide +kernel
theorem dX8_answer_37 : decode cX8_answer 37 = .ok (.iaload, 1) := by decide +kernel
theorem dX8_answer_38 : decode cX8_answer 38 = .ok (.istore 4, 2) := by decide +kernel
theorem dX8_answer_40 : decode cX8_answer 40 = .ok (.aload_n 0, 1) := by decide +kernel
theorem dX8_answer_41 : decode cX8_answer 41 = .ok (.getfield 18, 3) := by decide +kernel
theorem dX8_answer_44 : decode cX8_answer 44 = .ok (.iload_n 3, 1) := by decide +kernel
theorem dX8_answer_45 : decode cX8_answer 45 = .ok (.iaload, 1) := by decide +kernel
theorem dX8_answer_46 : decode cX8_answer 46 = .ok (.istore 5, 2) := by decide +kernel
theorem dX8_answer_48 : decode cX8_answer 48 = .ok (.aload_n 0, 1) := by decide +kernel
theorem dX8_answer_49 : decode cX8_answer 49 = .ok (.getfield 9, 3) := by decide +kernel
theorem dX8_answer_52 : decode cX8_answer 52 = .ok (.iload_n 3, 1) := by decide +kernel
theorem dX8_answer_53 : decode cX8_answer 53 = .ok (.iaload, 1) := by decide +kernel
theorem dX8_answer_54 : decode cX8_answer 54 = .ok (.bipush 48, 2) := by decide +kernel
theorem dX8_answer_56 : decode cX8_answer 56 = .ok (.if_icmp .ne 11, 3) := by decide +kernel
theorem dX8_answer_59 : decode cX8_answer 59 = .ok (.aload_n 2, 1) := by decide +kernel
theorem dX8_answer_60 : decode cX8_answer 60 = .ok (.iload_n 3, 1) := by decide +kernel
theorem dX8_answer_61 : decode cX8_answer 61 = .ok (.iload 4, 2) := by decide +kernel
theorem dX8_answer_63 : decode cX8_answer 63 = .ok (.iastore, 1) := by decide +kernel
theorem dX8_answer_64 : decode cX8_answer 64 = .ok (.goto 99, 3) := by decide +kernel
theorem dX8_answer_67 : decode cX8_answer 67 = .ok (.aload_n 0, 1) := by decide +kernel
theorem dX8_answer_68 : decode cX8_answer 68 = .ok (.getfield 9, 3) := by decide +kernel
theorem dX8_answer_71 : decode cX8_answer 71 = .ok (.iload_n 3, 1) := by decide +kernel
theorem dX8_answer_72 : decode cX8_answer 72 = .ok (.iaload, 1) := by decide +kernel
theorem dX8_answer_73 : decode cX8_answer 73 = .ok (.bipush 107, 2) := by decide +kernel
theorem dX8_answer_75 : decode cX8_answer 75 = .ok (.if_icmp .ne 29, 3) := by decide +kernel
theorem dX8_answer_78 : decode cX8_answer 78 = .ok (.aload_n 2, 1) := by decide +kernel
theorem dX8_answer_79 : decode cX8_answer 79 = .ok (.iload_n 3, 1) := by decide +kernel
theorem dX8_answer_80 : decode cX8_answer 80 = .ok (.iload 4, 2) := by decide +kernel
theorem dX8_answer_82 : decode cX8_answer 82 = .ok (.ifCond .lt 17, 3) := by decide +kernel
theorem dX8_answer_85 : decode cX8_answer 85 = .ok (.iload 4, 2) := by decide +kernel
theorem dX8_answer_87 : decode cX8_answer 87 = .ok (.aload_n 1, 1) := by decide +kernel
theorem dX8_answer_88 : decode cX8_answer 88 = .ok (.arraylength, 1) := by decide +kernel
theorem dX8_answer_89 : decode cX8_answer 89 = .ok (.if_icmp .ge 10, 3) := by decide +kernel
theorem dX8_answer_92 : decode cX8_answer 92 = .ok (.aload_n 1, 1) := by decide +kernel
theorem dX8_answer_93 : decode cX8_answer 93 = .ok (.iload 4, 2) := by decide +kernel
theorem dX8_answer_95 : decode cX8_answer 95 = .ok (.iaload, 1) := by decide +kernel
theorem dX8_answer_96 : decode cX8_answer 96 = .ok (.goto 4, 3) := by decide +kernel
theorem dX8_answer_99 : decode cX8_answer 99 = .ok (.iconst 0, 1) := by decide +kernel
theorem dX8_answer_100 : decode cX8_answer 100 = .ok (.iastore, 1) := by decide +kernel
theorem dX8_answer_101 : decode cX8_answer 101 = .ok (.goto 62, 3) := by decide +kernel
theorem dX8_answer_104 : decode cX8_answer 104 = .ok (.iload 4, 2) := by decide +kernel
theorem dX8_answer_106 : decode cX8_answer 106 = .ok (.ifCond .lt 16, 3) := by decide +kernel
theorem dX8_answer_109 : decode cX8_answer 109 = .ok (.iload 4, 2) := by decide +kernel
theorem dX8_answer_111 : decode cX8_answer 111 = .ok (.iload_n 3, 1) := by decide +kernel
theorem dX8_answer_112 : decode cX8_answer 112 = .ok (.if_icmp .ge 10, 3) := by decide +kernel
theorem dX8_answer_115 : decode cX8_answer 115 = .ok (.aload_n 2, 1) := by decide +kernel
theorem dX8_answer_116 : decode cX8_answer 116 = .ok (.iload 4, 2) := by decide +kernel
theorem dX8_answer_118 : decode cX8_answer 118 = .ok (.iaload, 1) := by decide +kernel
theorem dX8_answer_119 : decode cX8_answer 119 = .ok (.goto 4, 3) := by decide +kernel
theorem dX8_answer_122 : decode cX8_answer 122 = .ok (.iconst 0, 1) := by decide +kernel
theorem dX8_answer_123 : decode cX8_answer 123 = .ok (.istore 6, 2) := by decide +kernel
theorem dX8_answer_125 : decode cX8_answer 125 = .ok (.iload 5, 2) := by decide +kernel
theorem dX8_answer_127 : decode cX8_answer 127 = .ok (.ifCond .lt 16, 3) := by decide +kernel
theorem dX8_answer_130 : decode cX8_answer 130 = .ok (.iload 5, 2) := by decide +kernel
theorem dX8_answer_132 : decode cX8_answer 132 = .ok (.iload_n 3, 1) := by decide +kernel
theorem dX8_answer_133 : decode cX8_answer 133 = .ok (.if_icmp .ge 10, 3) := by decide +kernel
theorem dX8_answer_136 : decode cX8_answer 136 = .ok (.aload_n 2, 1) := by decide +kernel
theorem dX8_answer_137 : decode cX8_answer 137 = .ok (.iload 5, 2) := by decide +kernel
theorem dX8_answer_139 : decode cX8_answer 139 = .ok (.iaload, 1) := by decide +kernel
theorem dX8_answer_140 : decode cX8_answer 140 = .ok (.goto 4, 3) := by decide +kernel
theorem dX8_answer_143 : decode cX8_answer 143 = .ok (.iconst 0, 1) := by decide +kernel
theorem dX8_answer_144 : decode cX8_answer 144 = .ok (.istore 7, 2) := by decide +kernel
theorem dX8_answer_146 : decode cX8_answer 146 = .ok (.aload_n 2, 1) := by decide +kernel
theorem dX8_answer_147 : decode cX8_answer 147 = .ok (.iload_n 3, 1) := by decide +kernel
theorem dX8_answer_148 : decode cX8_answer 148 = .ok (.aload_n 0, 1) := by decide +kernel
theorem dX8_answer_149 : decode cX8_answer 149 = .ok (.aload_n 0, 1) := by decide +kernel
theorem dX8_answer_150 : decode cX8_answer 150 = .ok (.getfield 9, 3) := by decide +kernel
theorem dX8_answer_153 : decode cX8_answer 153 = .ok (.iload_n 3, 1) := by decide +kernel
theorem dX8_answer_154 : decode cX8_answer 154 = .ok (.iaload, 1) := by decide +kernel
theorem dX8_answer_155 : decode cX8_answer 155 = .ok (.iload 6, 2) := by decide +kernel
theorem dX8_answer_157 : decode cX8_answer 157 = .ok (.iload 7, 2) := by decide +kernel
theorem dX8_answer_159 : decode cX8_answer 159 = .ok (.invokevirtual 34, 3) := by decide +kernel
theorem dX8_answer_162 : decode cX8_answer 162 = .ok (.iastore, 1) := by decide +kernel
theorem dX8_answer_163 : decode cX8_answer 163 = .ok (.iinc 3 1, 3) := by decide +kernel
theorem dX8_answer_166 : decode cX8_answer 166 = .ok (.goto (-154), 3) := by decide +kernel
theorem dX8_answer_169 : decode cX8_answer 169 = .ok (.aload_n 0, 1) := by decide +kernel
theorem dX8_answer_170 : decode cX8_answer 170 = .ok (.aload_n 2, 1) := by decide +kernel
theorem dX8_answer_171 : decode cX8_answer 171 = .ok (.invokevirtual 38, 3) := by decide +kernel
theorem dX8_answer_174 : decode cX8_answer 174 = .ok (.ireturn, 1) := by decide +kernel
theorem dX8_firstThatCounts_0 : decode cX8_firstThatCounts 0 = .ok (.iconst 0, 1) := by decide +kernel
theorem dX8_firstThatCounts_1 : decode cX8_firstThatCounts 1 = .ok (.istore_n 2, 1) := by decide +kernel
theorem dX8_firstThatCounts_2 : decode cX8_firstThatCounts 2 = .ok (.iload_n 2, 1) := by decide +kernel
theorem dX8_firstThatCounts_3 : decode cX8_firstThatCounts 3 = .ok (.aload_n 0, 1) := by decide +kernel
theorem dX8_firstThatCounts_4 : decode cX8_firstThatCounts 4 = .ok (.getfield 31, 3) := by decide +kernel
theorem dX8_firstThatCounts_7 : decode cX8_firstThatCounts 7 = .ok (.if_icmp .ge 75, 3) := by decide +kernel
theorem dX8_firstThatCounts_10 : decode cX8_firstThatCounts 10 = .ok (.iload_n 2, 1) := by decide +kernel
theorem dX8_firstThatCounts_11 : decode cX8_firstThatCounts 11 = .ok (.bipush 120, 2) := by decide +kernel
theorem dX8_firstThatCounts_13 : decode cX8_firstThatCounts 13 = .ok (.if_icmp .ge 69, 3) := by decide +kernel
theorem dX8_firstThatCounts_16 : decode cX8_firstThatCounts 16 = .ok (.aload_n 0, 1) := by decide +kernel
theorem dX8_firstThatCounts_17 : decode cX8_firstThatCounts 17 = .ok (.getfield 21, 3) := by decide +kernel
theorem dX8_firstThatCounts_20 : decode cX8_firstThatCounts 20 = .ok (.iload_n 2, 1) := by decide +kernel
theorem dX8_firstThatCounts_21 : decode cX8_firstThatCounts 21 = .ok (.iaload, 1) := by decide +kernel
theorem dX8_firstThatCounts_22 : decode cX8_firstThatCounts 22 = .ok (.istore_n 3, 1) := by decide +kernel
theorem dX8_firstThatCounts_23 : decode cX8_firstThatCounts 23 = .ok (.aload_n 0, 1) := by decide +kernel
theorem dX8_firstThatCounts_24 : decode cX8_firstThatCounts 24 = .ok (.getfield 24, 3) := by decide +kernel
theorem dX8_firstThatCounts_27 : decode cX8_firstThatCounts 27 = .ok (.iload_n 2, 1) := by decide +kernel
theorem dX8_firstThatCounts_28 : decode cX8_firstThatCounts 28 = .ok (.iaload, 1) := by decide +kernel
theorem dX8_firstThatCounts_29 : decode cX8_firstThatCounts 29 = .ok (.istore 4, 2) := by decide +kernel
theorem dX8_firstThatCounts_31 : decode cX8_firstThatCounts 31 = .ok (.iload_n 3, 1) := by decide +kernel
theorem dX8_firstThatCounts_32 : decode cX8_firstThatCounts 32 = .ok (.ifCond .lt 15, 3) := by decide +kernel
theorem dX8_firstThatCounts_35 : decode cX8_firstThatCounts 35 = .ok (.iload_n 3, 1) := by decide +kernel
theorem dX8_firstThatCounts_36 : decode cX8_firstThatCounts 36 = .ok (.aload_n 1, 1) := by decide +kernel
theorem dX8_firstThatCounts_37 : decode cX8_firstThatCounts 37 = .ok (.arraylength, 1) := by decide +kernel
theorem dX8_firstThatCounts_38 : decode cX8_firstThatCounts 38 = .ok (.if_icmp .ge 9, 3) := by decide +kernel
theorem dX8_firstThatCounts_41 : decode cX8_firstThatCounts 41 = .ok (.aload_n 1, 1) := by decide +kernel
theorem dX8_firstThatCounts_42 : decode cX8_firstThatCounts 42 = .ok (.iload_n 3, 1) := by decide +kernel
theorem dX8_firstThatCounts_43 : decode cX8_firstThatCounts 43 = .ok (.iaload, 1) := by decide +kernel
theorem dX8_firstThatCounts_44 : decode cX8_firstThatCounts 44 = .ok (.ifCond .eq 7, 3) := by decide +kernel
theorem dX8_firstThatCounts_47 : decode cX8_firstThatCounts 47 = .ok (.iconst 1, 1) := by decide +kernel
theorem dX8_firstThatCounts_48 : decode cX8_firstThatCounts 48 = .ok (.goto 4, 3) := by decide +kernel
theorem dX8_firstThatCounts_51 : decode cX8_firstThatCounts 51 = .ok (.iconst 0, 1) := by decide +kernel
theorem dX8_firstThatCounts_52 : decode cX8_firstThatCounts 52 = .ok (.istore 5, 2) := by decide +kernel
theorem dX8_firstThatCounts_54 : decode cX8_firstThatCounts 54 = .ok (.iload 5, 2) := by decide +kernel
theorem dX8_firstThatCounts_56 : decode cX8_firstThatCounts 56 = .ok (.ifCond .eq 20, 3) := by decide +kernel
theorem dX8_firstThatCounts_59 : decode cX8_firstThatCounts 59 = .ok (.iload 4, 2) := by decide +kernel
theorem dX8_firstThatCounts_61 : decode cX8_firstThatCounts 61 = .ok (.ifCond .lt 15, 3) := by decide +kernel
theorem dX8_firstThatCounts_64 : decode cX8_firstThatCounts 64 = .ok (.iload 4, 2) := by decide +kernel
theorem dX8_firstThatCounts_66 : decode cX8_firstThatCounts 66 = .ok (.aload_n 1, 1) := by decide +kernel
theorem dX8_firstThatCounts_67 : decode cX8_firstThatCounts 67 = .ok (.arraylength, 1) := by decide +kernel
theorem dX8_firstThatCounts_68 : decode cX8_firstThatCounts 68 = .ok (.if_icmp .ge 8, 3) := by decide +kernel
theorem dX8_firstThatCounts_71 : decode cX8_firstThatCounts 71 = .ok (.aload_n 1, 1) := by decide +kernel
theorem dX8_firstThatCounts_72 : decode cX8_firstThatCounts 72 = .ok (.iload 4, 2) := by decide +kernel
theorem dX8_firstThatCounts_74 : decode cX8_firstThatCounts 74 = .ok (.iaload, 1) := by decide +kernel
theorem dX8_firstThatCounts_75 : decode cX8_firstThatCounts 75 = .ok (.ireturn, 1) := by decide +kernel
theorem dX8_firstThatCounts_76 : decode cX8_firstThatCounts 76 = .ok (.iinc 2 1, 3) := by decide +kernel
theorem dX8_firstThatCounts_79 : decode cX8_firstThatCounts 79 = .ok (.goto (-77), 3) := by decide +kernel
theorem dX8_firstThatCounts_82 : decode cX8_firstThatCounts 82 = .ok (.iconst 0, 1) := by decide +kernel
theorem dX8_firstThatCounts_83 : decode cX8_firstThatCounts 83 = .ok (.ireturn, 1) := by decide +kernel
theorem dX8_joined_0 : decode cX8_joined 0 = .ok (.iload_n 1, 1) := by decide +kernel
theorem dX8_joined_1 : decode cX8_joined 1 = .ok (.lookupswitch 217 #[(33, 204), (37, 131), (38, 157), (42, 115), (43, 107), (45, 111), (47, 119), (60, 171), (61, 182), (62, 193), (124, 143), (126, 214)], 107) := by decide +kernel
theorem dX8_joined_108 : decode cX8_joined 108 = .ok (.iload_n 2, 1) := by decide +kernel
theorem dX8_joined_109 : decode cX8_joined 109 = .ok (.iload_n 3, 1) := by decide +kernel
theorem dX8_joined_110 : decode cX8_joined 110 = .ok (.iadd, 1) := by decide +kernel
theorem dX8_joined_111 : decode cX8_joined 111 = .ok (.ireturn, 1) := by decide +kernel
theorem dX8_joined_112 : decode cX8_joined 112 = .ok (.iload_n 2, 1) := by decide +kernel
theorem dX8_joined_113 : decode cX8_joined 113 = .ok (.iload_n 3, 1) := by decide +kernel
theorem dX8_joined_114 : decode cX8_joined 114 = .ok (.isub, 1) := by decide +kernel
theorem dX8_joined_115 : decode cX8_joined 115 = .ok (.ireturn, 1) := by decide +kernel
theorem dX8_joined_116 : decode cX8_joined 116 = .ok (.iload_n 2, 1) := by decide +kernel
theorem dX8_joined_117 : decode cX8_joined 117 = .ok (.iload_n 3, 1) := by decide +kernel
theorem dX8_joined_118 : decode cX8_joined 118 = .ok (.imul, 1) := by decide +kernel
theorem dX8_joined_119 : decode cX8_joined 119 = .ok (.ireturn, 1) := by decide +kernel
theorem dX8_joined_120 : decode cX8_joined 120 = .ok (.iload_n 3, 1) := by decide +kernel
theorem dX8_joined_121 : decode cX8_joined 121 = .ok (.ifCond .ne 7, 3) := by decide +kernel
theorem dX8_joined_124 : decode cX8_joined 124 = .ok (.iconst 0, 1) := by decide +kernel
theorem dX8_joined_125 : decode cX8_joined 125 = .ok (.goto 6, 3) := by decide +kernel
theorem dX8_joined_128 : decode cX8_joined 128 = .ok (.iload_n 2, 1) := by decide +kernel
theorem dX8_joined_129 : decode cX8_joined 129 = .ok (.iload_n 3, 1) := by decide +kernel
theorem dX8_joined_130 : decode cX8_joined 130 = .ok (.idiv, 1) := by decide +kernel
theorem dX8_joined_131 : decode cX8_joined 131 = .ok (.ireturn, 1) := by decide +kernel
theorem dX8_joined_132 : decode cX8_joined 132 = .ok (.iload_n 3, 1) := by decide +kernel
theorem dX8_joined_133 : decode cX8_joined 133 = .ok (.ifCond .ne 7, 3) := by decide +kernel
theorem dX8_joined_136 : decode cX8_joined 136 = .ok (.iconst 0, 1) := by decide +kernel
theorem dX8_joined_137 : decode cX8_joined 137 = .ok (.goto 6, 3) := by decide +kernel
theorem dX8_joined_140 : decode cX8_joined 140 = .ok (.iload_n 2, 1) := by decide +kernel
theorem dX8_joined_141 : decode cX8_joined 141 = .ok (.iload_n 3, 1) := by decide +kernel
theorem dX8_joined_142 : decode cX8_joined 142 = .ok (.irem, 1) := by decide +kernel
theorem dX8_joined_143 : decode cX8_joined 143 = .ok (.ireturn, 1) := by decide +kernel
theorem dX8_joined_144 : decode cX8_joined 144 = .ok (.iload_n 2, 1) := by decide +kernel
theorem dX8_joined_145 : decode cX8_joined 145 = .ok (.ifCond .ne 7, 3) := by decide +kernel
theorem dX8_joined_148 : decode cX8_joined 148 = .ok (.iload_n 3, 1) := by decide +kernel
theorem dX8_joined_149 : decode cX8_joined 149 = .ok (.ifCond .eq 7, 3) := by decide +kernel
theorem dX8_joined_152 : decode cX8_joined 152 = .ok (.iconst 1, 1) := by decide +kernel
theorem dX8_joined_153 : decode cX8_joined 153 = .ok (.goto 4, 3) := by decide +kernel
theorem dX8_joined_156 : decode cX8_joined 156 = .ok (.iconst 0, 1) := by decide +kernel
theorem dX8_joined_157 : decode cX8_joined 157 = .ok (.ireturn, 1) := by decide +kernel
theorem dX8_joined_158 : decode cX8_joined 158 = .ok (.iload_n 2, 1) := by decide +kernel
theorem dX8_joined_159 : decode cX8_joined 159 = .ok (.ifCond .eq 11, 3) := by decide +kernel
theorem dX8_joined_162 : decode cX8_joined 162 = .ok (.iload_n 3, 1) := by decide +kernel
theorem dX8_joined_163 : decode cX8_joined 163 = .ok (.ifCond .eq 7, 3) := by decide +kernel
theorem dX8_joined_166 : decode cX8_joined 166 = .ok (.iconst 1, 1) := by decide +kernel
theorem dX8_joined_167 : decode cX8_joined 167 = .ok (.goto 4, 3) := by decide +kernel
theorem dX8_joined_170 : decode cX8_joined 170 = .ok (.iconst 0, 1) := by decide +kernel
theorem dX8_joined_171 : decode cX8_joined 171 = .ok (.ireturn, 1) := by decide +kernel
theorem dX8_joined_172 : decode cX8_joined 172 = .ok (.iload_n 2, 1) := by decide +kernel
theorem dX8_joined_173 : decode cX8_joined 173 = .ok (.iload_n 3, 1) := by decide +kernel
theorem dX8_joined_174 : decode cX8_joined 174 = .ok (.if_icmp .ge 7, 3) := by decide +kernel
theorem dX8_joined_177 : decode cX8_joined 177 = .ok (.iconst 1, 1) := by decide +kernel
theorem dX8_joined_178 : decode cX8_joined 178 = .ok (.goto 4, 3) := by decide +kernel
theorem dX8_joined_181 : decode cX8_joined 181 = .ok (.iconst 0, 1) := by decide +kernel
theorem dX8_joined_182 : decode cX8_joined 182 = .ok (.ireturn, 1) := by decide +kernel
theorem dX8_joined_183 : decode cX8_joined 183 = .ok (.iload_n 2, 1) := by decide +kernel
theorem dX8_joined_184 : decode cX8_joined 184 = .ok (.iload_n 3, 1) := by decide +kernel
theorem dX8_joined_185 : decode cX8_joined 185 = .ok (.if_icmp .ne 7, 3) := by decide +kernel
theorem dX8_joined_188 : decode cX8_joined 188 = .ok (.iconst 1, 1) := by decide +kernel
theorem dX8_joined_189 : decode cX8_joined 189 = .ok (.goto 4, 3) := by decide +kernel
theorem dX8_joined_192 : decode cX8_joined 192 = .ok (.iconst 0, 1) := by decide +kernel
theorem dX8_joined_193 : decode cX8_joined 193 = .ok (.ireturn, 1) := by decide +kernel
theorem dX8_joined_194 : decode cX8_joined 194 = .ok (.iload_n 2, 1) := by decide +kernel
theorem dX8_joined_195 : decode cX8_joined 195 = .ok (.iload_n 3, 1) := by decide +kernel
theorem dX8_joined_196 : decode cX8_joined 196 = .ok (.if_icmp .le 7, 3) := by decide +kernel
theorem dX8_joined_199 : decode cX8_joined 199 = .ok (.iconst 1, 1) := by decide +kernel
theorem dX8_joined_200 : decode cX8_joined 200 = .ok (.goto 4, 3) := by decide +kernel
theorem dX8_joined_203 : decode cX8_joined 203 = .ok (.iconst 0, 1) := by decide +kernel
theorem dX8_joined_204 : decode cX8_joined 204 = .ok (.ireturn, 1) := by decide +kernel
theorem dX8_joined_205 : decode cX8_joined 205 = .ok (.iload_n 2, 1) := by decide +kernel
theorem dX8_joined_206 : decode cX8_joined 206 = .ok (.ifCond .ne 7, 3) := by decide +kernel
theorem dX8_joined_209 : decode cX8_joined 209 = .ok (.iconst 1, 1) := by decide +kernel
theorem dX8_joined_210 : decode cX8_joined 210 = .ok (.goto 4, 3) := by decide +kernel
theorem dX8_joined_213 : decode cX8_joined 213 = .ok (.iconst 0, 1) := by decide +kernel
theorem dX8_joined_214 : decode cX8_joined 214 = .ok (.ireturn, 1) := by decide +kernel
theorem dX8_joined_215 : decode cX8_joined 215 = .ok (.iload_n 2, 1) := by decide +kernel
theorem dX8_joined_216 : decode cX8_joined 216 = .ok (.ineg, 1) := by decide +kernel
theorem dX8_joined_217 : decode cX8_joined 217 = .ok (.ireturn, 1) := by decide +kernel
theorem dX8_joined_218 : decode cX8_joined 218 = .ok (.iconst 0, 1) := by decide +kernel
theorem dX8_joined_219 : decode cX8_joined 219 = .ok (.ireturn, 1) := by decide +kernel
theorem dX9_init_0 : decode cX9_init 0 = .ok (.aload_n 0, 1) := by decide +kernel
theorem dX9_init_1 : decode cX9_init 1 = .ok (.invokespecial 3, 3) := by decide +kernel
theorem dX9_init_4 : decode cX9_init 4 = .ok (.aload_n 0, 1) := by decide +kernel
theorem dX9_init_5 : decode cX9_init 5 = .ok (.bipush 20, 2) := by decide +kernel
theorem dX9_init_7 : decode cX9_init 7 = .ok (.newarray .int, 2) := by decide +kernel
theorem dX9_init_9 : decode cX9_init 9 = .ok (.putfield 9, 3) := by decide +kernel
theorem dX9_init_12 : decode cX9_init 12 = .ok (.aload_n 0, 1) := by decide +kernel
theorem dX9_init_13 : decode cX9_init 13 = .ok (.bipush 20, 2) := by decide +kernel
theorem dX9_init_15 : decode cX9_init 15 = .ok (.newarray .int, 2) := by decide +kernel
theorem dX9_init_17 : decode cX9_init 17 = .ok (.putfield 15, 3) := by decide +kernel
theorem dX9_init_20 : decode cX9_init 20 = .ok (.aload_n 0, 1) := by decide +kernel
theorem dX9_init_21 : decode cX9_init 21 = .ok (.bipush 20, 2) := by decide +kernel
theorem dX9_init_23 : decode cX9_init 23 = .ok (.newarray .int, 2) := by decide +kernel
theorem dX9_init_25 : decode cX9_init 25 = .ok (.putfield 18, 3) := by decide +kernel
theorem dX9_init_28 : decode cX9_init 28 = .ok (.aload_n 0, 1) := by decide +kernel
theorem dX9_init_29 : decode cX9_init 29 = .ok (.iconst 0, 1) := by decide +kernel
theorem dX9_init_30 : decode cX9_init 30 = .ok (.putfield 21, 3) := by decide +kernel
theorem dX9_init_33 : decode cX9_init 33 = .ok (.aload_n 0, 1) := by decide +kernel
theorem dX9_init_34 : decode cX9_init 34 = .ok (.aload_n 1, 1) := by decide +kernel
theorem dX9_init_35 : decode cX9_init 35 = .ok (.putfield 25, 3) := by decide +kernel
theorem dX9_init_38 : decode cX9_init 38 = .ok (.aload_n 0, 1) := by decide +kernel
theorem dX9_init_39 : decode cX9_init 39 = .ok (.aload_n 2, 1) := by decide +kernel
theorem dX9_init_40 : decode cX9_init 40 = .ok (.putfield 29, 3) := by decide +kernel
theorem dX9_init_43 : decode cX9_init 43 = .ok (.aload_n 0, 1) := by decide +kernel
theorem dX9_init_44 : decode cX9_init 44 = .ok (.aload_n 3, 1) := by decide +kernel
theorem dX9_init_45 : decode cX9_init 45 = .ok (.putfield 33, 3) := by decide +kernel
theorem dX9_init_48 : decode cX9_init 48 = .ok (.return_, 1) := by decide +kernel
theorem dX9_size_0 : decode cX9_size 0 = .ok (.aload_n 0, 1) := by decide +kernel
theorem dX9_size_1 : decode cX9_size 1 = .ok (.getfield 21, 3) := by decide +kernel
theorem dX9_size_4 : decode cX9_size 4 = .ok (.ireturn, 1) := by decide +kernel
theorem dX9_has_0 : decode cX9_has 0 = .ok (.iload_n 1, 1) := by decide +kernel
theorem dX9_has_1 : decode cX9_has 1 = .ok (.ifCond .lt 21, 3) := by decide +kernel
theorem dX9_has_4 : decode cX9_has 4 = .ok (.iload_n 1, 1) := by decide +kernel
theorem dX9_has_5 : decode cX9_has 5 = .ok (.aload_n 0, 1) := by decide +kernel
theorem dX9_has_6 : decode cX9_has 6 = .ok (.getfield 21, 3) := by decide +kernel
theorem dX9_has_9 : decode cX9_has 9 = .ok (.if_icmp .ge 13, 3) := by decide +kernel
theorem dX9_has_12 : decode cX9_has 12 = .ok (.iload_n 1, 1) := by decide +kernel
theorem dX9_has_13 : decode cX9_has 13 = .ok (.bipush 20, 2) := by decide +kernel
theorem dX9_has_15 : decode cX9_has 15 = .ok (.if_icmp .ge 7, 3) := by decide +kernel
theorem dX9_has_18 : decode cX9_has 18 = .ok (.iconst 1, 1) := by decide +kernel
theorem dX9_has_19 : decode cX9_has 19 = .ok (.goto 4, 3) := by decide +kernel
theorem dX9_has_22 : decode cX9_has 22 = .ok (.iconst 0, 1) := by decide +kernel
theorem dX9_has_23 : decode cX9_has 23 = .ok (.ireturn, 1) := by decide +kernel
theorem dX9_add_0 : decode cX9_add 0 = .ok (.aload_n 0, 1) := by decide +kernel
theorem dX9_add_1 : decode cX9_add 1 = .ok (.getfield 21, 3) := by decide +kernel
theorem dX9_add_4 : decode cX9_add 4 = .ok (.bipush 20, 2) := by decide +kernel
theorem dX9_add_6 : decode cX9_add 6 = .ok (.if_icmp .lt 6, 3) := by decide +kernel
theorem dX9_add_9 : decode cX9_add 9 = .ok (.bipush (-3), 2) := by decide +kernel
theorem dX9_add_11 : decode cX9_add 11 = .ok (.ireturn, 1) := by decide +kernel
theorem dX9_add_12 : decode cX9_add 12 = .ok (.aload_n 0, 1) := by decide +kernel
theorem dX9_add_13 : decode cX9_add 13 = .ok (.getfield 9, 3) := by decide +kernel
theorem dX9_add_16 : decode cX9_add 16 = .ok (.aload_n 0, 1) := by decide +kernel
theorem dX9_add_17 : decode cX9_add 17 = .ok (.getfield 21, 3) := by decide +kernel
theorem dX9_add_20 : decode cX9_add 20 = .ok (.iload_n 1, 1) := by decide +kernel
theorem dX9_add_21 : decode cX9_add 21 = .ok (.iastore, 1) := by decide +kernel
theorem dX9_add_22 : decode cX9_add 22 = .ok (.aload_n 0, 1) := by decide +kernel
theorem dX9_add_23 : decode cX9_add 23 = .ok (.getfield 15, 3) := by decide +kernel
theorem dX9_add_26 : decode cX9_add 26 = .ok (.aload_n 0, 1) := by decide +kernel
theorem dX9_add_27 : decode cX9_add 27 = .ok (.getfield 21, 3) := by decide +kernel
theorem dX9_add_30 : decode cX9_add 30 = .ok (.iload_n 2, 1) := by decide +kernel
theorem dX9_add_31 : decode cX9_add 31 = .ok (.iastore, 1) := by decide +kernel
theorem dX9_add_32 : decode cX9_add 32 = .ok (.aload_n 0, 1) := by decide +kernel
theorem dX9_add_33 : decode cX9_add 33 = .ok (.getfield 18, 3) := by decide +kernel
theorem dX9_add_36 : decode cX9_add 36 = .ok (.aload_n 0, 1) := by decide +kernel
theorem dX9_add_37 : decode cX9_add 37 = .ok (.getfield 21, 3) := by decide +kernel
theorem dX9_add_40 : decode cX9_add 40 = .ok (.iload_n 3, 1) := by decide +kernel
theorem dX9_add_41 : decode cX9_add 41 = .ok (.iastore, 1) := by decide +kernel
theorem dX9_add_42 : decode cX9_add 42 = .ok (.aload_n 0, 1) := by decide +kernel
theorem dX9_add_43 : decode cX9_add 43 = .ok (.dup, 1) := by decide +kernel
theorem dX9_add_44 : decode cX9_add 44 = .ok (.getfield 21, 3) := by decide +kernel
theorem dX9_add_47 : decode cX9_add 47 = .ok (.dup_x1, 1) := by decide +kernel
theorem dX9_add_48 : decode cX9_add 48 = .ok (.iconst 1, 1) := by decide +kernel
theorem dX9_add_49 : decode cX9_add 49 = .ok (.iadd, 1) := by decide +kernel
theorem dX9_add_50 : decode cX9_add 50 = .ok (.putfield 21, 3) := by decide +kernel
theorem dX9_add_53 : decode cX9_add 53 = .ok (.ireturn, 1) := by decide +kernel
theorem dX9_firstBroken_0 : decode cX9_firstBroken 0 = .ok (.iconst 0, 1) := by decide +kernel
theorem dX9_firstBroken_1 : decode cX9_firstBroken 1 = .ok (.istore_n 1, 1) := by decide +kernel
theorem dX9_firstBroken_2 : decode cX9_firstBroken 2 = .ok (.iload_n 1, 1) := by decide +kernel
theorem dX9_firstBroken_3 : decode cX9_firstBroken 3 = .ok (.aload_n 0, 1) := by decide +kernel
theorem dX9_firstBroken_4 : decode cX9_firstBroken 4 = .ok (.getfield 21, 3) := by decide +kernel
theorem dX9_firstBroken_7 : decode cX9_firstBroken 7 = .ok (.if_icmp .ge 52, 3) := by decide +kernel
theorem dX9_firstBroken_10 : decode cX9_firstBroken 10 = .ok (.iload_n 1, 1) := by decide +kernel
theorem dX9_firstBroken_11 : decode cX9_firstBroken 11 = .ok (.bipush 20, 2) := by decide +kernel
theorem dX9_firstBroken_13 : decode cX9_firstBroken 13 = .ok (.if_icmp .ge 46, 3) := by decide +kernel
theorem dX9_firstBroken_16 : decode cX9_firstBroken 16 = .ok (.aload_n 0, 1) := by decide +kernel
theorem dX9_firstBroken_17 : decode cX9_firstBroken 17 = .ok (.getfield 33, 3) := by decide +kernel
theorem dX9_firstBroken_20 : decode cX9_firstBroken 20 = .ok (.aload_n 0, 1) := by decide +kernel
theorem dX9_firstBroken_21 : decode cX9_firstBroken 21 = .ok (.getfield 9, 3) := by decide +kernel
theorem dX9_firstBroken_24 : decode cX9_firstBroken 24 = .ok (.iload_n 1, 1) := by decide +kernel
theorem dX9_firstBroken_25 : decode cX9_firstBroken 25 = .ok (.iaload, 1) := by decide +kernel
theorem dX9_firstBroken_26 : decode cX9_firstBroken 26 = .ok (.aload_n 0, 1) := by decide +kernel
theorem dX9_firstBroken_27 : decode cX9_firstBroken 27 = .ok (.getfield 15, 3) := by decide +kernel
theorem dX9_firstBroken_30 : decode cX9_firstBroken 30 = .ok (.iload_n 1, 1) := by decide +kernel
theorem dX9_firstBroken_31 : decode cX9_firstBroken 31 = .ok (.iaload, 1) := by decide +kernel
theorem dX9_firstBroken_32 : decode cX9_firstBroken 32 = .ok (.invokevirtual 37, 3) := by decide +kernel
theorem dX9_firstBroken_35 : decode cX9_firstBroken 35 = .ok (.aload_n 0, 1) := by decide +kernel
theorem dX9_firstBroken_36 : decode cX9_firstBroken 36 = .ok (.getfield 33, 3) := by decide +kernel
theorem dX9_firstBroken_39 : decode cX9_firstBroken 39 = .ok (.aload_n 0, 1) := by decide +kernel
theorem dX9_firstBroken_40 : decode cX9_firstBroken 40 = .ok (.getfield 18, 3) := by decide +kernel
theorem dX9_firstBroken_43 : decode cX9_firstBroken 43 = .ok (.iload_n 1, 1) := by decide +kernel
theorem dX9_firstBroken_44 : decode cX9_firstBroken 44 = .ok (.iaload, 1) := by decide +kernel
theorem dX9_firstBroken_45 : decode cX9_firstBroken 45 = .ok (.invokevirtual 43, 3) := by decide +kernel
theorem dX9_firstBroken_48 : decode cX9_firstBroken 48 = .ok (.ifCond .ge 5, 3) := by decide +kernel
theorem dX9_firstBroken_51 : decode cX9_firstBroken 51 = .ok (.iload_n 1, 1) := by decide +kernel
theorem dX9_firstBroken_52 : decode cX9_firstBroken 52 = .ok (.ireturn, 1) := by decide +kernel
theorem dX9_firstBroken_53 : decode cX9_firstBroken 53 = .ok (.iinc 1 1, 3) := by decide +kernel
theorem dX9_firstBroken_56 : decode cX9_firstBroken 56 = .ok (.goto (-54), 3) := by decide +kernel
theorem dX9_firstBroken_59 : decode cX9_firstBroken 59 = .ok (.bipush (-2), 2) := by decide +kernel
theorem dX9_firstBroken_61 : decode cX9_firstBroken 61 = .ok (.ireturn, 1) := by decide +kernel
theorem dX9_nearestLawful_0 : decode cX9_nearestLawful 0 = .ok (.aload_n 0, 1) := by decide +kernel
theorem dX9_nearestLawful_1 : decode cX9_nearestLawful 1 = .ok (.iload_n 1, 1) := by decide +kernel
theorem dX9_nearestLawful_2 : decode cX9_nearestLawful 2 = .ok (.invokevirtual 47, 3) := by decide +kernel
theorem dX9_nearestLawful_5 : decode cX9_nearestLawful 5 = .ok (.ifCond .ne 5, 3) := by decide +kernel
theorem dX9_nearestLawful_8 : decode cX9_nearestLawful 8 = .ok (.iconst (-1), 1) := by decide +kernel
theorem dX9_nearestLawful_9 : decode cX9_nearestLawful 9 = .ok (.ireturn, 1) := by decide +kernel
theorem dX9_nearestLawful_10 : decode cX9_nearestLawful 10 = .ok (.aload_n 0, 1) := by decide +kernel
theorem dX9_nearestLawful_11 : decode cX9_nearestLawful 11 = .ok (.getfield 33, 3) := by decide +kernel
theorem dX9_nearestLawful_14 : decode cX9_nearestLawful 14 = .ok (.aload_n 0, 1) := by decide +kernel
theorem dX9_nearestLawful_15 : decode cX9_nearestLawful 15 = .ok (.getfield 9, 3) := by decide +kernel
theorem dX9_nearestLawful_18 : decode cX9_nearestLawful 18 = .ok (.iload_n 1, 1) := by decide +kernel
theorem dX9_nearestLawful_19 : decode cX9_nearestLawful 19 = .ok (.iaload, 1) := by decide +kernel
theorem dX9_nearestLawful_20 : decode cX9_nearestLawful 20 = .ok (.aload_n 0, 1) := by decide +kernel
theorem dX9_nearestLawful_21 : decode cX9_nearestLawful 21 = .ok (.getfield 15, 3) := by decide +kernel
theorem dX9_nearestLawful_24 : decode cX9_nearestLawful 24 = .ok (.iload_n 1, 1) := by decide +kernel
theorem dX9_nearestLawful_25 : decode cX9_nearestLawful 25 = .ok (.iaload, 1) := by decide +kernel
theorem dX9_nearestLawful_26 : decode cX9_nearestLawful 26 = .ok (.invokevirtual 37, 3) := by decide +kernel
theorem dX9_nearestLawful_29 : decode cX9_nearestLawful 29 = .ok (.iconst 0, 1) := by decide +kernel
theorem dX9_nearestLawful_30 : decode cX9_nearestLawful 30 = .ok (.istore_n 2, 1) := by decide +kernel
theorem dX9_nearestLawful_31 : decode cX9_nearestLawful 31 = .ok (.iload_n 2, 1) := by decide +kernel
theorem dX9_nearestLawful_32 : decode cX9_nearestLawful 32 = .ok (.sipush 500, 3) := by decide +kernel
theorem dX9_nearestLawful_35 : decode cX9_nearestLawful 35 = .ok (.if_icmp .gt 67, 3) := by decide +kernel
theorem dX9_nearestLawful_38 : decode cX9_nearestLawful 38 = .ok (.aload_n 0, 1) := by decide +kernel
theorem dX9_nearestLawful_39 : decode cX9_nearestLawful 39 = .ok (.getfield 18, 3) := by decide +kernel
theorem dX9_nearestLawful_42 : decode cX9_nearestLawful 42 = .ok (.iload_n 1, 1) := by decide +kernel
theorem dX9_nearestLawful_43 : decode cX9_nearestLawful 43 = .ok (.iaload, 1) := by decide +kernel
theorem dX9_nearestLawful_44 : decode cX9_nearestLawful 44 = .ok (.iload_n 2, 1) := by decide +kernel
theorem dX9_nearestLawful_45 : decode cX9_nearestLawful 45 = .ok (.isub, 1) := by decide +kernel
theorem dX9_nearestLawful_46 : decode cX9_nearestLawful 46 = .ok (.istore_n 3, 1) := by decide +kernel
theorem dX9_nearestLawful_47 : decode cX9_nearestLawful 47 = .ok (.aload_n 0, 1) := by decide +kernel
theorem dX9_nearestLawful_48 : decode cX9_nearestLawful 48 = .ok (.getfield 18, 3) := by decide +kernel
theorem dX9_nearestLawful_51 : decode cX9_nearestLawful 51 = .ok (.iload_n 1, 1) := by decide +kernel
theorem dX9_nearestLawful_52 : decode cX9_nearestLawful 52 = .ok (.iaload, 1) := by decide +kernel
theorem dX9_nearestLawful_53 : decode cX9_nearestLawful 53 = .ok (.iload_n 2, 1) := by decide +kernel
theorem dX9_nearestLawful_54 : decode cX9_nearestLawful 54 = .ok (.iadd, 1) := by decide +kernel
theorem dX9_nearestLawful_55 : decode cX9_nearestLawful 55 = .ok (.istore 4, 2) := by decide +kernel
theorem dX9_nearestLawful_57 : decode cX9_nearestLawful 57 = .ok (.iload_n 3, 1) := by decide +kernel
theorem dX9_nearestLawful_58 : decode cX9_nearestLawful 58 = .ok (.ifCond .lt 16, 3) := by decide +kernel
theorem dX9_nearestLawful_61 : decode cX9_nearestLawful 61 = .ok (.aload_n 0, 1) := by decide +kernel
theorem dX9_nearestLawful_62 : decode cX9_nearestLawful 62 = .ok (.getfield 33, 3) := by decide +kernel
theorem dX9_nearestLawful_65 : decode cX9_nearestLawful 65 = .ok (.iload_n 3, 1) := by decide +kernel
theorem dX9_nearestLawful_66 : decode cX9_nearestLawful 66 = .ok (.invokevirtual 43, 3) := by decide +kernel
theorem dX9_nearestLawful_69 : decode cX9_nearestLawful 69 = .ok (.ifCond .lt 5, 3) := by decide +kernel
theorem dX9_nearestLawful_72 : decode cX9_nearestLawful 72 = .ok (.iload_n 3, 1) := by decide +kernel
theorem dX9_nearestLawful_73 : decode cX9_nearestLawful 73 = .ok (.ireturn, 1) := by decide +kernel
theorem dX9_nearestLawful_74 : decode cX9_nearestLawful 74 = .ok (.iload 4, 2) := by decide +kernel
theorem dX9_nearestLawful_76 : decode cX9_nearestLawful 76 = .ok (.ldc 51, 2) := by decide +kernel
theorem dX9_nearestLawful_78 : decode cX9_nearestLawful 78 = .ok (.if_icmp .gt 18, 3) := by decide +kernel
theorem dX9_nearestLawful_81 : decode cX9_nearestLawful 81 = .ok (.aload_n 0, 1) := by decide +kernel
theorem dX9_nearestLawful_82 : decode cX9_nearestLawful 82 = .ok (.getfield 33, 3) := by decide +kernel
theorem dX9_nearestLawful_85 : decode cX9_nearestLawful 85 = .ok (.iload 4, 2) := by decide +kernel
theorem dX9_nearestLawful_87 : decode cX9_nearestLawful 87 = .ok (.invokevirtual 43, 3) := by decide +kernel
theorem dX9_nearestLawful_90 : decode cX9_nearestLawful 90 = .ok (.ifCond .lt 6, 3) := by decide +kernel
theorem dX9_nearestLawful_93 : decode cX9_nearestLawful 93 = .ok (.iload 4, 2) := by decide +kernel
theorem dX9_nearestLawful_95 : decode cX9_nearestLawful 95 = .ok (.ireturn, 1) := by decide +kernel
theorem dX9_nearestLawful_96 : decode cX9_nearestLawful 96 = .ok (.iinc 2 1, 3) := by decide +kernel
theorem dX9_nearestLawful_99 : decode cX9_nearestLawful 99 = .ok (.goto (-68), 3) := by decide +kernel
theorem dX9_nearestLawful_102 : decode cX9_nearestLawful 102 = .ok (.bipush (-2), 2) := by decide +kernel
theorem dX9_nearestLawful_104 : decode cX9_nearestLawful 104 = .ok (.ireturn, 1) := by decide +kernel
theorem dX9_claimHours_0 : decode cX9_claimHours 0 = .ok (.aload_n 0, 1) := by decide +kernel
theorem dX9_claimHours_1 : decode cX9_claimHours 1 = .ok (.iload_n 1, 1) := by decide +kernel
theorem dX9_claimHours_2 : decode cX9_claimHours 2 = .ok (.invokevirtual 47, 3) := by decide +kernel
theorem dX9_claimHours_5 : decode cX9_claimHours 5 = .ok (.ifCond .ne 5, 3) := by decide +kernel
theorem dX9_claimHours_8 : decode cX9_claimHours 8 = .ok (.iconst (-1), 1) := by decide +kernel
theorem dX9_claimHours_9 : decode cX9_claimHours 9 = .ok (.ireturn, 1) := by decide +kernel
theorem dX9_claimHours_10 : decode cX9_claimHours 10 = .ok (.aload_n 0, 1) := by decide +kernel
theorem dX9_claimHours_11 : decode cX9_claimHours 11 = .ok (.getfield 33, 3) := by decide +kernel
theorem dX9_claimHours_14 : decode cX9_claimHours 14 = .ok (.aload_n 0, 1) := by decide +kernel
theorem dX9_claimHours_15 : decode cX9_claimHours 15 = .ok (.getfield 9, 3) := by decide +kernel
theorem dX9_claimHours_18 : decode cX9_claimHours 18 = .ok (.iload_n 1, 1) := by decide +kernel
theorem dX9_claimHours_19 : decode cX9_claimHours 19 = .ok (.iaload, 1) := by decide +kernel
theorem dX9_claimHours_20 : decode cX9_claimHours 20 = .ok (.aload_n 0, 1) := by decide +kernel
theorem dX9_claimHours_21 : decode cX9_claimHours 21 = .ok (.getfield 15, 3) := by decide +kernel
theorem dX9_claimHours_24 : decode cX9_claimHours 24 = .ok (.iload_n 1, 1) := by decide +kernel
theorem dX9_claimHours_25 : decode cX9_claimHours 25 = .ok (.iaload, 1) := by decide +kernel
theorem dX9_claimHours_26 : decode cX9_claimHours 26 = .ok (.invokevirtual 37, 3) := by decide +kernel
theorem dX9_claimHours_29 : decode cX9_claimHours 29 = .ok (.aload_n 0, 1) := by decide +kernel
theorem dX9_claimHours_30 : decode cX9_claimHours 30 = .ok (.getfield 33, 3) := by decide +kernel
theorem dX9_claimHours_33 : decode cX9_claimHours 33 = .ok (.aload_n 0, 1) := by decide +kernel
theorem dX9_claimHours_34 : decode cX9_claimHours 34 = .ok (.getfield 18, 3) := by decide +kernel
theorem dX9_claimHours_37 : decode cX9_claimHours 37 = .ok (.iload_n 1, 1) := by decide +kernel
theorem dX9_claimHours_38 : decode cX9_claimHours 38 = .ok (.iaload, 1) := by decide +kernel
theorem dX9_claimHours_39 : decode cX9_claimHours 39 = .ok (.invokevirtual 43, 3) := by decide +kernel
theorem dX9_claimHours_42 : decode cX9_claimHours 42 = .ok (.ifCond .ge 6, 3) := by decide +kernel
theorem dX9_claimHours_45 : decode cX9_claimHours 45 = .ok (.bipush (-5), 2) := by decide +kernel
theorem dX9_claimHours_47 : decode cX9_claimHours 47 = .ok (.ireturn, 1) := by decide +kernel
theorem dX9_claimHours_48 : decode cX9_claimHours 48 = .ok (.aload_n 0, 1) := by decide +kernel
theorem dX9_claimHours_49 : decode cX9_claimHours 49 = .ok (.getfield 18, 3) := by decide +kernel
theorem dX9_claimHours_52 : decode cX9_claimHours 52 = .ok (.iload_n 1, 1) := by decide +kernel
theorem dX9_claimHours_53 : decode cX9_claimHours 53 = .ok (.iaload, 1) := by decide +kernel
theorem dX9_claimHours_54 : decode cX9_claimHours 54 = .ok (.aload_n 0, 1) := by decide +kernel
theorem dX9_claimHours_55 : decode cX9_claimHours 55 = .ok (.getfield 29, 3) := by decide +kernel
theorem dX9_claimHours_58 : decode cX9_claimHours 58 = .ok (.aload_n 0, 1) := by decide +kernel
theorem dX9_claimHours_59 : decode cX9_claimHours 59 = .ok (.getfield 9, 3) := by decide +kernel
theorem dX9_claimHours_62 : decode cX9_claimHours 62 = .ok (.iload_n 1, 1) := by decide +kernel
theorem dX9_claimHours_63 : decode cX9_claimHours 63 = .ok (.iaload, 1) := by decide +kernel
theorem dX9_claimHours_64 : decode cX9_claimHours 64 = .ok (.invokevirtual 52, 3) := by decide +kernel
theorem dX9_claimHours_67 : decode cX9_claimHours 67 = .ok (.iadd, 1) := by decide +kernel
theorem dX9_claimHours_68 : decode cX9_claimHours 68 = .ok (.istore_n 3, 1) := by decide +kernel
theorem dX9_claimHours_69 : decode cX9_claimHours 69 = .ok (.aload_n 0, 1) := by decide +kernel
theorem dX9_claimHours_70 : decode cX9_claimHours 70 = .ok (.getfield 25, 3) := by decide +kernel
theorem dX9_claimHours_73 : decode cX9_claimHours 73 = .ok (.aload_n 0, 1) := by decide +kernel
theorem dX9_claimHours_74 : decode cX9_claimHours 74 = .ok (.getfield 15, 3) := by decide +kernel
theorem dX9_claimHours_77 : decode cX9_claimHours 77 = .ok (.iload_n 1, 1) := by decide +kernel
theorem dX9_claimHours_78 : decode cX9_claimHours 78 = .ok (.iaload, 1) := by decide +kernel
theorem dX9_claimHours_79 : decode cX9_claimHours 79 = .ok (.iload_n 3, 1) := by decide +kernel
theorem dX9_claimHours_80 : decode cX9_claimHours 80 = .ok (.iload_n 2, 1) := by decide +kernel
theorem dX9_claimHours_81 : decode cX9_claimHours 81 = .ok (.aload_n 0, 1) := by decide +kernel
theorem dX9_claimHours_82 : decode cX9_claimHours 82 = .ok (.getfield 33, 3) := by decide +kernel
theorem dX9_claimHours_85 : decode cX9_claimHours 85 = .ok (.aload_n 0, 1) := by decide +kernel
theorem dX9_claimHours_86 : decode cX9_claimHours 86 = .ok (.getfield 18, 3) := by decide +kernel
theorem dX9_claimHours_89 : decode cX9_claimHours 89 = .ok (.iload_n 1, 1) := by decide +kernel
theorem dX9_claimHours_90 : decode cX9_claimHours 90 = .ok (.iaload, 1) := by decide +kernel
theorem dX9_claimHours_91 : decode cX9_claimHours 91 = .ok (.invokevirtual 57, 3) := by decide +kernel
theorem dX9_claimHours_94 : decode cX9_claimHours 94 = .ok (.invokevirtual 60, 3) := by decide +kernel
theorem dX9_claimHours_97 : decode cX9_claimHours 97 = .ok (.ireturn, 1) := by decide +kernel
theorem dX10_init_0 : decode cX10_init 0 = .ok (.aload_n 0, 1) := by decide +kernel
theorem dX10_init_1 : decode cX10_init 1 = .ok (.invokespecial 1, 3) := by decide +kernel
theorem dX10_init_4 : decode cX10_init 4 = .ok (.aload_n 0, 1) := by decide +kernel
theorem dX10_init_5 : decode cX10_init 5 = .ok (.new 7, 3) := by decide +kernel
theorem dX10_init_8 : decode cX10_init 8 = .ok (.dup, 1) := by decide +kernel
theorem dX10_init_9 : decode cX10_init 9 = .ok (.invokespecial 9, 3) := by decide +kernel
theorem dX10_init_12 : decode cX10_init 12 = .ok (.putfield 10, 3) := by decide +kernel
theorem dX10_init_15 : decode cX10_init 15 = .ok (.aload_n 0, 1) := by decide +kernel
theorem dX10_init_16 : decode cX10_init 16 = .ok (.new 16, 3) := by decide +kernel
theorem dX10_init_19 : decode cX10_init 19 = .ok (.dup, 1) := by decide +kernel
theorem dX10_init_20 : decode cX10_init 20 = .ok (.invokespecial 18, 3) := by decide +kernel
theorem dX10_init_23 : decode cX10_init 23 = .ok (.putfield 19, 3) := by decide +kernel
theorem dX10_init_26 : decode cX10_init 26 = .ok (.aload_n 0, 1) := by decide +kernel
theorem dX10_init_27 : decode cX10_init 27 = .ok (.new 23, 3) := by decide +kernel
theorem dX10_init_30 : decode cX10_init 30 = .ok (.dup, 1) := by decide +kernel
theorem dX10_init_31 : decode cX10_init 31 = .ok (.invokespecial 25, 3) := by decide +kernel
theorem dX10_init_34 : decode cX10_init 34 = .ok (.putfield 26, 3) := by decide +kernel
theorem dX10_init_37 : decode cX10_init 37 = .ok (.aload_n 0, 1) := by decide +kernel
theorem dX10_init_38 : decode cX10_init 38 = .ok (.new 30, 3) := by decide +kernel
theorem dX10_init_41 : decode cX10_init 41 = .ok (.dup, 1) := by decide +kernel
theorem dX10_init_42 : decode cX10_init 42 = .ok (.aload_n 0, 1) := by decide +kernel
theorem dX10_init_43 : decode cX10_init 43 = .ok (.getfield 10, 3) := by decide +kernel
theorem dX10_init_46 : decode cX10_init 46 = .ok (.aload_n 0, 1) := by decide +kernel
theorem dX10_init_47 : decode cX10_init 47 = .ok (.getfield 26, 3) := by decide +kernel
theorem dX10_init_50 : decode cX10_init 50 = .ok (.invokespecial 32, 3) := by decide +kernel
theorem dX10_init_53 : decode cX10_init 53 = .ok (.putfield 35, 3) := by decide +kernel
theorem dX10_init_56 : decode cX10_init 56 = .ok (.aload_n 0, 1) := by decide +kernel
theorem dX10_init_57 : decode cX10_init 57 = .ok (.new 39, 3) := by decide +kernel
theorem dX10_init_60 : decode cX10_init 60 = .ok (.dup, 1) := by decide +kernel
theorem dX10_init_61 : decode cX10_init 61 = .ok (.aload_n 0, 1) := by decide +kernel
theorem dX10_init_62 : decode cX10_init 62 = .ok (.getfield 10, 3) := by decide +kernel
theorem dX10_init_65 : decode cX10_init 65 = .ok (.aload_n 0, 1) := by decide +kernel
theorem dX10_init_66 : decode cX10_init 66 = .ok (.getfield 26, 3) := by decide +kernel
theorem dX10_init_69 : decode cX10_init 69 = .ok (.aload_n 0, 1) := by decide +kernel
theorem dX10_init_70 : decode cX10_init 70 = .ok (.getfield 35, 3) := by decide +kernel
theorem dX10_init_73 : decode cX10_init 73 = .ok (.invokespecial 41, 3) := by decide +kernel
theorem dX10_init_76 : decode cX10_init 76 = .ok (.putfield 44, 3) := by decide +kernel
theorem dX10_init_79 : decode cX10_init 79 = .ok (.aload_n 0, 1) := by decide +kernel
theorem dX10_init_80 : decode cX10_init 80 = .ok (.new 48, 3) := by decide +kernel
theorem dX10_init_83 : decode cX10_init 83 = .ok (.dup, 1) := by decide +kernel
theorem dX10_init_84 : decode cX10_init 84 = .ok (.aload_n 0, 1) := by decide +kernel
theorem dX10_init_85 : decode cX10_init 85 = .ok (.getfield 10, 3) := by decide +kernel
theorem dX10_init_88 : decode cX10_init 88 = .ok (.aload_n 0, 1) := by decide +kernel
theorem dX10_init_89 : decode cX10_init 89 = .ok (.getfield 26, 3) := by decide +kernel
theorem dX10_init_92 : decode cX10_init 92 = .ok (.aload_n 0, 1) := by decide +kernel
theorem dX10_init_93 : decode cX10_init 93 = .ok (.getfield 35, 3) := by decide +kernel
theorem dX10_init_96 : decode cX10_init 96 = .ok (.invokespecial 50, 3) := by decide +kernel
theorem dX10_init_99 : decode cX10_init 99 = .ok (.putfield 51, 3) := by decide +kernel
theorem dX10_init_102 : decode cX10_init 102 = .ok (.aload_n 0, 1) := by decide +kernel
theorem dX10_init_103 : decode cX10_init 103 = .ok (.new 55, 3) := by decide +kernel
theorem dX10_init_106 : decode cX10_init 106 = .ok (.dup, 1) := by decide +kernel
theorem dX10_init_107 : decode cX10_init 107 = .ok (.aload_n 0, 1) := by decide +kernel
theorem dX10_init_108 : decode cX10_init 108 = .ok (.getfield 10, 3) := by decide +kernel
theorem dX10_init_111 : decode cX10_init 111 = .ok (.aload_n 0, 1) := by decide +kernel
theorem dX10_init_112 : decode cX10_init 112 = .ok (.getfield 26, 3) := by decide +kernel
theorem dX10_init_115 : decode cX10_init 115 = .ok (.invokespecial 57, 3) := by decide +kernel
theorem dX10_init_118 : decode cX10_init 118 = .ok (.putfield 58, 3) := by decide +kernel
theorem dX10_init_121 : decode cX10_init 121 = .ok (.aload_n 0, 1) := by decide +kernel
theorem dX10_init_122 : decode cX10_init 122 = .ok (.new 62, 3) := by decide +kernel
theorem dX10_init_125 : decode cX10_init 125 = .ok (.dup, 1) := by decide +kernel
theorem dX10_init_126 : decode cX10_init 126 = .ok (.invokespecial 64, 3) := by decide +kernel
theorem dX10_init_129 : decode cX10_init 129 = .ok (.putfield 65, 3) := by decide +kernel
theorem dX10_init_132 : decode cX10_init 132 = .ok (.aload_n 0, 1) := by decide +kernel
theorem dX10_init_133 : decode cX10_init 133 = .ok (.new 69, 3) := by decide +kernel
theorem dX10_init_136 : decode cX10_init 136 = .ok (.dup, 1) := by decide +kernel
theorem dX10_init_137 : decode cX10_init 137 = .ok (.invokespecial 71, 3) := by decide +kernel
theorem dX10_init_140 : decode cX10_init 140 = .ok (.putfield 72, 3) := by decide +kernel
theorem dX10_init_143 : decode cX10_init 143 = .ok (.return_, 1) := by decide +kernel
theorem dX10_moon_0 : decode cX10_moon 0 = .ok (.iload_n 1, 1) := by decide +kernel
theorem dX10_moon_1 : decode cX10_moon 1 = .ok (.iconst 2, 1) := by decide +kernel
theorem dX10_moon_2 : decode cX10_moon 2 = .ok (.if_icmp .lt 14, 3) := by decide +kernel
theorem dX10_moon_5 : decode cX10_moon 5 = .ok (.iload_n 1, 1) := by decide +kernel
theorem dX10_moon_6 : decode cX10_moon 6 = .ok (.sipush 999, 3) := by decide +kernel
theorem dX10_moon_9 : decode cX10_moon 9 = .ok (.if_icmp .gt 7, 3) := by decide +kernel
theorem dX10_moon_12 : decode cX10_moon 12 = .ok (.iload_n 2, 1) := by decide +kernel
theorem dX10_moon_13 : decode cX10_moon 13 = .ok (.ifCond .ge 5, 3) := by decide +kernel
theorem dX10_moon_16 : decode cX10_moon 16 = .ok (.iconst (-1), 1) := by decide +kernel
theorem dX10_moon_17 : decode cX10_moon 17 = .ok (.ireturn, 1) := by decide +kernel
theorem dX10_moon_18 : decode cX10_moon 18 = .ok (.iload_n 2, 1) := by decide +kernel
theorem dX10_moon_19 : decode cX10_moon 19 = .ok (.sipush 1000, 3) := by decide +kernel
theorem dX10_moon_22 : decode cX10_moon 22 = .ok (.idiv, 1) := by decide +kernel
theorem dX10_moon_23 : decode cX10_moon 23 = .ok (.iload_n 1, 1) := by decide +kernel
theorem dX10_moon_24 : decode cX10_moon 24 = .ok (.if_icmp .gt 12, 3) := by decide +kernel
theorem dX10_moon_27 : decode cX10_moon 27 = .ok (.iload_n 2, 1) := by decide +kernel
theorem dX10_moon_28 : decode cX10_moon 28 = .ok (.sipush 1000, 3) := by decide +kernel
theorem dX10_moon_31 : decode cX10_moon 31 = .ok (.irem, 1) := by decide +kernel
theorem dX10_moon_32 : decode cX10_moon 32 = .ok (.iload_n 1, 1) := by decide +kernel
theorem dX10_moon_33 : decode cX10_moon 33 = .ok (.if_icmp .lt 5, 3) := by decide +kernel
theorem dX10_moon_36 : decode cX10_moon 36 = .ok (.iconst (-1), 1) := by decide +kernel
theorem dX10_moon_37 : decode cX10_moon 37 = .ok (.ireturn, 1) := by decide +kernel
theorem dX10_moon_38 : decode cX10_moon 38 = .ok (.aload_n 0, 1) := by decide +kernel
theorem dX10_moon_39 : decode cX10_moon 39 = .ok (.getfield 10, 3) := by decide +kernel
theorem dX10_moon_42 : decode cX10_moon 42 = .ok (.iload_n 1, 1) := by decide +kernel
theorem dX10_moon_43 : decode cX10_moon 43 = .ok (.iload_n 2, 1) := by decide +kernel
theorem dX10_moon_44 : decode cX10_moon 44 = .ok (.sipush 1000, 3) := by decide +kernel
theorem dX10_moon_47 : decode cX10_moon 47 = .ok (.idiv, 1) := by decide +kernel
theorem dX10_moon_48 : decode cX10_moon 48 = .ok (.iload_n 2, 1) := by decide +kernel
theorem dX10_moon_49 : decode cX10_moon 49 = .ok (.sipush 1000, 3) := by decide +kernel
theorem dX10_moon_52 : decode cX10_moon 52 = .ok (.irem, 1) := by decide +kernel
theorem dX10_moon_53 : decode cX10_moon 53 = .ok (.invokevirtual 76, 3) := by decide +kernel
theorem dX10_moon_56 : decode cX10_moon 56 = .ok (.ireturn, 1) := by decide +kernel
theorem dX10_valley_0 : decode cX10_valley 0 = .ok (.aload_n 0, 1) := by decide +kernel
theorem dX10_valley_1 : decode cX10_valley 1 = .ok (.getfield 10, 3) := by decide +kernel
theorem dX10_valley_4 : decode cX10_valley 4 = .ok (.invokevirtual 80, 3) := by decide +kernel
theorem dX10_valley_7 : decode cX10_valley 7 = .ok (.ireturn, 1) := by decide +kernel
theorem dX10_hills_0 : decode cX10_hills 0 = .ok (.iload_n 1, 1) := by decide +kernel
theorem dX10_hills_1 : decode cX10_hills 1 = .ok (.ifCond .lt 42, 3) := by decide +kernel
theorem dX10_hills_4 : decode cX10_hills 4 = .ok (.aload_n 0, 1) := by decide +kernel
theorem dX10_hills_5 : decode cX10_hills 5 = .ok (.getfield 10, 3) := by decide +kernel
theorem dX10_hills_8 : decode cX10_hills 8 = .ok (.iload_n 1, 1) := by decide +kernel
theorem dX10_hills_9 : decode cX10_hills 9 = .ok (.bipush 10, 2) := by decide +kernel
theorem dX10_hills_11 : decode cX10_hills 11 = .ok (.idiv, 1) := by decide +kernel
theorem dX10_hills_12 : decode cX10_hills 12 = .ok (.invokevirtual 84, 3) := by decide +kernel
theorem dX10_hills_15 : decode cX10_hills 15 = .ok (.ifCond .eq 28, 3) := by decide +kernel
theorem dX10_hills_18 : decode cX10_hills 18 = .ok (.aload_n 0, 1) := by decide +kernel
theorem dX10_hills_19 : decode cX10_hills 19 = .ok (.getfield 10, 3) := by decide +kernel
theorem dX10_hills_22 : decode cX10_hills 22 = .ok (.iload_n 1, 1) := by decide +kernel
theorem dX10_hills_23 : decode cX10_hills 23 = .ok (.bipush 10, 2) := by decide +kernel
theorem dX10_hills_25 : decode cX10_hills 25 = .ok (.irem, 1) := by decide +kernel
theorem dX10_hills_26 : decode cX10_hills 26 = .ok (.invokevirtual 88, 3) := by decide +kernel
theorem dX10_hills_29 : decode cX10_hills 29 = .ok (.ifCond .eq 14, 3) := by decide +kernel
theorem dX10_hills_32 : decode cX10_hills 32 = .ok (.iload_n 2, 1) := by decide +kernel
theorem dX10_hills_33 : decode cX10_hills 33 = .ok (.ifCond .lt 10, 3) := by decide +kernel
theorem dX10_hills_36 : decode cX10_hills 36 = .ok (.iload_n 2, 1) := by decide +kernel
theorem dX10_hills_37 : decode cX10_hills 37 = .ok (.sipush 9999, 3) := by decide +kernel
theorem dX10_hills_40 : decode cX10_hills 40 = .ok (.if_icmp .le 5, 3) := by decide +kernel
theorem dX10_hills_43 : decode cX10_hills 43 = .ok (.iconst (-1), 1) := by decide +kernel
theorem dX10_hills_44 : decode cX10_hills 44 = .ok (.ireturn, 1) := by decide +kernel
theorem dX10_hills_45 : decode cX10_hills 45 = .ok (.aload_n 0, 1) := by decide +kernel
theorem dX10_hills_46 : decode cX10_hills 46 = .ok (.getfield 10, 3) := by decide +kernel
theorem dX10_hills_49 : decode cX10_hills 49 = .ok (.iload_n 1, 1) := by decide +kernel
theorem dX10_hills_50 : decode cX10_hills 50 = .ok (.bipush 10, 2) := by decide +kernel
theorem dX10_hills_52 : decode cX10_hills 52 = .ok (.idiv, 1) := by decide +kernel
theorem dX10_hills_53 : decode cX10_hills 53 = .ok (.iload_n 1, 1) := by decide +kernel
theorem dX10_hills_54 : decode cX10_hills 54 = .ok (.bipush 10, 2) := by decide +kernel
theorem dX10_hills_56 : decode cX10_hills 56 = .ok (.irem, 1) := by decide +kernel
theorem dX10_hills_57 : decode cX10_hills 57 = .ok (.iload_n 2, 1) := by decide +kernel
theorem dX10_hills_58 : decode cX10_hills 58 = .ok (.invokevirtual 91, 3) := by decide +kernel
theorem dX10_hills_61 : decode cX10_hills 61 = .ok (.ireturn, 1) := by decide +kernel
theorem dX10_way_0 : decode cX10_way 0 = .ok (.iload_n 1, 1) := by decide +kernel
theorem dX10_way_1 : decode cX10_way 1 = .ok (.ifCond .lt 42, 3) := by decide +kernel
theorem dX10_way_4 : decode cX10_way 4 = .ok (.aload_n 0, 1) := by decide +kernel
theorem dX10_way_5 : decode cX10_way 5 = .ok (.getfield 10, 3) := by decide +kernel
theorem dX10_way_8 : decode cX10_way 8 = .ok (.iload_n 1, 1) := by decide +kernel
theorem dX10_way_9 : decode cX10_way 9 = .ok (.bipush 10, 2) := by decide +kernel
theorem dX10_way_11 : decode cX10_way 11 = .ok (.idiv, 1) := by decide +kernel
theorem dX10_way_12 : decode cX10_way 12 = .ok (.invokevirtual 84, 3) := by decide +kernel
theorem dX10_way_15 : decode cX10_way 15 = .ok (.ifCond .eq 28, 3) := by decide +kernel
theorem dX10_way_18 : decode cX10_way 18 = .ok (.aload_n 0, 1) := by decide +kernel
theorem dX10_way_19 : decode cX10_way 19 = .ok (.getfield 10, 3) := by decide +kernel
theorem dX10_way_22 : decode cX10_way 22 = .ok (.iload_n 1, 1) := by decide +kernel
theorem dX10_way_23 : decode cX10_way 23 = .ok (.bipush 10, 2) := by decide +kernel
theorem dX10_way_25 : decode cX10_way 25 = .ok (.irem, 1) := by decide +kernel
theorem dX10_way_26 : decode cX10_way 26 = .ok (.invokevirtual 84, 3) := by decide +kernel
theorem dX10_way_29 : decode cX10_way 29 = .ok (.ifCond .eq 14, 3) := by decide +kernel
theorem dX10_way_32 : decode cX10_way 32 = .ok (.iload_n 1, 1) := by decide +kernel
theorem dX10_way_33 : decode cX10_way 33 = .ok (.bipush 10, 2) := by decide +kernel
theorem dX10_way_35 : decode cX10_way 35 = .ok (.idiv, 1) := by decide +kernel
theorem dX10_way_36 : decode cX10_way 36 = .ok (.iload_n 1, 1) := by decide +kernel
theorem dX10_way_37 : decode cX10_way 37 = .ok (.bipush 10, 2) := by decide +kernel
theorem dX10_way_39 : decode cX10_way 39 = .ok (.irem, 1) := by decide +kernel
theorem dX10_way_40 : decode cX10_way 40 = .ok (.if_icmp .ne 5, 3) := by decide +kernel
theorem dX10_way_43 : decode cX10_way 43 = .ok (.iconst (-1), 1) := by decide +kernel
theorem dX10_way_44 : decode cX10_way 44 = .ok (.ireturn, 1) := by decide +kernel
theorem dX10_way_45 : decode cX10_way 45 = .ok (.iload_n 2, 1) := by decide +kernel
theorem dX10_way_46 : decode cX10_way 46 = .ok (.ifCond .lt 9, 3) := by decide +kernel
theorem dX10_way_49 : decode cX10_way 49 = .ok (.iload_n 2, 1) := by decide +kernel
theorem dX10_way_50 : decode cX10_way 50 = .ok (.bipush 99, 2) := by decide +kernel
theorem dX10_way_52 : decode cX10_way 52 = .ok (.if_icmp .le 7, 3) := by decide +kernel
theorem dX10_way_55 : decode cX10_way 55 = .ok (.iconst (-1), 1) := by decide +kernel
theorem dX10_way_56 : decode cX10_way 56 = .ok (.goto 19, 3) := by decide +kernel
theorem dX10_way_59 : decode cX10_way 59 = .ok (.aload_n 0, 1) := by decide +kernel
theorem dX10_way_60 : decode cX10_way 60 = .ok (.getfield 10, 3) := by decide +kernel
theorem dX10_way_63 : decode cX10_way 63 = .ok (.iload_n 1, 1) := by decide +kernel
theorem dX10_way_64 : decode cX10_way 64 = .ok (.bipush 10, 2) := by decide +kernel
theorem dX10_way_66 : decode cX10_way 66 = .ok (.idiv, 1) := by decide +kernel
theorem dX10_way_67 : decode cX10_way 67 = .ok (.iload_n 1, 1) := by decide +kernel
theorem dX10_way_68 : decode cX10_way 68 = .ok (.bipush 10, 2) := by decide +kernel
theorem dX10_way_70 : decode cX10_way 70 = .ok (.irem, 1) := by decide +kernel
theorem dX10_way_71 : decode cX10_way 71 = .ok (.iload_n 2, 1) := by decide +kernel
theorem dX10_way_72 : decode cX10_way 72 = .ok (.invokevirtual 94, 3) := by decide +kernel
theorem dX10_way_75 : decode cX10_way 75 = .ok (.ireturn, 1) := by decide +kernel
theorem dX10_mend_0 : decode cX10_mend 0 = .ok (.aload_n 0, 1) := by decide +kernel
theorem dX10_mend_1 : decode cX10_mend 1 = .ok (.getfield 58, 3) := by decide +kernel
theorem dX10_mend_4 : decode cX10_mend 4 = .ok (.iload_n 1, 1) := by decide +kernel
theorem dX10_mend_5 : decode cX10_mend 5 = .ok (.iload_n 2, 1) := by decide +kernel
theorem dX10_mend_6 : decode cX10_mend 6 = .ok (.iload_n 3, 1) := by decide +kernel
theorem dX10_mend_7 : decode cX10_mend 7 = .ok (.invokevirtual 97, 3) := by decide +kernel
theorem dX10_mend_10 : decode cX10_mend 10 = .ok (.ifCond .ne 5, 3) := by decide +kernel
theorem dX10_mend_13 : decode cX10_mend 13 = .ok (.iconst (-1), 1) := by decide +kernel
theorem dX10_mend_14 : decode cX10_mend 14 = .ok (.ireturn, 1) := by decide +kernel
theorem dX10_mend_15 : decode cX10_mend 15 = .ok (.aload_n 0, 1) := by decide +kernel
theorem dX10_mend_16 : decode cX10_mend 16 = .ok (.getfield 58, 3) := by decide +kernel
theorem dX10_mend_19 : decode cX10_mend 19 = .ok (.iload_n 1, 1) := by decide +kernel
theorem dX10_mend_20 : decode cX10_mend 20 = .ok (.iload_n 2, 1) := by decide +kernel
theorem dX10_mend_21 : decode cX10_mend 21 = .ok (.iload_n 3, 1) := by decide +kernel
theorem dX10_mend_22 : decode cX10_mend 22 = .ok (.invokevirtual 101, 3) := by decide +kernel
theorem dX10_mend_25 : decode cX10_mend 25 = .ok (.ireturn, 1) := by decide +kernel
theorem dX10_feed_0 : decode cX10_feed 0 = .ok (.iload_n 1, 1) := by decide +kernel
theorem dX10_feed_1 : decode cX10_feed 1 = .ok (.ifCond .lt 10, 3) := by decide +kernel
theorem dX10_feed_4 : decode cX10_feed 4 = .ok (.iload_n 1, 1) := by decide +kernel
theorem dX10_feed_5 : decode cX10_feed 5 = .ok (.sipush 255, 3) := by decide +kernel
theorem dX10_feed_8 : decode cX10_feed 8 = .ok (.if_icmp .le 7, 3) := by decide +kernel
theorem dX10_feed_11 : decode cX10_feed 11 = .ok (.iconst (-1), 1) := by decide +kernel
theorem dX10_feed_12 : decode cX10_feed 12 = .ok (.goto 11, 3) := by decide +kernel
theorem dX10_feed_15 : decode cX10_feed 15 = .ok (.aload_n 0, 1) := by decide +kernel
theorem dX10_feed_16 : decode cX10_feed 16 = .ok (.getfield 19, 3) := by decide +kernel
theorem dX10_feed_19 : decode cX10_feed 19 = .ok (.iload_n 1, 1) := by decide +kernel
theorem dX10_feed_20 : decode cX10_feed 20 = .ok (.invokevirtual 104, 3) := by decide +kernel
theorem dX10_feed_23 : decode cX10_feed 23 = .ok (.ireturn, 1) := by decide +kernel
theorem dX10_law_0 : decode cX10_law 0 = .ok (.aload_n 0, 1) := by decide +kernel
theorem dX10_law_1 : decode cX10_law 1 = .ok (.getfield 10, 3) := by decide +kernel
theorem dX10_law_4 : decode cX10_law 4 = .ok (.iload_n 1, 1) := by decide +kernel
theorem dX10_law_5 : decode cX10_law 5 = .ok (.invokevirtual 88, 3) := by decide +kernel
theorem dX10_law_8 : decode cX10_law 8 = .ok (.ifCond .ne 5, 3) := by decide +kernel
theorem dX10_law_11 : decode cX10_law 11 = .ok (.iconst (-1), 1) := by decide +kernel
theorem dX10_law_12 : decode cX10_law 12 = .ok (.ireturn, 1) := by decide +kernel
theorem dX10_law_13 : decode cX10_law 13 = .ok (.aload_n 0, 1) := by decide +kernel
theorem dX10_law_14 : decode cX10_law 14 = .ok (.getfield 19, 3) := by decide +kernel
theorem dX10_law_17 : decode cX10_law 17 = .ok (.invokevirtual 108, 3) := by decide +kernel
theorem dX10_law_20 : decode cX10_law 20 = .ok (.istore_n 2, 1) := by decide +kernel
theorem dX10_law_21 : decode cX10_law 21 = .ok (.iload_n 2, 1) := by decide +kernel
theorem dX10_law_22 : decode cX10_law 22 = .ok (.ifCond .lt 8, 3) := by decide +kernel
theorem dX10_law_25 : decode cX10_law 25 = .ok (.bipush (-100), 2) := by decide +kernel
theorem dX10_law_27 : decode cX10_law 27 = .ok (.iload_n 2, 1) := by decide +kernel
theorem dX10_law_28 : decode cX10_law 28 = .ok (.isub, 1) := by decide +kernel
theorem dX10_law_29 : decode cX10_law 29 = .ok (.ireturn, 1) := by decide +kernel
theorem dX10_law_30 : decode cX10_law 30 = .ok (.aload_n 0, 1) := by decide +kernel
theorem dX10_law_31 : decode cX10_law 31 = .ok (.getfield 10, 3) := by decide +kernel
theorem dX10_law_34 : decode cX10_law 34 = .ok (.iload_n 1, 1) := by decide +kernel
theorem dX10_law_35 : decode cX10_law 35 = .ok (.aload_n 0, 1) := by decide +kernel
theorem dX10_law_36 : decode cX10_law 36 = .ok (.getfield 19, 3) := by decide +kernel
theorem dX10_law_39 : decode cX10_law 39 = .ok (.invokevirtual 111, 3) := by decide +kernel
theorem dX10_law_42 : decode cX10_law 42 = .ok (.iconst 1, 1) := by decide +kernel
theorem dX10_law_43 : decode cX10_law 43 = .ok (.ireturn, 1) := by decide +kernel
theorem dX10_state_0 : decode cX10_state 0 = .ok (.aload_n 0, 1) := by decide +kernel
theorem dX10_state_1 : decode cX10_state 1 = .ok (.iload_n 1, 1) := by decide +kernel
theorem dX10_state_2 : decode cX10_state 2 = .ok (.iload_n 2, 1) := by decide +kernel
theorem dX10_state_3 : decode cX10_state 3 = .ok (.invokevirtual 115, 3) := by decide +kernel
theorem dX10_state_6 : decode cX10_state 6 = .ok (.ifCond .eq 15, 3) := by decide +kernel
theorem dX10_state_9 : decode cX10_state 9 = .ok (.aload_n 0, 1) := by decide +kernel
theorem dX10_state_10 : decode cX10_state 10 = .ok (.getfield 10, 3) := by decide +kernel
theorem dX10_state_13 : decode cX10_state 13 = .ok (.iload_n 1, 1) := by decide +kernel
theorem dX10_state_14 : decode cX10_state 14 = .ok (.iload_n 2, 1) := by decide +kernel
theorem dX10_state_15 : decode cX10_state 15 = .ok (.invokevirtual 119, 3) := by decide +kernel
theorem dX10_state_18 : decode cX10_state 18 = .ok (.goto 4, 3) := by decide +kernel
theorem dX10_state_21 : decode cX10_state 21 = .ok (.iconst (-1), 1) := by decide +kernel
theorem dX10_state_22 : decode cX10_state 22 = .ok (.ireturn, 1) := by decide +kernel
theorem dX10_deed_0 : decode cX10_deed 0 = .ok (.iload_n 1, 1) := by decide +kernel
theorem dX10_deed_1 : decode cX10_deed 1 = .ok (.ifCond .lt 33, 3) := by decide +kernel
theorem dX10_deed_4 : decode cX10_deed 4 = .ok (.iload_n 2, 1) := by decide +kernel
theorem dX10_deed_5 : decode cX10_deed 5 = .ok (.ifCond .lt 29, 3) := by decide +kernel
theorem dX10_deed_8 : decode cX10_deed 8 = .ok (.aload_n 0, 1) := by decide +kernel
theorem dX10_deed_9 : decode cX10_deed 9 = .ok (.getfield 26, 3) := by decide +kernel
theorem dX10_deed_12 : decode cX10_deed 12 = .ok (.iload_n 1, 1) := by decide +kernel
theorem dX10_deed_13 : decode cX10_deed 13 = .ok (.bipush 100, 2) := by decide +kernel
theorem dX10_deed_15 : decode cX10_deed 15 = .ok (.idiv, 1) := by decide +kernel
theorem dX10_deed_16 : decode cX10_deed 16 = .ok (.iload_n 1, 1) := by decide +kernel
theorem dX10_deed_17 : decode cX10_deed 17 = .ok (.bipush 100, 2) := by decide +kernel
theorem dX10_deed_19 : decode cX10_deed 19 = .ok (.irem, 1) := by decide +kernel
theorem dX10_deed_20 : decode cX10_deed 20 = .ok (.iload_n 2, 1) := by decide +kernel
theorem dX10_deed_21 : decode cX10_deed 21 = .ok (.bipush 10, 2) := by decide +kernel
theorem dX10_deed_23 : decode cX10_deed 23 = .ok (.idiv, 1) := by decide +kernel
theorem dX10_deed_24 : decode cX10_deed 24 = .ok (.iload_n 2, 1) := by decide +kernel
theorem dX10_deed_25 : decode cX10_deed 25 = .ok (.bipush 10, 2) := by decide +kernel
theorem dX10_deed_27 : decode cX10_deed 27 = .ok (.irem, 1) := by decide +kernel
theorem dX10_deed_28 : decode cX10_deed 28 = .ok (.invokevirtual 123, 3) := by decide +kernel
theorem dX10_deed_31 : decode cX10_deed 31 = .ok (.ifCond .ne 5, 3) := by decide +kernel
theorem dX10_deed_34 : decode cX10_deed 34 = .ok (.iconst (-1), 1) := by decide +kernel
theorem dX10_deed_35 : decode cX10_deed 35 = .ok (.ireturn, 1) := by decide +kernel
theorem dX10_deed_36 : decode cX10_deed 36 = .ok (.aload_n 0, 1) := by decide +kernel
theorem dX10_deed_37 : decode cX10_deed 37 = .ok (.getfield 26, 3) := by decide +kernel
theorem dX10_deed_40 : decode cX10_deed 40 = .ok (.iload_n 1, 1) := by decide +kernel
theorem dX10_deed_41 : decode cX10_deed 41 = .ok (.bipush 100, 2) := by decide +kernel
theorem dX10_deed_43 : decode cX10_deed 43 = .ok (.idiv, 1) := by decide +kernel
theorem dX10_deed_44 : decode cX10_deed 44 = .ok (.iload_n 1, 1) := by decide +kernel
theorem dX10_deed_45 : decode cX10_deed 45 = .ok (.bipush 100, 2) := by decide +kernel
theorem dX10_deed_47 : decode cX10_deed 47 = .ok (.irem, 1) := by decide +kernel
theorem dX10_deed_48 : decode cX10_deed 48 = .ok (.iload_n 2, 1) := by decide +kernel
theorem dX10_deed_49 : decode cX10_deed 49 = .ok (.bipush 10, 2) := by decide +kernel
theorem dX10_deed_51 : decode cX10_deed 51 = .ok (.idiv, 1) := by decide +kernel
theorem dX10_deed_52 : decode cX10_deed 52 = .ok (.iload_n 2, 1) := by decide +kernel
theorem dX10_deed_53 : decode cX10_deed 53 = .ok (.bipush 10, 2) := by decide +kernel
theorem dX10_deed_55 : decode cX10_deed 55 = .ok (.irem, 1) := by decide +kernel
theorem dX10_deed_56 : decode cX10_deed 56 = .ok (.invokevirtual 126, 3) := by decide +kernel
theorem dX10_deed_59 : decode cX10_deed 59 = .ok (.ireturn, 1) := by decide +kernel
theorem dX10_deeds_0 : decode cX10_deeds 0 = .ok (.aload_n 0, 1) := by decide +kernel
theorem dX10_deeds_1 : decode cX10_deeds 1 = .ok (.getfield 72, 3) := by decide +kernel
theorem dX10_deeds_4 : decode cX10_deeds 4 = .ok (.iload_n 1, 1) := by decide +kernel
theorem dX10_deeds_5 : decode cX10_deeds 5 = .ok (.invokevirtual 130, 3) := by decide +kernel
theorem dX10_deeds_8 : decode cX10_deeds 8 = .ok (.ifCond .eq 14, 3) := by decide +kernel
theorem dX10_deeds_11 : decode cX10_deeds 11 = .ok (.iload_n 3, 1) := by decide +kernel
theorem dX10_deeds_12 : decode cX10_deeds 12 = .ok (.iconst 1, 1) := by decide +kernel
theorem dX10_deeds_13 : decode cX10_deeds 13 = .ok (.if_icmp .lt 9, 3) := by decide +kernel
theorem dX10_deeds_16 : decode cX10_deeds 16 = .ok (.iload_n 3, 1) := by decide +kernel
theorem dX10_deeds_17 : decode cX10_deeds 17 = .ok (.bipush 12, 2) := by decide +kernel
theorem dX10_deeds_19 : decode cX10_deeds 19 = .ok (.if_icmp .le 5, 3) := by decide +kernel
theorem dX10_deeds_22 : decode cX10_deeds 22 = .ok (.iconst (-1), 1) := by decide +kernel
theorem dX10_deeds_23 : decode cX10_deeds 23 = .ok (.ireturn, 1) := by decide +kernel
theorem dX10_deeds_24 : decode cX10_deeds 24 = .ok (.aload_n 0, 1) := by decide +kernel
theorem dX10_deeds_25 : decode cX10_deeds 25 = .ok (.getfield 72, 3) := by decide +kernel
theorem dX10_deeds_28 : decode cX10_deeds 28 = .ok (.iload_n 1, 1) := by decide +kernel
theorem dX10_deeds_29 : decode cX10_deeds 29 = .ok (.invokevirtual 133, 3) := by decide +kernel
theorem dX10_deeds_32 : decode cX10_deeds 32 = .ok (.ifCond .ne 17, 3) := by decide +kernel
theorem dX10_deeds_35 : decode cX10_deeds 35 = .ok (.aload_n 0, 1) := by decide +kernel
theorem dX10_deeds_36 : decode cX10_deeds 36 = .ok (.getfield 72, 3) := by decide +kernel
theorem dX10_deeds_39 : decode cX10_deeds 39 = .ok (.iload_n 1, 1) := by decide +kernel
theorem dX10_deeds_40 : decode cX10_deeds 40 = .ok (.invokevirtual 136, 3) := by decide +kernel
theorem dX10_deeds_43 : decode cX10_deeds 43 = .ok (.ifCond .ne 6, 3) := by decide +kernel
theorem dX10_deeds_46 : decode cX10_deeds 46 = .ok (.bipush (-12), 2) := by decide +kernel
theorem dX10_deeds_48 : decode cX10_deeds 48 = .ok (.ireturn, 1) := by decide +kernel
theorem dX10_deeds_49 : decode cX10_deeds 49 = .ok (.iconst 0, 1) := by decide +kernel
theorem dX10_deeds_50 : decode cX10_deeds 50 = .ok (.istore 4, 2) := by decide +kernel
theorem dX10_deeds_52 : decode cX10_deeds 52 = .ok (.iload 4, 2) := by decide +kernel
theorem dX10_deeds_54 : decode cX10_deeds 54 = .ok (.iload_n 3, 1) := by decide +kernel
theorem dX10_deeds_55 : decode cX10_deeds 55 = .ok (.if_icmp .ge 22, 3) := by decide +kernel
theorem dX10_deeds_58 : decode cX10_deeds 58 = .ok (.aload_n 0, 1) := by decide +kernel
theorem dX10_deeds_59 : decode cX10_deeds 59 = .ok (.iload_n 1, 1) := by decide +kernel
theorem dX10_deeds_60 : decode cX10_deeds 60 = .ok (.iload_n 2, 1) := by decide +kernel
theorem dX10_deeds_61 : decode cX10_deeds 61 = .ok (.iconst 4, 1) := by decide +kernel
theorem dX10_deeds_62 : decode cX10_deeds 62 = .ok (.iload 4, 2) := by decide +kernel
theorem dX10_deeds_64 : decode cX10_deeds 64 = .ok (.imul, 1) := by decide +kernel
theorem dX10_deeds_65 : decode cX10_deeds 65 = .ok (.invokevirtual 139, 3) := by decide +kernel
theorem dX10_deeds_68 : decode cX10_deeds 68 = .ok (.ifCond .eq 9, 3) := by decide +kernel
theorem dX10_deeds_71 : decode cX10_deeds 71 = .ok (.iinc 4 1, 3) := by decide +kernel
theorem dX10_deeds_74 : decode cX10_deeds 74 = .ok (.goto (-22), 3) := by decide +kernel
theorem dX10_deeds_77 : decode cX10_deeds 77 = .ok (.iload 4, 2) := by decide +kernel
theorem dX10_deeds_79 : decode cX10_deeds 79 = .ok (.ireturn, 1) := by decide +kernel
theorem dX10_of_0 : decode cX10_of 0 = .ok (.aload_n 0, 1) := by decide +kernel
theorem dX10_of_1 : decode cX10_of 1 = .ok (.getfield 26, 3) := by decide +kernel
theorem dX10_of_4 : decode cX10_of 4 = .ok (.iload_n 1, 1) := by decide +kernel
theorem dX10_of_5 : decode cX10_of 5 = .ok (.invokevirtual 142, 3) := by decide +kernel
theorem dX10_of_8 : decode cX10_of 8 = .ok (.ifCond .eq 24, 3) := by decide +kernel
theorem dX10_of_11 : decode cX10_of 11 = .ok (.iload_n 2, 1) := by decide +kernel
theorem dX10_of_12 : decode cX10_of 12 = .ok (.ifCond .lt 20, 3) := by decide +kernel
theorem dX10_of_15 : decode cX10_of 15 = .ok (.iload_n 2, 1) := by decide +kernel
theorem dX10_of_16 : decode cX10_of 16 = .ok (.iconst 3, 1) := by decide +kernel
theorem dX10_of_17 : decode cX10_of 17 = .ok (.if_icmp .gt 15, 3) := by decide +kernel
theorem dX10_of_20 : decode cX10_of 20 = .ok (.aload_n 0, 1) := by decide +kernel
theorem dX10_of_21 : decode cX10_of 21 = .ok (.getfield 26, 3) := by decide +kernel
theorem dX10_of_24 : decode cX10_of 24 = .ok (.iload_n 1, 1) := by decide +kernel
theorem dX10_of_25 : decode cX10_of 25 = .ok (.iload_n 2, 1) := by decide +kernel
theorem dX10_of_26 : decode cX10_of 26 = .ok (.invokevirtual 143, 3) := by decide +kernel
theorem dX10_of_29 : decode cX10_of 29 = .ok (.goto 4, 3) := by decide +kernel
theorem dX10_of_32 : decode cX10_of 32 = .ok (.iconst (-1), 1) := by decide +kernel
theorem dX10_of_33 : decode cX10_of 33 = .ok (.ireturn, 1) := by decide +kernel
theorem dX10_costs_0 : decode cX10_costs 0 = .ok (.aload_n 0, 1) := by decide +kernel
theorem dX10_costs_1 : decode cX10_costs 1 = .ok (.iload_n 1, 1) := by decide +kernel
theorem dX10_costs_2 : decode cX10_costs 2 = .ok (.iload_n 3, 1) := by decide +kernel
theorem dX10_costs_3 : decode cX10_costs 3 = .ok (.invokevirtual 146, 3) := by decide +kernel
theorem dX10_costs_6 : decode cX10_costs 6 = .ok (.ifCond .eq 22, 3) := by decide +kernel
theorem dX10_costs_9 : decode cX10_costs 9 = .ok (.iload_n 2, 1) := by decide +kernel
theorem dX10_costs_10 : decode cX10_costs 10 = .ok (.ifCond .lt 18, 3) := by decide +kernel
theorem dX10_costs_13 : decode cX10_costs 13 = .ok (.iload_n 2, 1) := by decide +kernel
theorem dX10_costs_14 : decode cX10_costs 14 = .ok (.aload_n 0, 1) := by decide +kernel
theorem dX10_costs_15 : decode cX10_costs 15 = .ok (.getfield 26, 3) := by decide +kernel
theorem dX10_costs_18 : decode cX10_costs 18 = .ok (.iload_n 1, 1) := by decide +kernel
theorem dX10_costs_19 : decode cX10_costs 19 = .ok (.bipush 10, 2) := by decide +kernel
theorem dX10_costs_21 : decode cX10_costs 21 = .ok (.idiv, 1) := by decide +kernel
theorem dX10_costs_22 : decode cX10_costs 22 = .ok (.invokevirtual 149, 3) := by decide +kernel
theorem dX10_costs_25 : decode cX10_costs 25 = .ok (.if_icmp .lt 6, 3) := by decide +kernel
theorem dX10_costs_28 : decode cX10_costs 28 = .ok (.ldc 152, 2) := by decide +kernel
theorem dX10_costs_30 : decode cX10_costs 30 = .ok (.ireturn, 1) := by decide +kernel
theorem dX10_costs_31 : decode cX10_costs 31 = .ok (.aload_n 0, 1) := by decide +kernel
theorem dX10_costs_32 : decode cX10_costs 32 = .ok (.getfield 35, 3) := by decide +kernel
theorem dX10_costs_35 : decode cX10_costs 35 = .ok (.iload_n 1, 1) := by decide +kernel
theorem dX10_costs_36 : decode cX10_costs 36 = .ok (.bipush 10, 2) := by decide +kernel
theorem dX10_costs_38 : decode cX10_costs 38 = .ok (.idiv, 1) := by decide +kernel
theorem dX10_costs_39 : decode cX10_costs 39 = .ok (.iload_n 1, 1) := by decide +kernel
theorem dX10_costs_40 : decode cX10_costs 40 = .ok (.bipush 10, 2) := by decide +kernel
theorem dX10_costs_42 : decode cX10_costs 42 = .ok (.irem, 1) := by decide +kernel
theorem dX10_costs_43 : decode cX10_costs 43 = .ok (.invokevirtual 153, 3) := by decide +kernel
theorem dX10_costs_46 : decode cX10_costs 46 = .ok (.aload_n 0, 1) := by decide +kernel
theorem dX10_costs_47 : decode cX10_costs 47 = .ok (.getfield 35, 3) := by decide +kernel
theorem dX10_costs_50 : decode cX10_costs 50 = .ok (.iload_n 2, 1) := by decide +kernel
theorem dX10_costs_51 : decode cX10_costs 51 = .ok (.iload_n 3, 1) := by decide +kernel
theorem dX10_costs_52 : decode cX10_costs 52 = .ok (.invokevirtual 157, 3) := by decide +kernel
theorem dX10_costs_55 : decode cX10_costs 55 = .ok (.ireturn, 1) := by decide +kernel
theorem dX10_may_0 : decode cX10_may 0 = .ok (.aload_n 0, 1) := by decide +kernel
theorem dX10_may_1 : decode cX10_may 1 = .ok (.iload_n 1, 1) := by decide +kernel
theorem dX10_may_2 : decode cX10_may 2 = .ok (.iload_n 2, 1) := by decide +kernel
theorem dX10_may_3 : decode cX10_may 3 = .ok (.invokevirtual 146, 3) := by decide +kernel
theorem dX10_may_6 : decode cX10_may 6 = .ok (.ifCond .ne 6, 3) := by decide +kernel
theorem dX10_may_9 : decode cX10_may 9 = .ok (.ldc 152, 2) := by decide +kernel
theorem dX10_may_11 : decode cX10_may 11 = .ok (.ireturn, 1) := by decide +kernel
theorem dX10_may_12 : decode cX10_may 12 = .ok (.aload_n 0, 1) := by decide +kernel
theorem dX10_may_13 : decode cX10_may 13 = .ok (.getfield 35, 3) := by decide +kernel
theorem dX10_may_16 : decode cX10_may 16 = .ok (.iload_n 1, 1) := by decide +kernel
theorem dX10_may_17 : decode cX10_may 17 = .ok (.bipush 10, 2) := by decide +kernel
theorem dX10_may_19 : decode cX10_may 19 = .ok (.idiv, 1) := by decide +kernel
theorem dX10_may_20 : decode cX10_may 20 = .ok (.iload_n 1, 1) := by decide +kernel
theorem dX10_may_21 : decode cX10_may 21 = .ok (.bipush 10, 2) := by decide +kernel
theorem dX10_may_23 : decode cX10_may 23 = .ok (.irem, 1) := by decide +kernel
theorem dX10_may_24 : decode cX10_may 24 = .ok (.invokevirtual 153, 3) := by decide +kernel
theorem dX10_may_27 : decode cX10_may 27 = .ok (.aload_n 0, 1) := by decide +kernel
theorem dX10_may_28 : decode cX10_may 28 = .ok (.getfield 35, 3) := by decide +kernel
theorem dX10_may_31 : decode cX10_may 31 = .ok (.iload_n 2, 1) := by decide +kernel
theorem dX10_may_32 : decode cX10_may 32 = .ok (.invokevirtual 160, 3) := by decide +kernel
theorem dX10_may_35 : decode cX10_may 35 = .ok (.ireturn, 1) := by decide +kernel
theorem dX10_now_0 : decode cX10_now 0 = .ok (.aload_n 0, 1) := by decide +kernel
theorem dX10_now_1 : decode cX10_now 1 = .ok (.iload_n 1, 1) := by decide +kernel
theorem dX10_now_2 : decode cX10_now 2 = .ok (.iload_n 2, 1) := by decide +kernel
theorem dX10_now_3 : decode cX10_now 3 = .ok (.invokevirtual 115, 3) := by decide +kernel
theorem dX10_now_6 : decode cX10_now 6 = .ok (.ifCond .eq 15, 3) := by decide +kernel
theorem dX10_now_9 : decode cX10_now 9 = .ok (.aload_n 0, 1) := by decide +kernel
theorem dX10_now_10 : decode cX10_now 10 = .ok (.getfield 44, 3) := by decide +kernel
theorem dX10_now_13 : decode cX10_now 13 = .ok (.iload_n 1, 1) := by decide +kernel
theorem dX10_now_14 : decode cX10_now 14 = .ok (.iload_n 2, 1) := by decide +kernel
theorem dX10_now_15 : decode cX10_now 15 = .ok (.invokevirtual 163, 3) := by decide +kernel
theorem dX10_now_18 : decode cX10_now 18 = .ok (.goto 4, 3) := by decide +kernel
theorem dX10_now_21 : decode cX10_now 21 = .ok (.iconst (-1), 1) := by decide +kernel
theorem dX10_now_22 : decode cX10_now 22 = .ok (.ireturn, 1) := by decide +kernel
theorem dX10_when_0 : decode cX10_when 0 = .ok (.aload_n 0, 1) := by decide +kernel
theorem dX10_when_1 : decode cX10_when 1 = .ok (.iload_n 1, 1) := by decide +kernel
theorem dX10_when_2 : decode cX10_when 2 = .ok (.iload_n 2, 1) := by decide +kernel
theorem dX10_when_3 : decode cX10_when 3 = .ok (.invokevirtual 146, 3) := by decide +kernel
theorem dX10_when_6 : decode cX10_when 6 = .ok (.ifCond .eq 12, 3) := by decide +kernel
theorem dX10_when_9 : decode cX10_when 9 = .ok (.iload_n 3, 1) := by decide +kernel
theorem dX10_when_10 : decode cX10_when 10 = .ok (.ifCond .lt 8, 3) := by decide +kernel
theorem dX10_when_13 : decode cX10_when 13 = .ok (.iload_n 3, 1) := by decide +kernel
theorem dX10_when_14 : decode cX10_when 14 = .ok (.iconst 1, 1) := by decide +kernel
theorem dX10_when_15 : decode cX10_when 15 = .ok (.if_icmp .le 5, 3) := by decide +kernel
theorem dX10_when_18 : decode cX10_when 18 = .ok (.iconst (-1), 1) := by decide +kernel
theorem dX10_when_19 : decode cX10_when 19 = .ok (.ireturn, 1) := by decide +kernel
theorem dX10_when_20 : decode cX10_when 20 = .ok (.aload_n 0, 1) := by decide +kernel
theorem dX10_when_21 : decode cX10_when 21 = .ok (.getfield 35, 3) := by decide +kernel
theorem dX10_when_24 : decode cX10_when 24 = .ok (.iload_n 1, 1) := by decide +kernel
theorem dX10_when_25 : decode cX10_when 25 = .ok (.bipush 10, 2) := by decide +kernel
theorem dX10_when_27 : decode cX10_when 27 = .ok (.idiv, 1) := by decide +kernel
theorem dX10_when_28 : decode cX10_when 28 = .ok (.iload_n 1, 1) := by decide +kernel
theorem dX10_when_29 : decode cX10_when 29 = .ok (.bipush 10, 2) := by decide +kernel
theorem dX10_when_31 : decode cX10_when 31 = .ok (.irem, 1) := by decide +kernel
theorem dX10_when_32 : decode cX10_when 32 = .ok (.invokevirtual 153, 3) := by decide +kernel
theorem dX10_when_35 : decode cX10_when 35 = .ok (.iload_n 3, 1) := by decide +kernel
theorem dX10_when_36 : decode cX10_when 36 = .ok (.ifCond .ne 14, 3) := by decide +kernel
theorem dX10_when_39 : decode cX10_when 39 = .ok (.aload_n 0, 1) := by decide +kernel
theorem dX10_when_40 : decode cX10_when 40 = .ok (.getfield 44, 3) := by decide +kernel
theorem dX10_when_43 : decode cX10_when 43 = .ok (.iload_n 2, 1) := by decide +kernel
theorem dX10_when_44 : decode cX10_when 44 = .ok (.invokevirtual 166, 3) := by decide +kernel
theorem dX10_when_47 : decode cX10_when 47 = .ok (.goto 14, 3) := by decide +kernel
theorem dX10_when_50 : decode cX10_when 50 = .ok (.aload_n 0, 1) := by decide +kernel
theorem dX10_when_51 : decode cX10_when 51 = .ok (.getfield 44, 3) := by decide +kernel
theorem dX10_when_54 : decode cX10_when 54 = .ok (.iload_n 2, 1) := by decide +kernel
theorem dX10_when_55 : decode cX10_when 55 = .ok (.sipush 2000, 3) := by decide +kernel
theorem dX10_when_58 : decode cX10_when 58 = .ok (.invokevirtual 169, 3) := by decide +kernel
theorem dX10_when_61 : decode cX10_when 61 = .ok (.ireturn, 1) := by decide +kernel
theorem dX10_cheapest_0 : decode cX10_cheapest 0 = .ok (.aload_n 0, 1) := by decide +kernel
theorem dX10_cheapest_1 : decode cX10_cheapest 1 = .ok (.iload_n 1, 1) := by decide +kernel
theorem dX10_cheapest_2 : decode cX10_cheapest 2 = .ok (.iload_n 2, 1) := by decide +kernel
theorem dX10_cheapest_3 : decode cX10_cheapest 3 = .ok (.invokevirtual 146, 3) := by decide +kernel
theorem dX10_cheapest_6 : decode cX10_cheapest 6 = .ok (.ifCond .eq 26, 3) := by decide +kernel
theorem dX10_cheapest_9 : decode cX10_cheapest 9 = .ok (.iload_n 3, 1) := by decide +kernel
theorem dX10_cheapest_10 : decode cX10_cheapest 10 = .ok (.iconst 1, 1) := by decide +kernel
theorem dX10_cheapest_11 : decode cX10_cheapest 11 = .ok (.if_icmp .lt 21, 3) := by decide +kernel
theorem dX10_cheapest_14 : decode cX10_cheapest 14 = .ok (.iload_n 3, 1) := by decide +kernel
theorem dX10_cheapest_15 : decode cX10_cheapest 15 = .ok (.sipush 500, 3) := by decide +kernel
theorem dX10_cheapest_18 : decode cX10_cheapest 18 = .ok (.if_icmp .gt 14, 3) := by decide +kernel
theorem dX10_cheapest_21 : decode cX10_cheapest 21 = .ok (.iload 4, 2) := by decide +kernel
theorem dX10_cheapest_23 : decode cX10_cheapest 23 = .ok (.ifCond .lt 9, 3) := by decide +kernel
theorem dX10_cheapest_26 : decode cX10_cheapest 26 = .ok (.iload 4, 2) := by decide +kernel
theorem dX10_cheapest_28 : decode cX10_cheapest 28 = .ok (.iconst 1, 1) := by decide +kernel
theorem dX10_cheapest_29 : decode cX10_cheapest 29 = .ok (.if_icmp .le 6, 3) := by decide +kernel
theorem dX10_cheapest_32 : decode cX10_cheapest 32 = .ok (.ldc 152, 2) := by decide +kernel
theorem dX10_cheapest_34 : decode cX10_cheapest 34 = .ok (.ireturn, 1) := by decide +kernel
theorem dX10_cheapest_35 : decode cX10_cheapest 35 = .ok (.aload_n 0, 1) := by decide +kernel
theorem dX10_cheapest_36 : decode cX10_cheapest 36 = .ok (.getfield 35, 3) := by decide +kernel
theorem dX10_cheapest_39 : decode cX10_cheapest 39 = .ok (.iload_n 1, 1) := by decide +kernel
theorem dX10_cheapest_40 : decode cX10_cheapest 40 = .ok (.bipush 10, 2) := by decide +kernel
theorem dX10_cheapest_42 : decode cX10_cheapest 42 = .ok (.idiv, 1) := by decide +kernel
theorem dX10_cheapest_43 : decode cX10_cheapest 43 = .ok (.iload_n 1, 1) := by decide +kernel
theorem dX10_cheapest_44 : decode cX10_cheapest 44 = .ok (.bipush 10, 2) := by decide +kernel
theorem dX10_cheapest_46 : decode cX10_cheapest 46 = .ok (.irem, 1) := by decide +kernel
theorem dX10_cheapest_47 : decode cX10_cheapest 47 = .ok (.invokevirtual 153, 3) := by decide +kernel
theorem dX10_cheapest_50 : decode cX10_cheapest 50 = .ok (.aload_n 0, 1) := by decide +kernel
theorem dX10_cheapest_51 : decode cX10_cheapest 51 = .ok (.getfield 44, 3) := by decide +kernel
theorem dX10_cheapest_54 : decode cX10_cheapest 54 = .ok (.iload_n 2, 1) := by decide +kernel
theorem dX10_cheapest_55 : decode cX10_cheapest 55 = .ok (.iload_n 3, 1) := by decide +kernel
theorem dX10_cheapest_56 : decode cX10_cheapest 56 = .ok (.iload 4, 2) := by decide +kernel
theorem dX10_cheapest_58 : decode cX10_cheapest 58 = .ok (.invokevirtual 172, 3) := by decide +kernel
theorem dX10_cheapest_61 : decode cX10_cheapest 61 = .ok (.ireturn, 1) := by decide +kernel
theorem dX10_broken_0 : decode cX10_broken 0 = .ok (.aload_n 0, 1) := by decide +kernel
theorem dX10_broken_1 : decode cX10_broken 1 = .ok (.iload_n 1, 1) := by decide +kernel
theorem dX10_broken_2 : decode cX10_broken 2 = .ok (.iload_n 2, 1) := by decide +kernel
theorem dX10_broken_3 : decode cX10_broken 3 = .ok (.invokevirtual 146, 3) := by decide +kernel
theorem dX10_broken_6 : decode cX10_broken 6 = .ok (.ifCond .eq 12, 3) := by decide +kernel
theorem dX10_broken_9 : decode cX10_broken 9 = .ok (.iload_n 3, 1) := by decide +kernel
theorem dX10_broken_10 : decode cX10_broken 10 = .ok (.ifCond .lt 8, 3) := by decide +kernel
theorem dX10_broken_13 : decode cX10_broken 13 = .ok (.iload_n 3, 1) := by decide +kernel
theorem dX10_broken_14 : decode cX10_broken 14 = .ok (.iconst 2, 1) := by decide +kernel
theorem dX10_broken_15 : decode cX10_broken 15 = .ok (.if_icmp .le 6, 3) := by decide +kernel
theorem dX10_broken_18 : decode cX10_broken 18 = .ok (.ldc 152, 2) := by decide +kernel
theorem dX10_broken_20 : decode cX10_broken 20 = .ok (.ireturn, 1) := by decide +kernel
theorem dX10_broken_21 : decode cX10_broken 21 = .ok (.aload_n 0, 1) := by decide +kernel
theorem dX10_broken_22 : decode cX10_broken 22 = .ok (.getfield 35, 3) := by decide +kernel
theorem dX10_broken_25 : decode cX10_broken 25 = .ok (.iload_n 1, 1) := by decide +kernel
theorem dX10_broken_26 : decode cX10_broken 26 = .ok (.bipush 10, 2) := by decide +kernel
theorem dX10_broken_28 : decode cX10_broken 28 = .ok (.idiv, 1) := by decide +kernel
theorem dX10_broken_29 : decode cX10_broken 29 = .ok (.iload_n 1, 1) := by decide +kernel
theorem dX10_broken_30 : decode cX10_broken 30 = .ok (.bipush 10, 2) := by decide +kernel
theorem dX10_broken_32 : decode cX10_broken 32 = .ok (.irem, 1) := by decide +kernel
theorem dX10_broken_33 : decode cX10_broken 33 = .ok (.invokevirtual 153, 3) := by decide +kernel
theorem dX10_broken_36 : decode cX10_broken 36 = .ok (.aload_n 0, 1) := by decide +kernel
theorem dX10_broken_37 : decode cX10_broken 37 = .ok (.getfield 44, 3) := by decide +kernel
theorem dX10_broken_40 : decode cX10_broken 40 = .ok (.aload_n 0, 1) := by decide +kernel
theorem dX10_broken_41 : decode cX10_broken 41 = .ok (.getfield 26, 3) := by decide +kernel
theorem dX10_broken_44 : decode cX10_broken 44 = .ok (.iload_n 1, 1) := by decide +kernel
theorem dX10_broken_45 : decode cX10_broken 45 = .ok (.bipush 10, 2) := by decide +kernel
theorem dX10_broken_47 : decode cX10_broken 47 = .ok (.idiv, 1) := by decide +kernel
theorem dX10_broken_48 : decode cX10_broken 48 = .ok (.invokevirtual 149, 3) := by decide +kernel
theorem dX10_broken_51 : decode cX10_broken 51 = .ok (.iload_n 2, 1) := by decide +kernel
theorem dX10_broken_52 : decode cX10_broken 52 = .ok (.iload_n 3, 1) := by decide +kernel
theorem dX10_broken_53 : decode cX10_broken 53 = .ok (.invokevirtual 175, 3) := by decide +kernel
theorem dX10_broken_56 : decode cX10_broken 56 = .ok (.ireturn, 1) := by decide +kernel
theorem dX10_elsewhere_0 : decode cX10_elsewhere 0 = .ok (.aload_n 0, 1) := by decide +kernel
theorem dX10_elsewhere_1 : decode cX10_elsewhere 1 = .ok (.iload_n 1, 1) := by decide +kernel
theorem dX10_elsewhere_2 : decode cX10_elsewhere 2 = .ok (.iload_n 2, 1) := by decide +kernel
theorem dX10_elsewhere_3 : decode cX10_elsewhere 3 = .ok (.invokevirtual 146, 3) := by decide +kernel
theorem dX10_elsewhere_6 : decode cX10_elsewhere 6 = .ok (.ifCond .eq 12, 3) := by decide +kernel
theorem dX10_elsewhere_9 : decode cX10_elsewhere 9 = .ok (.iload_n 3, 1) := by decide +kernel
theorem dX10_elsewhere_10 : decode cX10_elsewhere 10 = .ok (.ifCond .lt 8, 3) := by decide +kernel
theorem dX10_elsewhere_13 : decode cX10_elsewhere 13 = .ok (.iload_n 3, 1) := by decide +kernel
theorem dX10_elsewhere_14 : decode cX10_elsewhere 14 = .ok (.iconst 1, 1) := by decide +kernel
theorem dX10_elsewhere_15 : decode cX10_elsewhere 15 = .ok (.if_icmp .le 5, 3) := by decide +kernel
theorem dX10_elsewhere_18 : decode cX10_elsewhere 18 = .ok (.iconst (-1), 1) := by decide +kernel
theorem dX10_elsewhere_19 : decode cX10_elsewhere 19 = .ok (.ireturn, 1) := by decide +kernel
theorem dX10_elsewhere_20 : decode cX10_elsewhere 20 = .ok (.aload_n 0, 1) := by decide +kernel
theorem dX10_elsewhere_21 : decode cX10_elsewhere 21 = .ok (.getfield 44, 3) := by decide +kernel
theorem dX10_elsewhere_24 : decode cX10_elsewhere 24 = .ok (.iload_n 1, 1) := by decide +kernel
theorem dX10_elsewhere_25 : decode cX10_elsewhere 25 = .ok (.bipush 10, 2) := by decide +kernel
theorem dX10_elsewhere_27 : decode cX10_elsewhere 27 = .ok (.idiv, 1) := by decide +kernel
theorem dX10_elsewhere_28 : decode cX10_elsewhere 28 = .ok (.iload_n 1, 1) := by decide +kernel
theorem dX10_elsewhere_29 : decode cX10_elsewhere 29 = .ok (.bipush 10, 2) := by decide +kernel
theorem dX10_elsewhere_31 : decode cX10_elsewhere 31 = .ok (.irem, 1) := by decide +kernel
theorem dX10_elsewhere_32 : decode cX10_elsewhere 32 = .ok (.iload_n 2, 1) := by decide +kernel
theorem dX10_elsewhere_33 : decode cX10_elsewhere 33 = .ok (.iload_n 3, 1) := by decide +kernel
theorem dX10_elsewhere_34 : decode cX10_elsewhere 34 = .ok (.invokevirtual 178, 3) := by decide +kernel
theorem dX10_elsewhere_37 : decode cX10_elsewhere 37 = .ok (.ireturn, 1) := by decide +kernel
theorem dX10_harm_0 : decode cX10_harm 0 = .ok (.iload_n 1, 1) := by decide +kernel
theorem dX10_harm_1 : decode cX10_harm 1 = .ok (.ifCond .lt 42, 3) := by decide +kernel
theorem dX10_harm_4 : decode cX10_harm 4 = .ok (.aload_n 0, 1) := by decide +kernel
theorem dX10_harm_5 : decode cX10_harm 5 = .ok (.getfield 26, 3) := by decide +kernel
theorem dX10_harm_8 : decode cX10_harm 8 = .ok (.iload_n 1, 1) := by decide +kernel
theorem dX10_harm_9 : decode cX10_harm 9 = .ok (.bipush 100, 2) := by decide +kernel
theorem dX10_harm_11 : decode cX10_harm 11 = .ok (.idiv, 1) := by decide +kernel
theorem dX10_harm_12 : decode cX10_harm 12 = .ok (.invokevirtual 142, 3) := by decide +kernel
theorem dX10_harm_15 : decode cX10_harm 15 = .ok (.ifCond .eq 28, 3) := by decide +kernel
theorem dX10_harm_18 : decode cX10_harm 18 = .ok (.aload_n 0, 1) := by decide +kernel
theorem dX10_harm_19 : decode cX10_harm 19 = .ok (.getfield 26, 3) := by decide +kernel
theorem dX10_harm_22 : decode cX10_harm 22 = .ok (.iload_n 1, 1) := by decide +kernel
theorem dX10_harm_23 : decode cX10_harm 23 = .ok (.bipush 100, 2) := by decide +kernel
theorem dX10_harm_25 : decode cX10_harm 25 = .ok (.irem, 1) := by decide +kernel
theorem dX10_harm_26 : decode cX10_harm 26 = .ok (.invokevirtual 142, 3) := by decide +kernel
theorem dX10_harm_29 : decode cX10_harm 29 = .ok (.ifCond .eq 14, 3) := by decide +kernel
theorem dX10_harm_32 : decode cX10_harm 32 = .ok (.iload_n 1, 1) := by decide +kernel
theorem dX10_harm_33 : decode cX10_harm 33 = .ok (.bipush 100, 2) := by decide +kernel
theorem dX10_harm_35 : decode cX10_harm 35 = .ok (.idiv, 1) := by decide +kernel
theorem dX10_harm_36 : decode cX10_harm 36 = .ok (.iload_n 1, 1) := by decide +kernel
theorem dX10_harm_37 : decode cX10_harm 37 = .ok (.bipush 100, 2) := by decide +kernel
theorem dX10_harm_39 : decode cX10_harm 39 = .ok (.irem, 1) := by decide +kernel
theorem dX10_harm_40 : decode cX10_harm 40 = .ok (.if_icmp .ne 5, 3) := by decide +kernel
theorem dX10_harm_43 : decode cX10_harm 43 = .ok (.iconst (-1), 1) := by decide +kernel
theorem dX10_harm_44 : decode cX10_harm 44 = .ok (.ireturn, 1) := by decide +kernel
theorem dX10_harm_45 : decode cX10_harm 45 = .ok (.aload_n 0, 1) := by decide +kernel
theorem dX10_harm_46 : decode cX10_harm 46 = .ok (.iload_n 2, 1) := by decide +kernel
theorem dX10_harm_47 : decode cX10_harm 47 = .ok (.iload_n 3, 1) := by decide +kernel
theorem dX10_harm_48 : decode cX10_harm 48 = .ok (.invokevirtual 115, 3) := by decide +kernel
theorem dX10_harm_51 : decode cX10_harm 51 = .ok (.ifCond .eq 23, 3) := by decide +kernel
theorem dX10_harm_54 : decode cX10_harm 54 = .ok (.aload_n 0, 1) := by decide +kernel
theorem dX10_harm_55 : decode cX10_harm 55 = .ok (.getfield 44, 3) := by decide +kernel
theorem dX10_harm_58 : decode cX10_harm 58 = .ok (.iload_n 1, 1) := by decide +kernel
theorem dX10_harm_59 : decode cX10_harm 59 = .ok (.bipush 100, 2) := by decide +kernel
theorem dX10_harm_61 : decode cX10_harm 61 = .ok (.idiv, 1) := by decide +kernel
theorem dX10_harm_62 : decode cX10_harm 62 = .ok (.iload_n 1, 1) := by decide +kernel
theorem dX10_harm_63 : decode cX10_harm 63 = .ok (.bipush 100, 2) := by decide +kernel
theorem dX10_harm_65 : decode cX10_harm 65 = .ok (.irem, 1) := by decide +kernel
theorem dX10_harm_66 : decode cX10_harm 66 = .ok (.iload_n 2, 1) := by decide +kernel
theorem dX10_harm_67 : decode cX10_harm 67 = .ok (.iload_n 3, 1) := by decide +kernel
theorem dX10_harm_68 : decode cX10_harm 68 = .ok (.invokevirtual 181, 3) := by decide +kernel
theorem dX10_harm_71 : decode cX10_harm 71 = .ok (.goto 4, 3) := by decide +kernel
theorem dX10_harm_74 : decode cX10_harm 74 = .ok (.iconst (-1), 1) := by decide +kernel
theorem dX10_harm_75 : decode cX10_harm 75 = .ok (.ireturn, 1) := by decide +kernel
theorem dX10_next_0 : decode cX10_next 0 = .ok (.aload_n 0, 1) := by decide +kernel
theorem dX10_next_1 : decode cX10_next 1 = .ok (.iload_n 1, 1) := by decide +kernel
theorem dX10_next_2 : decode cX10_next 2 = .ok (.iload_n 2, 1) := by decide +kernel
theorem dX10_next_3 : decode cX10_next 3 = .ok (.invokevirtual 115, 3) := by decide +kernel
theorem dX10_next_6 : decode cX10_next 6 = .ok (.ifCond .eq 27, 3) := by decide +kernel
theorem dX10_next_9 : decode cX10_next 9 = .ok (.aload_n 0, 1) := by decide +kernel
theorem dX10_next_10 : decode cX10_next 10 = .ok (.getfield 10, 3) := by decide +kernel
theorem dX10_next_13 : decode cX10_next 13 = .ok (.iload_n 3, 1) := by decide +kernel
theorem dX10_next_14 : decode cX10_next 14 = .ok (.invokevirtual 184, 3) := by decide +kernel
theorem dX10_next_17 : decode cX10_next 17 = .ok (.ifCond .eq 16, 3) := by decide +kernel
theorem dX10_next_20 : decode cX10_next 20 = .ok (.aload_n 0, 1) := by decide +kernel
theorem dX10_next_21 : decode cX10_next 21 = .ok (.getfield 44, 3) := by decide +kernel
theorem dX10_next_24 : decode cX10_next 24 = .ok (.iload_n 1, 1) := by decide +kernel
theorem dX10_next_25 : decode cX10_next 25 = .ok (.iload_n 2, 1) := by decide +kernel
theorem dX10_next_26 : decode cX10_next 26 = .ok (.iload_n 3, 1) := by decide +kernel
theorem dX10_next_27 : decode cX10_next 27 = .ok (.invokevirtual 187, 3) := by decide +kernel
theorem dX10_next_30 : decode cX10_next 30 = .ok (.goto 4, 3) := by decide +kernel
theorem dX10_next_33 : decode cX10_next 33 = .ok (.iconst (-1), 1) := by decide +kernel
theorem dX10_next_34 : decode cX10_next 34 = .ok (.ireturn, 1) := by decide +kernel
theorem dX10_many_0 : decode cX10_many 0 = .ok (.aload_n 0, 1) := by decide +kernel
theorem dX10_many_1 : decode cX10_many 1 = .ok (.iload_n 1, 1) := by decide +kernel
theorem dX10_many_2 : decode cX10_many 2 = .ok (.iload_n 2, 1) := by decide +kernel
theorem dX10_many_3 : decode cX10_many 3 = .ok (.invokevirtual 115, 3) := by decide +kernel
theorem dX10_many_6 : decode cX10_many 6 = .ok (.ifCond .eq 27, 3) := by decide +kernel
theorem dX10_many_9 : decode cX10_many 9 = .ok (.iload_n 3, 1) := by decide +kernel
theorem dX10_many_10 : decode cX10_many 10 = .ok (.iconst 1, 1) := by decide +kernel
theorem dX10_many_11 : decode cX10_many 11 = .ok (.if_icmp .lt 22, 3) := by decide +kernel
theorem dX10_many_14 : decode cX10_many 14 = .ok (.iload_n 3, 1) := by decide +kernel
theorem dX10_many_15 : decode cX10_many 15 = .ok (.sipush 10000, 3) := by decide +kernel
theorem dX10_many_18 : decode cX10_many 18 = .ok (.if_icmp .gt 15, 3) := by decide +kernel
theorem dX10_many_21 : decode cX10_many 21 = .ok (.aload_n 0, 1) := by decide +kernel
theorem dX10_many_22 : decode cX10_many 22 = .ok (.getfield 10, 3) := by decide +kernel
theorem dX10_many_25 : decode cX10_many 25 = .ok (.iload 4, 2) := by decide +kernel
theorem dX10_many_27 : decode cX10_many 27 = .ok (.invokevirtual 184, 3) := by decide +kernel
theorem dX10_many_30 : decode cX10_many 30 = .ok (.ifCond .ne 5, 3) := by decide +kernel
theorem dX10_many_33 : decode cX10_many 33 = .ok (.iconst (-1), 1) := by decide +kernel
theorem dX10_many_34 : decode cX10_many 34 = .ok (.ireturn, 1) := by decide +kernel
theorem dX10_many_35 : decode cX10_many 35 = .ok (.aload_n 0, 1) := by decide +kernel
theorem dX10_many_36 : decode cX10_many 36 = .ok (.getfield 10, 3) := by decide +kernel
theorem dX10_many_39 : decode cX10_many 39 = .ok (.iload_n 1, 1) := by decide +kernel
theorem dX10_many_40 : decode cX10_many 40 = .ok (.iload_n 2, 1) := by decide +kernel
theorem dX10_many_41 : decode cX10_many 41 = .ok (.iload_n 3, 1) := by decide +kernel
theorem dX10_many_42 : decode cX10_many 42 = .ok (.iload 4, 2) := by decide +kernel
theorem dX10_many_44 : decode cX10_many 44 = .ok (.invokevirtual 190, 3) := by decide +kernel
theorem dX10_many_47 : decode cX10_many 47 = .ok (.ireturn, 1) := by decide +kernel
theorem dX10_longest_0 : decode cX10_longest 0 = .ok (.aload_n 0, 1) := by decide +kernel
theorem dX10_longest_1 : decode cX10_longest 1 = .ok (.iload_n 1, 1) := by decide +kernel
theorem dX10_longest_2 : decode cX10_longest 2 = .ok (.iload_n 2, 1) := by decide +kernel
theorem dX10_longest_3 : decode cX10_longest 3 = .ok (.invokevirtual 115, 3) := by decide +kernel
theorem dX10_longest_6 : decode cX10_longest 6 = .ok (.ifCond .eq 26, 3) := by decide +kernel
theorem dX10_longest_9 : decode cX10_longest 9 = .ok (.iload_n 3, 1) := by decide +kernel
theorem dX10_longest_10 : decode cX10_longest 10 = .ok (.iconst 1, 1) := by decide +kernel
theorem dX10_longest_11 : decode cX10_longest 11 = .ok (.if_icmp .lt 21, 3) := by decide +kernel
theorem dX10_longest_14 : decode cX10_longest 14 = .ok (.iload_n 3, 1) := by decide +kernel
theorem dX10_longest_15 : decode cX10_longest 15 = .ok (.sipush 10000, 3) := by decide +kernel
theorem dX10_longest_18 : decode cX10_longest 18 = .ok (.if_icmp .gt 14, 3) := by decide +kernel
theorem dX10_longest_21 : decode cX10_longest 21 = .ok (.iload 4, 2) := by decide +kernel
theorem dX10_longest_23 : decode cX10_longest 23 = .ok (.ifCond .lt 9, 3) := by decide +kernel
theorem dX10_longest_26 : decode cX10_longest 26 = .ok (.iload 4, 2) := by decide +kernel
theorem dX10_longest_28 : decode cX10_longest 28 = .ok (.iconst 1, 1) := by decide +kernel
theorem dX10_longest_29 : decode cX10_longest 29 = .ok (.if_icmp .le 5, 3) := by decide +kernel
theorem dX10_longest_32 : decode cX10_longest 32 = .ok (.iconst (-1), 1) := by decide +kernel
theorem dX10_longest_33 : decode cX10_longest 33 = .ok (.ireturn, 1) := by decide +kernel
theorem dX10_longest_34 : decode cX10_longest 34 = .ok (.aload_n 0, 1) := by decide +kernel
theorem dX10_longest_35 : decode cX10_longest 35 = .ok (.getfield 44, 3) := by decide +kernel
theorem dX10_longest_38 : decode cX10_longest 38 = .ok (.iload_n 1, 1) := by decide +kernel
theorem dX10_longest_39 : decode cX10_longest 39 = .ok (.iload_n 2, 1) := by decide +kernel
theorem dX10_longest_40 : decode cX10_longest 40 = .ok (.iload_n 3, 1) := by decide +kernel
theorem dX10_longest_41 : decode cX10_longest 41 = .ok (.iload 4, 2) := by decide +kernel
theorem dX10_longest_43 : decode cX10_longest 43 = .ok (.invokevirtual 193, 3) := by decide +kernel
theorem dX10_longest_46 : decode cX10_longest 46 = .ok (.ireturn, 1) := by decide +kernel
theorem dX10_round_0 : decode cX10_round 0 = .ok (.aload_n 0, 1) := by decide +kernel
theorem dX10_round_1 : decode cX10_round 1 = .ok (.getfield 10, 3) := by decide +kernel
theorem dX10_round_4 : decode cX10_round 4 = .ok (.invokevirtual 196, 3) := by decide +kernel
theorem dX10_round_7 : decode cX10_round 7 = .ok (.ifCond .ne 8, 3) := by decide +kernel
theorem dX10_round_10 : decode cX10_round 10 = .ok (.bipush (-5), 2) := by decide +kernel
theorem dX10_round_12 : decode cX10_round 12 = .ok (.goto 10, 3) := by decide +kernel
theorem dX10_round_15 : decode cX10_round 15 = .ok (.aload_n 0, 1) := by decide +kernel
theorem dX10_round_16 : decode cX10_round 16 = .ok (.getfield 10, 3) := by decide +kernel
theorem dX10_round_19 : decode cX10_round 19 = .ok (.invokevirtual 199, 3) := by decide +kernel
theorem dX10_round_22 : decode cX10_round 22 = .ok (.ireturn, 1) := by decide +kernel
theorem dX10_odds_0 : decode cX10_odds 0 = .ok (.aload_n 0, 1) := by decide +kernel
theorem dX10_odds_1 : decode cX10_odds 1 = .ok (.iload_n 1, 1) := by decide +kernel
theorem dX10_odds_2 : decode cX10_odds 2 = .ok (.iload_n 2, 1) := by decide +kernel
theorem dX10_odds_3 : decode cX10_odds 3 = .ok (.invokevirtual 146, 3) := by decide +kernel
theorem dX10_odds_6 : decode cX10_odds 6 = .ok (.ifCond .eq 13, 3) := by decide +kernel
theorem dX10_odds_9 : decode cX10_odds 9 = .ok (.iload_n 3, 1) := by decide +kernel
theorem dX10_odds_10 : decode cX10_odds 10 = .ok (.ifCond .lt 9, 3) := by decide +kernel
theorem dX10_odds_13 : decode cX10_odds 13 = .ok (.iload_n 3, 1) := by decide +kernel
theorem dX10_odds_14 : decode cX10_odds 14 = .ok (.bipush 100, 2) := by decide +kernel
theorem dX10_odds_16 : decode cX10_odds 16 = .ok (.if_icmp .le 5, 3) := by decide +kernel
theorem dX10_odds_19 : decode cX10_odds 19 = .ok (.iconst (-1), 1) := by decide +kernel
theorem dX10_odds_20 : decode cX10_odds 20 = .ok (.ireturn, 1) := by decide +kernel
theorem dX10_odds_21 : decode cX10_odds 21 = .ok (.aload_n 0, 1) := by decide +kernel
theorem dX10_odds_22 : decode cX10_odds 22 = .ok (.getfield 26, 3) := by decide +kernel
theorem dX10_odds_25 : decode cX10_odds 25 = .ok (.iload_n 1, 1) := by decide +kernel
theorem dX10_odds_26 : decode cX10_odds 26 = .ok (.bipush 10, 2) := by decide +kernel
theorem dX10_odds_28 : decode cX10_odds 28 = .ok (.idiv, 1) := by decide +kernel
theorem dX10_odds_29 : decode cX10_odds 29 = .ok (.iconst 3, 1) := by decide +kernel
theorem dX10_odds_30 : decode cX10_odds 30 = .ok (.invokevirtual 143, 3) := by decide +kernel
theorem dX10_odds_33 : decode cX10_odds 33 = .ok (.iconst 2, 1) := by decide +kernel
theorem dX10_odds_34 : decode cX10_odds 34 = .ok (.if_icmp .eq 6, 3) := by decide +kernel
theorem dX10_odds_37 : decode cX10_odds 37 = .ok (.bipush (-5), 2) := by decide +kernel
theorem dX10_odds_39 : decode cX10_odds 39 = .ok (.ireturn, 1) := by decide +kernel
theorem dX10_odds_40 : decode cX10_odds 40 = .ok (.aload_n 0, 1) := by decide +kernel
theorem dX10_odds_41 : decode cX10_odds 41 = .ok (.getfield 35, 3) := by decide +kernel
theorem dX10_odds_44 : decode cX10_odds 44 = .ok (.iload_n 1, 1) := by decide +kernel
theorem dX10_odds_45 : decode cX10_odds 45 = .ok (.bipush 10, 2) := by decide +kernel
theorem dX10_odds_47 : decode cX10_odds 47 = .ok (.idiv, 1) := by decide +kernel
theorem dX10_odds_48 : decode cX10_odds 48 = .ok (.iload_n 1, 1) := by decide +kernel
theorem dX10_odds_49 : decode cX10_odds 49 = .ok (.bipush 10, 2) := by decide +kernel
theorem dX10_odds_51 : decode cX10_odds 51 = .ok (.irem, 1) := by decide +kernel
theorem dX10_odds_52 : decode cX10_odds 52 = .ok (.invokevirtual 153, 3) := by decide +kernel
theorem dX10_odds_55 : decode cX10_odds 55 = .ok (.aload_n 0, 1) := by decide +kernel
theorem dX10_odds_56 : decode cX10_odds 56 = .ok (.getfield 44, 3) := by decide +kernel
theorem dX10_odds_59 : decode cX10_odds 59 = .ok (.aload_n 0, 1) := by decide +kernel
theorem dX10_odds_60 : decode cX10_odds 60 = .ok (.getfield 26, 3) := by decide +kernel
theorem dX10_odds_63 : decode cX10_odds 63 = .ok (.iload_n 1, 1) := by decide +kernel
theorem dX10_odds_64 : decode cX10_odds 64 = .ok (.bipush 10, 2) := by decide +kernel
theorem dX10_odds_66 : decode cX10_odds 66 = .ok (.idiv, 1) := by decide +kernel
theorem dX10_odds_67 : decode cX10_odds 67 = .ok (.invokevirtual 149, 3) := by decide +kernel
theorem dX10_odds_70 : decode cX10_odds 70 = .ok (.iload_n 2, 1) := by decide +kernel
theorem dX10_odds_71 : decode cX10_odds 71 = .ok (.iload_n 3, 1) := by decide +kernel
theorem dX10_odds_72 : decode cX10_odds 72 = .ok (.invokevirtual 202, 3) := by decide +kernel
theorem dX10_odds_75 : decode cX10_odds 75 = .ok (.ireturn, 1) := by decide +kernel
theorem dX10_promise_0 : decode cX10_promise 0 = .ok (.aload_n 0, 1) := by decide +kernel
theorem dX10_promise_1 : decode cX10_promise 1 = .ok (.iload_n 1, 1) := by decide +kernel
theorem dX10_promise_2 : decode cX10_promise 2 = .ok (.iload_n 2, 1) := by decide +kernel
theorem dX10_promise_3 : decode cX10_promise 3 = .ok (.invokevirtual 146, 3) := by decide +kernel
theorem dX10_promise_6 : decode cX10_promise 6 = .ok (.ifCond .eq 22, 3) := by decide +kernel
theorem dX10_promise_9 : decode cX10_promise 9 = .ok (.aload_n 0, 1) := by decide +kernel
theorem dX10_promise_10 : decode cX10_promise 10 = .ok (.getfield 51, 3) := by decide +kernel
theorem dX10_promise_13 : decode cX10_promise 13 = .ok (.iload_n 1, 1) := by decide +kernel
theorem dX10_promise_14 : decode cX10_promise 14 = .ok (.bipush 10, 2) := by decide +kernel
theorem dX10_promise_16 : decode cX10_promise 16 = .ok (.idiv, 1) := by decide +kernel
theorem dX10_promise_17 : decode cX10_promise 17 = .ok (.iload_n 1, 1) := by decide +kernel
theorem dX10_promise_18 : decode cX10_promise 18 = .ok (.bipush 10, 2) := by decide +kernel
theorem dX10_promise_20 : decode cX10_promise 20 = .ok (.irem, 1) := by decide +kernel
theorem dX10_promise_21 : decode cX10_promise 21 = .ok (.iload_n 2, 1) := by decide +kernel
theorem dX10_promise_22 : decode cX10_promise 22 = .ok (.invokevirtual 205, 3) := by decide +kernel
theorem dX10_promise_25 : decode cX10_promise 25 = .ok (.goto 4, 3) := by decide +kernel
theorem dX10_promise_28 : decode cX10_promise 28 = .ok (.iconst (-1), 1) := by decide +kernel
theorem dX10_promise_29 : decode cX10_promise 29 = .ok (.ireturn, 1) := by decide +kernel
theorem dX10_judge_0 : decode cX10_judge 0 = .ok (.aload_n 0, 1) := by decide +kernel
theorem dX10_judge_1 : decode cX10_judge 1 = .ok (.getfield 51, 3) := by decide +kernel
theorem dX10_judge_4 : decode cX10_judge 4 = .ok (.invokevirtual 207, 3) := by decide +kernel
theorem dX10_judge_7 : decode cX10_judge 7 = .ok (.ireturn, 1) := by decide +kernel
theorem dX10_dated_0 : decode cX10_dated 0 = .ok (.aload_n 0, 1) := by decide +kernel
theorem dX10_dated_1 : decode cX10_dated 1 = .ok (.getfield 51, 3) := by decide +kernel
theorem dX10_dated_4 : decode cX10_dated 4 = .ok (.iload_n 1, 1) := by decide +kernel
theorem dX10_dated_5 : decode cX10_dated 5 = .ok (.invokevirtual 210, 3) := by decide +kernel
theorem dX10_dated_8 : decode cX10_dated 8 = .ok (.ifCond .eq 14, 3) := by decide +kernel
theorem dX10_dated_11 : decode cX10_dated 11 = .ok (.aload_n 0, 1) := by decide +kernel
theorem dX10_dated_12 : decode cX10_dated 12 = .ok (.getfield 51, 3) := by decide +kernel
theorem dX10_dated_15 : decode cX10_dated 15 = .ok (.iload_n 1, 1) := by decide +kernel
theorem dX10_dated_16 : decode cX10_dated 16 = .ok (.invokevirtual 211, 3) := by decide +kernel
theorem dX10_dated_19 : decode cX10_dated 19 = .ok (.goto 4, 3) := by decide +kernel
theorem dX10_dated_22 : decode cX10_dated 22 = .ok (.iconst (-1), 1) := by decide +kernel
theorem dX10_dated_23 : decode cX10_dated 23 = .ok (.ireturn, 1) := by decide +kernel
theorem dX10_claims_0 : decode cX10_claims 0 = .ok (.aload_n 0, 1) := by decide +kernel
theorem dX10_claims_1 : decode cX10_claims 1 = .ok (.getfield 51, 3) := by decide +kernel
theorem dX10_claims_4 : decode cX10_claims 4 = .ok (.iload_n 1, 1) := by decide +kernel
theorem dX10_claims_5 : decode cX10_claims 5 = .ok (.invokevirtual 210, 3) := by decide +kernel
theorem dX10_claims_8 : decode cX10_claims 8 = .ok (.ifCond .eq 27, 3) := by decide +kernel
theorem dX10_claims_11 : decode cX10_claims 11 = .ok (.iload_n 2, 1) := by decide +kernel
theorem dX10_claims_12 : decode cX10_claims 12 = .ok (.iconst 1, 1) := by decide +kernel
theorem dX10_claims_13 : decode cX10_claims 13 = .ok (.if_icmp .lt 22, 3) := by decide +kernel
theorem dX10_claims_16 : decode cX10_claims 16 = .ok (.iload_n 2, 1) := by decide +kernel
theorem dX10_claims_17 : decode cX10_claims 17 = .ok (.sipush 2000, 3) := by decide +kernel
theorem dX10_claims_20 : decode cX10_claims 20 = .ok (.if_icmp .gt 15, 3) := by decide +kernel
theorem dX10_claims_23 : decode cX10_claims 23 = .ok (.aload_n 0, 1) := by decide +kernel
theorem dX10_claims_24 : decode cX10_claims 24 = .ok (.getfield 51, 3) := by decide +kernel
theorem dX10_claims_27 : decode cX10_claims 27 = .ok (.iload_n 1, 1) := by decide +kernel
theorem dX10_claims_28 : decode cX10_claims 28 = .ok (.iload_n 2, 1) := by decide +kernel
theorem dX10_claims_29 : decode cX10_claims 29 = .ok (.invokevirtual 214, 3) := by decide +kernel
theorem dX10_claims_32 : decode cX10_claims 32 = .ok (.goto 4, 3) := by decide +kernel
theorem dX10_claims_35 : decode cX10_claims 35 = .ok (.iconst (-1), 1) := by decide +kernel
theorem dX10_claims_36 : decode cX10_claims 36 = .ok (.ireturn, 1) := by decide +kernel
theorem dX10_year_0 : decode cX10_year 0 = .ok (.aload_n 0, 1) := by decide +kernel
theorem dX10_year_1 : decode cX10_year 1 = .ok (.iload_n 2, 1) := by decide +kernel
theorem dX10_year_2 : decode cX10_year 2 = .ok (.iload_n 3, 1) := by decide +kernel
theorem dX10_year_3 : decode cX10_year 3 = .ok (.invokevirtual 115, 3) := by decide +kernel
theorem dX10_year_6 : decode cX10_year 6 = .ok (.ifCond .eq 33, 3) := by decide +kernel
theorem dX10_year_9 : decode cX10_year 9 = .ok (.iload 4, 2) := by decide +kernel
theorem dX10_year_11 : decode cX10_year 11 = .ok (.iconst 1, 1) := by decide +kernel
theorem dX10_year_12 : decode cX10_year 12 = .ok (.if_icmp .lt 27, 3) := by decide +kernel
theorem dX10_year_15 : decode cX10_year 15 = .ok (.iload 4, 2) := by decide +kernel
theorem dX10_year_17 : decode cX10_year 17 = .ok (.sipush 600, 3) := by decide +kernel
theorem dX10_year_20 : decode cX10_year 20 = .ok (.if_icmp .gt 19, 3) := by decide +kernel
theorem dX10_year_23 : decode cX10_year 23 = .ok (.iload_n 1, 1) := by decide +kernel
theorem dX10_year_24 : decode cX10_year 24 = .ok (.iconst (-1), 1) := by decide +kernel
theorem dX10_year_25 : decode cX10_year 25 = .ok (.if_icmp .eq 16, 3) := by decide +kernel
theorem dX10_year_28 : decode cX10_year 28 = .ok (.aload_n 0, 1) := by decide +kernel
theorem dX10_year_29 : decode cX10_year 29 = .ok (.getfield 26, 3) := by decide +kernel
theorem dX10_year_32 : decode cX10_year 32 = .ok (.iload_n 1, 1) := by decide +kernel
theorem dX10_year_33 : decode cX10_year 33 = .ok (.invokevirtual 142, 3) := by decide +kernel
theorem dX10_year_36 : decode cX10_year 36 = .ok (.ifCond .ne 5, 3) := by decide +kernel
theorem dX10_year_39 : decode cX10_year 39 = .ok (.iconst (-1), 1) := by decide +kernel
theorem dX10_year_40 : decode cX10_year 40 = .ok (.ireturn, 1) := by decide +kernel
theorem dX10_year_41 : decode cX10_year 41 = .ok (.iload_n 1, 1) := by decide +kernel
theorem dX10_year_42 : decode cX10_year 42 = .ok (.iconst (-1), 1) := by decide +kernel
theorem dX10_year_43 : decode cX10_year 43 = .ok (.if_icmp .ne 30, 3) := by decide +kernel
theorem dX10_year_46 : decode cX10_year 46 = .ok (.aload_n 0, 1) := by decide +kernel
theorem dX10_year_47 : decode cX10_year 47 = .ok (.getfield 26, 3) := by decide +kernel
theorem dX10_year_50 : decode cX10_year 50 = .ok (.invokevirtual 217, 3) := by decide +kernel
theorem dX10_year_53 : decode cX10_year 53 = .ok (.ifCond .ne 8, 3) := by decide +kernel
theorem dX10_year_56 : decode cX10_year 56 = .ok (.bipush (-5), 2) := by decide +kernel
theorem dX10_year_58 : decode cX10_year 58 = .ok (.goto 14, 3) := by decide +kernel
theorem dX10_year_61 : decode cX10_year 61 = .ok (.aload_n 0, 1) := by decide +kernel
theorem dX10_year_62 : decode cX10_year 62 = .ok (.getfield 44, 3) := by decide +kernel
theorem dX10_year_65 : decode cX10_year 65 = .ok (.iload_n 2, 1) := by decide +kernel
theorem dX10_year_66 : decode cX10_year 66 = .ok (.iload_n 3, 1) := by decide +kernel
theorem dX10_year_67 : decode cX10_year 67 = .ok (.iload 4, 2) := by decide +kernel
theorem dX10_year_69 : decode cX10_year 69 = .ok (.invokevirtual 220, 3) := by decide +kernel
theorem dX10_year_72 : decode cX10_year 72 = .ok (.ireturn, 1) := by decide +kernel
theorem dX10_year_73 : decode cX10_year 73 = .ok (.aload_n 0, 1) := by decide +kernel
theorem dX10_year_74 : decode cX10_year 74 = .ok (.getfield 44, 3) := by decide +kernel
theorem dX10_year_77 : decode cX10_year 77 = .ok (.iload_n 1, 1) := by decide +kernel
theorem dX10_year_78 : decode cX10_year 78 = .ok (.iload_n 2, 1) := by decide +kernel
theorem dX10_year_79 : decode cX10_year 79 = .ok (.iload_n 3, 1) := by decide +kernel
theorem dX10_year_80 : decode cX10_year 80 = .ok (.iload 4, 2) := by decide +kernel
theorem dX10_year_82 : decode cX10_year 82 = .ok (.invokevirtual 223, 3) := by decide +kernel
theorem dX10_year_85 : decode cX10_year 85 = .ok (.ireturn, 1) := by decide +kernel
theorem dX10_undo_0 : decode cX10_undo 0 = .ok (.aload_n 0, 1) := by decide +kernel
theorem dX10_undo_1 : decode cX10_undo 1 = .ok (.getfield 58, 3) := by decide +kernel
theorem dX10_undo_4 : decode cX10_undo 4 = .ok (.invokevirtual 226, 3) := by decide +kernel
theorem dX10_undo_7 : decode cX10_undo 7 = .ok (.ireturn, 1) := by decide +kernel
theorem dX10_redo_0 : decode cX10_redo 0 = .ok (.aload_n 0, 1) := by decide +kernel
theorem dX10_redo_1 : decode cX10_redo 1 = .ok (.getfield 58, 3) := by decide +kernel
theorem dX10_redo_4 : decode cX10_redo 4 = .ok (.invokevirtual 229, 3) := by decide +kernel
theorem dX10_redo_7 : decode cX10_redo 7 = .ok (.ireturn, 1) := by decide +kernel
theorem dX10_body_0 : decode cX10_body 0 = .ok (.iload_n 1, 1) := by decide +kernel
theorem dX10_body_1 : decode cX10_body 1 = .ok (.ifCond .lt 9, 3) := by decide +kernel
theorem dX10_body_4 : decode cX10_body 4 = .ok (.iload_n 1, 1) := by decide +kernel
theorem dX10_body_5 : decode cX10_body 5 = .ok (.bipush 8, 2) := by decide +kernel
theorem dX10_body_7 : decode cX10_body 7 = .ok (.if_icmp .lt 7, 3) := by decide +kernel
theorem dX10_body_10 : decode cX10_body 10 = .ok (.iconst (-1), 1) := by decide +kernel
theorem dX10_body_11 : decode cX10_body 11 = .ok (.goto 11, 3) := by decide +kernel
theorem dX10_body_14 : decode cX10_body 14 = .ok (.aload_n 0, 1) := by decide +kernel
theorem dX10_body_15 : decode cX10_body 15 = .ok (.getfield 65, 3) := by decide +kernel
theorem dX10_body_18 : decode cX10_body 18 = .ok (.iload_n 1, 1) := by decide +kernel
theorem dX10_body_19 : decode cX10_body 19 = .ok (.invokevirtual 232, 3) := by decide +kernel
theorem dX10_body_22 : decode cX10_body 22 = .ok (.ireturn, 1) := by decide +kernel
theorem dX10_act_0 : decode cX10_act 0 = .ok (.aload_n 0, 1) := by decide +kernel
theorem dX10_act_1 : decode cX10_act 1 = .ok (.getfield 65, 3) := by decide +kernel
theorem dX10_act_4 : decode cX10_act 4 = .ok (.iload_n 1, 1) := by decide +kernel
theorem dX10_act_5 : decode cX10_act 5 = .ok (.iload_n 2, 1) := by decide +kernel
theorem dX10_act_6 : decode cX10_act 6 = .ok (.iload_n 3, 1) := by decide +kernel
theorem dX10_act_7 : decode cX10_act 7 = .ok (.invokevirtual 234, 3) := by decide +kernel
theorem dX10_act_10 : decode cX10_act 10 = .ok (.ireturn, 1) := by decide +kernel
theorem dX10_trace_0 : decode cX10_trace 0 = .ok (.aload_n 0, 1) := by decide +kernel
theorem dX10_trace_1 : decode cX10_trace 1 = .ok (.getfield 65, 3) := by decide +kernel
theorem dX10_trace_4 : decode cX10_trace 4 = .ok (.iload_n 1, 1) := by decide +kernel
theorem dX10_trace_5 : decode cX10_trace 5 = .ok (.invokevirtual 237, 3) := by decide +kernel
theorem dX10_trace_8 : decode cX10_trace 8 = .ok (.ireturn, 1) := by decide +kernel
theorem dX10_keep_0 : decode cX10_keep 0 = .ok (.aload_n 0, 1) := by decide +kernel
theorem dX10_keep_1 : decode cX10_keep 1 = .ok (.getfield 72, 3) := by decide +kernel
theorem dX10_keep_4 : decode cX10_keep 4 = .ok (.iload_n 1, 1) := by decide +kernel
theorem dX10_keep_5 : decode cX10_keep 5 = .ok (.invokevirtual 130, 3) := by decide +kernel
theorem dX10_keep_8 : decode cX10_keep 8 = .ok (.ifCond .eq 19, 3) := by decide +kernel
theorem dX10_keep_11 : decode cX10_keep 11 = .ok (.iload_n 2, 1) := by decide +kernel
theorem dX10_keep_12 : decode cX10_keep 12 = .ok (.iconst (-1), 1) := by decide +kernel
theorem dX10_keep_13 : decode cX10_keep 13 = .ok (.if_icmp .eq 16, 3) := by decide +kernel
theorem dX10_keep_16 : decode cX10_keep 16 = .ok (.aload_n 0, 1) := by decide +kernel
theorem dX10_keep_17 : decode cX10_keep 17 = .ok (.getfield 65, 3) := by decide +kernel
theorem dX10_keep_20 : decode cX10_keep 20 = .ok (.iload_n 2, 1) := by decide +kernel
theorem dX10_keep_21 : decode cX10_keep 21 = .ok (.invokevirtual 240, 3) := by decide +kernel
theorem dX10_keep_24 : decode cX10_keep 24 = .ok (.ifCond .ne 5, 3) := by decide +kernel
theorem dX10_keep_27 : decode cX10_keep 27 = .ok (.iconst (-1), 1) := by decide +kernel
theorem dX10_keep_28 : decode cX10_keep 28 = .ok (.ireturn, 1) := by decide +kernel
theorem dX10_keep_29 : decode cX10_keep 29 = .ok (.aload_n 0, 1) := by decide +kernel
theorem dX10_keep_30 : decode cX10_keep 30 = .ok (.getfield 72, 3) := by decide +kernel
theorem dX10_keep_33 : decode cX10_keep 33 = .ok (.iload_n 1, 1) := by decide +kernel
theorem dX10_keep_34 : decode cX10_keep 34 = .ok (.iload_n 2, 1) := by decide +kernel
theorem dX10_keep_35 : decode cX10_keep 35 = .ok (.invokevirtual 241, 3) := by decide +kernel
theorem dX10_keep_38 : decode cX10_keep 38 = .ok (.iconst 1, 1) := by decide +kernel
theorem dX10_keep_39 : decode cX10_keep 39 = .ok (.ireturn, 1) := by decide +kernel
theorem dX10_row_0 : decode cX10_row 0 = .ok (.aload_n 0, 1) := by decide +kernel
theorem dX10_row_1 : decode cX10_row 1 = .ok (.getfield 72, 3) := by decide +kernel
theorem dX10_row_4 : decode cX10_row 4 = .ok (.iload_n 1, 1) := by decide +kernel
theorem dX10_row_5 : decode cX10_row 5 = .ok (.invokevirtual 130, 3) := by decide +kernel
theorem dX10_row_8 : decode cX10_row 8 = .ok (.ifCond .eq 18, 3) := by decide +kernel
theorem dX10_row_11 : decode cX10_row 11 = .ok (.iload_n 2, 1) := by decide +kernel
theorem dX10_row_12 : decode cX10_row 12 = .ok (.ifCond .lt 14, 3) := by decide +kernel
theorem dX10_row_15 : decode cX10_row 15 = .ok (.iload_n 2, 1) := by decide +kernel
theorem dX10_row_16 : decode cX10_row 16 = .ok (.iconst 4, 1) := by decide +kernel
theorem dX10_row_17 : decode cX10_row 17 = .ok (.if_icmp .gt 9, 3) := by decide +kernel
theorem dX10_row_20 : decode cX10_row 20 = .ok (.iload_n 3, 1) := by decide +kernel
theorem dX10_row_21 : decode cX10_row 21 = .ok (.bipush 60, 2) := by decide +kernel
theorem dX10_row_23 : decode cX10_row 23 = .ok (.if_icmp .le 5, 3) := by decide +kernel
theorem dX10_row_26 : decode cX10_row 26 = .ok (.iconst (-1), 1) := by decide +kernel
theorem dX10_row_27 : decode cX10_row 27 = .ok (.ireturn, 1) := by decide +kernel
theorem dX10_row_28 : decode cX10_row 28 = .ok (.iload_n 3, 1) := by decide +kernel
theorem dX10_row_29 : decode cX10_row 29 = .ok (.ifCond .ge 6, 3) := by decide +kernel
theorem dX10_row_32 : decode cX10_row 32 = .ok (.bipush (-14), 2) := by decide +kernel
theorem dX10_row_34 : decode cX10_row 34 = .ok (.ireturn, 1) := by decide +kernel
theorem dX10_row_35 : decode cX10_row 35 = .ok (.aload_n 0, 1) := by decide +kernel
theorem dX10_row_36 : decode cX10_row 36 = .ok (.getfield 72, 3) := by decide +kernel
theorem dX10_row_39 : decode cX10_row 39 = .ok (.iload_n 1, 1) := by decide +kernel
theorem dX10_row_40 : decode cX10_row 40 = .ok (.iload_n 2, 1) := by decide +kernel
theorem dX10_row_41 : decode cX10_row 41 = .ok (.iload_n 3, 1) := by decide +kernel
theorem dX10_row_42 : decode cX10_row 42 = .ok (.invokevirtual 244, 3) := by decide +kernel
theorem dX10_row_45 : decode cX10_row 45 = .ok (.iconst 1, 1) := by decide +kernel
theorem dX10_row_46 : decode cX10_row 46 = .ok (.ireturn, 1) := by decide +kernel
theorem dX10_put_0 : decode cX10_put 0 = .ok (.aload_n 0, 1) := by decide +kernel
theorem dX10_put_1 : decode cX10_put 1 = .ok (.getfield 72, 3) := by decide +kernel
theorem dX10_put_4 : decode cX10_put 4 = .ok (.iload_n 1, 1) := by decide +kernel
theorem dX10_put_5 : decode cX10_put 5 = .ok (.iload_n 2, 1) := by decide +kernel
theorem dX10_put_6 : decode cX10_put 6 = .ok (.invokevirtual 248, 3) := by decide +kernel
theorem dX10_put_9 : decode cX10_put 9 = .ok (.istore 5, 2) := by decide +kernel
theorem dX10_put_11 : decode cX10_put 11 = .ok (.iload 5, 2) := by decide +kernel
theorem dX10_put_13 : decode cX10_put 13 = .ok (.ifCond .eq 6, 3) := by decide +kernel
theorem dX10_put_16 : decode cX10_put 16 = .ok (.iload 5, 2) := by decide +kernel
theorem dX10_put_18 : decode cX10_put 18 = .ok (.ireturn, 1) := by decide +kernel
theorem dX10_put_19 : decode cX10_put 19 = .ok (.aload_n 0, 1) := by decide +kernel
theorem dX10_put_20 : decode cX10_put 20 = .ok (.getfield 72, 3) := by decide +kernel
theorem dX10_put_23 : decode cX10_put 23 = .ok (.iload_n 1, 1) := by decide +kernel
theorem dX10_put_24 : decode cX10_put 24 = .ok (.iload_n 2, 1) := by decide +kernel
theorem dX10_put_25 : decode cX10_put 25 = .ok (.lload_n 3, 1) := by decide +kernel
theorem dX10_put_26 : decode cX10_put 26 = .ok (.invokevirtual 251, 3) := by decide +kernel
theorem dX10_put_29 : decode cX10_put 29 = .ok (.iconst 1, 1) := by decide +kernel
theorem dX10_put_30 : decode cX10_put 30 = .ok (.ireturn, 1) := by decide +kernel
theorem dX10_element_0 : decode cX10_element 0 = .ok (.aload_n 0, 1) := by decide +kernel
theorem dX10_element_1 : decode cX10_element 1 = .ok (.getfield 72, 3) := by decide +kernel
theorem dX10_element_4 : decode cX10_element 4 = .ok (.iload_n 1, 1) := by decide +kernel
theorem dX10_element_5 : decode cX10_element 5 = .ok (.iload_n 2, 1) := by decide +kernel
theorem dX10_element_6 : decode cX10_element 6 = .ok (.invokevirtual 248, 3) := by decide +kernel
theorem dX10_element_9 : decode cX10_element 9 = .ok (.ifCond .ne 15, 3) := by decide +kernel
theorem dX10_element_12 : decode cX10_element 12 = .ok (.aload_n 0, 1) := by decide +kernel
theorem dX10_element_13 : decode cX10_element 13 = .ok (.getfield 72, 3) := by decide +kernel
theorem dX10_element_16 : decode cX10_element 16 = .ok (.iload_n 1, 1) := by decide +kernel
theorem dX10_element_17 : decode cX10_element 17 = .ok (.iload_n 2, 1) := by decide +kernel
theorem dX10_element_18 : decode cX10_element 18 = .ok (.invokevirtual 255, 3) := by decide +kernel
theorem dX10_element_21 : decode cX10_element 21 = .ok (.goto 6, 3) := by decide +kernel
theorem dX10_element_24 : decode cX10_element 24 = .ok (.ldc2_w 261, 3) := by decide +kernel
theorem dX10_element_27 : decode cX10_element 27 = .ok (.lreturn, 1) := by decide +kernel
theorem dX10_shift_0 : decode cX10_shift 0 = .ok (.aload_n 0, 1) := by decide +kernel
theorem dX10_shift_1 : decode cX10_shift 1 = .ok (.getfield 72, 3) := by decide +kernel
theorem dX10_shift_4 : decode cX10_shift 4 = .ok (.iload_n 1, 1) := by decide +kernel
theorem dX10_shift_5 : decode cX10_shift 5 = .ok (.invokevirtual 130, 3) := by decide +kernel
theorem dX10_shift_8 : decode cX10_shift 8 = .ok (.ifCond .eq 14, 3) := by decide +kernel
theorem dX10_shift_11 : decode cX10_shift 11 = .ok (.aload_n 0, 1) := by decide +kernel
theorem dX10_shift_12 : decode cX10_shift 12 = .ok (.getfield 72, 3) := by decide +kernel
theorem dX10_shift_15 : decode cX10_shift 15 = .ok (.iload_n 3, 1) := by decide +kernel
theorem dX10_shift_16 : decode cX10_shift 16 = .ok (.invokevirtual 130, 3) := by decide +kernel
theorem dX10_shift_19 : decode cX10_shift 19 = .ok (.ifCond .ne 5, 3) := by decide +kernel
theorem dX10_shift_22 : decode cX10_shift 22 = .ok (.iconst (-1), 1) := by decide +kernel
theorem dX10_shift_23 : decode cX10_shift 23 = .ok (.ireturn, 1) := by decide +kernel
theorem dX10_shift_24 : decode cX10_shift 24 = .ok (.aload_n 0, 1) := by decide +kernel
theorem dX10_shift_25 : decode cX10_shift 25 = .ok (.getfield 72, 3) := by decide +kernel
theorem dX10_shift_28 : decode cX10_shift 28 = .ok (.iload_n 1, 1) := by decide +kernel
theorem dX10_shift_29 : decode cX10_shift 29 = .ok (.invokevirtual 133, 3) := by decide +kernel
theorem dX10_shift_32 : decode cX10_shift 32 = .ok (.ifCond .ne 14, 3) := by decide +kernel
theorem dX10_shift_35 : decode cX10_shift 35 = .ok (.aload_n 0, 1) := by decide +kernel
theorem dX10_shift_36 : decode cX10_shift 36 = .ok (.getfield 72, 3) := by decide +kernel
theorem dX10_shift_39 : decode cX10_shift 39 = .ok (.iload_n 3, 1) := by decide +kernel
theorem dX10_shift_40 : decode cX10_shift 40 = .ok (.invokevirtual 133, 3) := by decide +kernel
theorem dX10_shift_43 : decode cX10_shift 43 = .ok (.ifCond .eq 6, 3) := by decide +kernel
theorem dX10_shift_46 : decode cX10_shift 46 = .ok (.bipush (-11), 2) := by decide +kernel
theorem dX10_shift_48 : decode cX10_shift 48 = .ok (.ireturn, 1) := by decide +kernel
theorem dX10_shift_49 : decode cX10_shift 49 = .ok (.aload_n 0, 1) := by decide +kernel
theorem dX10_shift_50 : decode cX10_shift 50 = .ok (.getfield 72, 3) := by decide +kernel
theorem dX10_shift_53 : decode cX10_shift 53 = .ok (.iload_n 1, 1) := by decide +kernel
theorem dX10_shift_54 : decode cX10_shift 54 = .ok (.iload_n 3, 1) := by decide +kernel
theorem dX10_shift_55 : decode cX10_shift 55 = .ok (.invokevirtual 263, 3) := by decide +kernel
theorem dX10_shift_58 : decode cX10_shift 58 = .ok (.ifCond .ne 6, 3) := by decide +kernel
theorem dX10_shift_61 : decode cX10_shift 61 = .ok (.bipush (-12), 2) := by decide +kernel
theorem dX10_shift_63 : decode cX10_shift 63 = .ok (.ireturn, 1) := by decide +kernel
theorem dX10_shift_64 : decode cX10_shift 64 = .ok (.aload_n 0, 1) := by decide +kernel
theorem dX10_shift_65 : decode cX10_shift 65 = .ok (.getfield 72, 3) := by decide +kernel
theorem dX10_shift_68 : decode cX10_shift 68 = .ok (.iload_n 1, 1) := by decide +kernel
theorem dX10_shift_69 : decode cX10_shift 69 = .ok (.iload_n 2, 1) := by decide +kernel
theorem dX10_shift_70 : decode cX10_shift 70 = .ok (.iload 5, 2) := by decide +kernel
theorem dX10_shift_72 : decode cX10_shift 72 = .ok (.invokevirtual 266, 3) := by decide +kernel
theorem dX10_shift_75 : decode cX10_shift 75 = .ok (.ifCond .eq 18, 3) := by decide +kernel
theorem dX10_shift_78 : decode cX10_shift 78 = .ok (.aload_n 0, 1) := by decide +kernel
theorem dX10_shift_79 : decode cX10_shift 79 = .ok (.getfield 72, 3) := by decide +kernel
theorem dX10_shift_82 : decode cX10_shift 82 = .ok (.iload_n 3, 1) := by decide +kernel
theorem dX10_shift_83 : decode cX10_shift 83 = .ok (.iload 4, 2) := by decide +kernel
theorem dX10_shift_85 : decode cX10_shift 85 = .ok (.iload 5, 2) := by decide +kernel
theorem dX10_shift_87 : decode cX10_shift 87 = .ok (.invokevirtual 266, 3) := by decide +kernel
theorem dX10_shift_90 : decode cX10_shift 90 = .ok (.ifCond .ne 6, 3) := by decide +kernel
theorem dX10_shift_93 : decode cX10_shift 93 = .ok (.bipush (-13), 2) := by decide +kernel
theorem dX10_shift_95 : decode cX10_shift 95 = .ok (.ireturn, 1) := by decide +kernel
theorem dX10_shift_96 : decode cX10_shift 96 = .ok (.aload_n 0, 1) := by decide +kernel
theorem dX10_shift_97 : decode cX10_shift 97 = .ok (.getfield 72, 3) := by decide +kernel
theorem dX10_shift_100 : decode cX10_shift 100 = .ok (.iload_n 1, 1) := by decide +kernel
theorem dX10_shift_101 : decode cX10_shift 101 = .ok (.iload_n 2, 1) := by decide +kernel
theorem dX10_shift_102 : decode cX10_shift 102 = .ok (.iload_n 3, 1) := by decide +kernel
theorem dX10_shift_103 : decode cX10_shift 103 = .ok (.iload 4, 2) := by decide +kernel
theorem dX10_shift_105 : decode cX10_shift 105 = .ok (.iload 5, 2) := by decide +kernel
theorem dX10_shift_107 : decode cX10_shift 107 = .ok (.invokevirtual 269, 3) := by decide +kernel
theorem dX10_shift_110 : decode cX10_shift 110 = .ok (.iload 5, 2) := by decide +kernel
theorem dX10_shift_112 : decode cX10_shift 112 = .ok (.ireturn, 1) := by decide +kernel
theorem dX10_taken_0 : decode cX10_taken 0 = .ok (.aload_n 0, 1) := by decide +kernel
theorem dX10_taken_1 : decode cX10_taken 1 = .ok (.getfield 72, 3) := by decide +kernel
theorem dX10_taken_4 : decode cX10_taken 4 = .ok (.iload_n 1, 1) := by decide +kernel
theorem dX10_taken_5 : decode cX10_taken 5 = .ok (.invokevirtual 130, 3) := by decide +kernel
theorem dX10_taken_8 : decode cX10_taken 8 = .ok (.ifCond .eq 13, 3) := by decide +kernel
theorem dX10_taken_11 : decode cX10_taken 11 = .ok (.iload_n 2, 1) := by decide +kernel
theorem dX10_taken_12 : decode cX10_taken 12 = .ok (.ifCond .lt 9, 3) := by decide +kernel
theorem dX10_taken_15 : decode cX10_taken 15 = .ok (.iload_n 2, 1) := by decide +kernel
theorem dX10_taken_16 : decode cX10_taken 16 = .ok (.bipush 8, 2) := by decide +kernel
theorem dX10_taken_18 : decode cX10_taken 18 = .ok (.if_icmp .lt 5, 3) := by decide +kernel
theorem dX10_taken_21 : decode cX10_taken 21 = .ok (.iconst (-1), 1) := by decide +kernel
theorem dX10_taken_22 : decode cX10_taken 22 = .ok (.ireturn, 1) := by decide +kernel
theorem dX10_taken_23 : decode cX10_taken 23 = .ok (.aload_n 0, 1) := by decide +kernel
theorem dX10_taken_24 : decode cX10_taken 24 = .ok (.getfield 72, 3) := by decide +kernel
theorem dX10_taken_27 : decode cX10_taken 27 = .ok (.iload_n 1, 1) := by decide +kernel
theorem dX10_taken_28 : decode cX10_taken 28 = .ok (.invokevirtual 133, 3) := by decide +kernel
theorem dX10_taken_31 : decode cX10_taken 31 = .ok (.ifCond .eq 6, 3) := by decide +kernel
theorem dX10_taken_34 : decode cX10_taken 34 = .ok (.bipush (-11), 2) := by decide +kernel
theorem dX10_taken_36 : decode cX10_taken 36 = .ok (.ireturn, 1) := by decide +kernel
theorem dX10_taken_37 : decode cX10_taken 37 = .ok (.aload_n 0, 1) := by decide +kernel
theorem dX10_taken_38 : decode cX10_taken 38 = .ok (.getfield 65, 3) := by decide +kernel
theorem dX10_taken_41 : decode cX10_taken 41 = .ok (.aload_n 0, 1) := by decide +kernel
theorem dX10_taken_42 : decode cX10_taken 42 = .ok (.getfield 72, 3) := by decide +kernel
theorem dX10_taken_45 : decode cX10_taken 45 = .ok (.iload_n 1, 1) := by decide +kernel
theorem dX10_taken_46 : decode cX10_taken 46 = .ok (.invokevirtual 273, 3) := by decide +kernel
theorem dX10_taken_49 : decode cX10_taken 49 = .ok (.invokevirtual 276, 3) := by decide +kernel
theorem dX10_taken_52 : decode cX10_taken 52 = .ok (.istore_n 3, 1) := by decide +kernel
theorem dX10_taken_53 : decode cX10_taken 53 = .ok (.aload_n 0, 1) := by decide +kernel
theorem dX10_taken_54 : decode cX10_taken 54 = .ok (.getfield 65, 3) := by decide +kernel
theorem dX10_taken_57 : decode cX10_taken 57 = .ok (.iload_n 3, 1) := by decide +kernel
theorem dX10_taken_58 : decode cX10_taken 58 = .ok (.iload_n 2, 1) := by decide +kernel
theorem dX10_taken_59 : decode cX10_taken 59 = .ok (.invokevirtual 279, 3) := by decide +kernel
theorem dX10_taken_62 : decode cX10_taken 62 = .ok (.ifCond .eq 7, 3) := by decide +kernel
theorem dX10_taken_65 : decode cX10_taken 65 = .ok (.iload_n 3, 1) := by decide +kernel
theorem dX10_taken_66 : decode cX10_taken 66 = .ok (.goto 5, 3) := by decide +kernel
theorem dX10_taken_69 : decode cX10_taken 69 = .ok (.bipush (-12), 2) := by decide +kernel
theorem dX10_taken_71 : decode cX10_taken 71 = .ok (.ireturn, 1) := by decide +kernel
theorem dX10_count_0 : decode cX10_count 0 = .ok (.iload_n 1, 1) := by decide +kernel
theorem dX10_count_1 : decode cX10_count 1 = .ok (.tableswitch 111 0 7 #[47, 55, 63, 71, 79, 87, 95, 103], 47) := by decide +kernel
theorem dX10_count_48 : decode cX10_count 48 = .ok (.aload_n 0, 1) := by decide +kernel
theorem dX10_count_49 : decode cX10_count 49 = .ok (.getfield 10, 3) := by decide +kernel
theorem dX10_count_52 : decode cX10_count 52 = .ok (.invokevirtual 196, 3) := by decide +kernel
theorem dX10_count_55 : decode cX10_count 55 = .ok (.ireturn, 1) := by decide +kernel
theorem dX10_count_56 : decode cX10_count 56 = .ok (.aload_n 0, 1) := by decide +kernel
theorem dX10_count_57 : decode cX10_count 57 = .ok (.getfield 10, 3) := by decide +kernel
theorem dX10_count_60 : decode cX10_count 60 = .ok (.invokevirtual 282, 3) := by decide +kernel
theorem dX10_count_63 : decode cX10_count 63 = .ok (.ireturn, 1) := by decide +kernel
theorem dX10_count_64 : decode cX10_count 64 = .ok (.aload_n 0, 1) := by decide +kernel
theorem dX10_count_65 : decode cX10_count 65 = .ok (.getfield 26, 3) := by decide +kernel
theorem dX10_count_68 : decode cX10_count 68 = .ok (.invokevirtual 217, 3) := by decide +kernel
theorem dX10_count_71 : decode cX10_count 71 = .ok (.ireturn, 1) := by decide +kernel
theorem dX10_count_72 : decode cX10_count 72 = .ok (.aload_n 0, 1) := by decide +kernel
theorem dX10_count_73 : decode cX10_count 73 = .ok (.getfield 51, 3) := by decide +kernel
theorem dX10_count_76 : decode cX10_count 76 = .ok (.invokevirtual 285, 3) := by decide +kernel
theorem dX10_count_79 : decode cX10_count 79 = .ok (.ireturn, 1) := by decide +kernel
theorem dX10_count_80 : decode cX10_count 80 = .ok (.aload_n 0, 1) := by decide +kernel
theorem dX10_count_81 : decode cX10_count 81 = .ok (.getfield 19, 3) := by decide +kernel
theorem dX10_count_84 : decode cX10_count 84 = .ok (.invokevirtual 286, 3) := by decide +kernel
theorem dX10_count_87 : decode cX10_count 87 = .ok (.ireturn, 1) := by decide +kernel
theorem dX10_count_88 : decode cX10_count 88 = .ok (.aload_n 0, 1) := by decide +kernel
theorem dX10_count_89 : decode cX10_count 89 = .ok (.getfield 58, 3) := by decide +kernel
theorem dX10_count_92 : decode cX10_count 92 = .ok (.invokevirtual 287, 3) := by decide +kernel
theorem dX10_count_95 : decode cX10_count 95 = .ok (.ireturn, 1) := by decide +kernel
theorem dX10_count_96 : decode cX10_count 96 = .ok (.aload_n 0, 1) := by decide +kernel
theorem dX10_count_97 : decode cX10_count 97 = .ok (.getfield 65, 3) := by decide +kernel
theorem dX10_count_100 : decode cX10_count 100 = .ok (.invokevirtual 288, 3) := by decide +kernel
theorem dX10_count_103 : decode cX10_count 103 = .ok (.ireturn, 1) := by decide +kernel
theorem dX10_count_104 : decode cX10_count 104 = .ok (.aload_n 0, 1) := by decide +kernel
theorem dX10_count_105 : decode cX10_count 105 = .ok (.getfield 65, 3) := by decide +kernel
theorem dX10_count_108 : decode cX10_count 108 = .ok (.invokevirtual 289, 3) := by decide +kernel
theorem dX10_count_111 : decode cX10_count 111 = .ok (.ireturn, 1) := by decide +kernel
theorem dX10_count_112 : decode cX10_count 112 = .ok (.iconst (-1), 1) := by decide +kernel
theorem dX10_count_113 : decode cX10_count 113 = .ok (.ireturn, 1) := by decide +kernel
theorem dX10_isPlace_0 : decode cX10_isPlace 0 = .ok (.aload_n 0, 1) := by decide +kernel
theorem dX10_isPlace_1 : decode cX10_isPlace 1 = .ok (.getfield 10, 3) := by decide +kernel
theorem dX10_isPlace_4 : decode cX10_isPlace 4 = .ok (.iload_n 1, 1) := by decide +kernel
theorem dX10_isPlace_5 : decode cX10_isPlace 5 = .ok (.invokevirtual 84, 3) := by decide +kernel
theorem dX10_isPlace_8 : decode cX10_isPlace 8 = .ok (.ifCond .eq 18, 3) := by decide +kernel
theorem dX10_isPlace_11 : decode cX10_isPlace 11 = .ok (.iload_n 2, 1) := by decide +kernel
theorem dX10_isPlace_12 : decode cX10_isPlace 12 = .ok (.ifCond .lt 14, 3) := by decide +kernel
theorem dX10_isPlace_15 : decode cX10_isPlace 15 = .ok (.iload_n 2, 1) := by decide +kernel
theorem dX10_isPlace_16 : decode cX10_isPlace 16 = .ok (.ldc_w 292, 3) := by decide +kernel
theorem dX10_isPlace_19 : decode cX10_isPlace 19 = .ok (.if_icmp .gt 7, 3) := by decide +kernel
theorem dX10_isPlace_22 : decode cX10_isPlace 22 = .ok (.iconst 1, 1) := by decide +kernel
theorem dX10_isPlace_23 : decode cX10_isPlace 23 = .ok (.goto 4, 3) := by decide +kernel
theorem dX10_isPlace_26 : decode cX10_isPlace 26 = .ok (.iconst 0, 1) := by decide +kernel
theorem dX10_isPlace_27 : decode cX10_isPlace 27 = .ok (.ireturn, 1) := by decide +kernel
theorem dX10_isCase_0 : decode cX10_isCase 0 = .ok (.iload_n 1, 1) := by decide +kernel
theorem dX10_isCase_1 : decode cX10_isCase 1 = .ok (.ifCond .lt 33, 3) := by decide +kernel
theorem dX10_isCase_4 : decode cX10_isCase 4 = .ok (.aload_n 0, 1) := by decide +kernel
theorem dX10_isCase_5 : decode cX10_isCase 5 = .ok (.getfield 26, 3) := by decide +kernel
theorem dX10_isCase_8 : decode cX10_isCase 8 = .ok (.iload_n 1, 1) := by decide +kernel
theorem dX10_isCase_9 : decode cX10_isCase 9 = .ok (.bipush 10, 2) := by decide +kernel
theorem dX10_isCase_11 : decode cX10_isCase 11 = .ok (.idiv, 1) := by decide +kernel
theorem dX10_isCase_12 : decode cX10_isCase 12 = .ok (.invokevirtual 142, 3) := by decide +kernel
theorem dX10_isCase_15 : decode cX10_isCase 15 = .ok (.ifCond .eq 19, 3) := by decide +kernel
theorem dX10_isCase_18 : decode cX10_isCase 18 = .ok (.aload_n 0, 1) := by decide +kernel
theorem dX10_isCase_19 : decode cX10_isCase 19 = .ok (.iload_n 1, 1) := by decide +kernel
theorem dX10_isCase_20 : decode cX10_isCase 20 = .ok (.bipush 10, 2) := by decide +kernel
theorem dX10_isCase_22 : decode cX10_isCase 22 = .ok (.irem, 1) := by decide +kernel
theorem dX10_isCase_23 : decode cX10_isCase 23 = .ok (.iload_n 2, 1) := by decide +kernel
theorem dX10_isCase_24 : decode cX10_isCase 24 = .ok (.invokevirtual 115, 3) := by decide +kernel
theorem dX10_isCase_27 : decode cX10_isCase 27 = .ok (.ifCond .eq 7, 3) := by decide +kernel
theorem dX10_isCase_30 : decode cX10_isCase 30 = .ok (.iconst 1, 1) := by decide +kernel
theorem dX10_isCase_31 : decode cX10_isCase 31 = .ok (.goto 4, 3) := by decide +kernel
theorem dX10_isCase_34 : decode cX10_isCase 34 = .ok (.iconst 0, 1) := by decide +kernel
theorem dX10_isCase_35 : decode cX10_isCase 35 = .ok (.ireturn, 1) := by decide +kernel
theorem dX10_deedFromRow_0 : decode cX10_deedFromRow 0 = .ok (.aload_n 0, 1) := by decide +kernel
theorem dX10_deedFromRow_1 : decode cX10_deedFromRow 1 = .ok (.getfield 72, 3) := by decide +kernel
theorem dX10_deedFromRow_4 : decode cX10_deedFromRow 4 = .ok (.iload_n 1, 1) := by decide +kernel
theorem dX10_deedFromRow_5 : decode cX10_deedFromRow 5 = .ok (.invokevirtual 136, 3) := by decide +kernel
theorem dX10_deedFromRow_8 : decode cX10_deedFromRow 8 = .ok (.ifCond .eq 18, 3) := by decide +kernel
theorem dX10_deedFromRow_11 : decode cX10_deedFromRow 11 = .ok (.aload_n 0, 1) := by decide +kernel
theorem dX10_deedFromRow_12 : decode cX10_deedFromRow 12 = .ok (.getfield 72, 3) := by decide +kernel
theorem dX10_deedFromRow_15 : decode cX10_deedFromRow 15 = .ok (.iload_n 1, 1) := by decide +kernel
theorem dX10_deedFromRow_16 : decode cX10_deedFromRow 16 = .ok (.iload_n 2, 1) := by decide +kernel
theorem dX10_deedFromRow_17 : decode cX10_deedFromRow 17 = .ok (.iload_n 3, 1) := by decide +kernel
theorem dX10_deedFromRow_18 : decode cX10_deedFromRow 18 = .ok (.iconst 4, 1) := by decide +kernel
theorem dX10_deedFromRow_19 : decode cX10_deedFromRow 19 = .ok (.iadd, 1) := by decide +kernel
theorem dX10_deedFromRow_20 : decode cX10_deedFromRow 20 = .ok (.invokevirtual 266, 3) := by decide +kernel
theorem dX10_deedFromRow_23 : decode cX10_deedFromRow 23 = .ok (.ifCond .ne 5, 3) := by decide +kernel
theorem dX10_deedFromRow_26 : decode cX10_deedFromRow 26 = .ok (.iconst 0, 1) := by decide +kernel
theorem dX10_deedFromRow_27 : decode cX10_deedFromRow 27 = .ok (.ireturn, 1) := by decide +kernel
theorem dX10_deedFromRow_28 : decode cX10_deedFromRow 28 = .ok (.iload_n 2, 1) := by decide +kernel
theorem dX10_deedFromRow_29 : decode cX10_deedFromRow 29 = .ok (.iload_n 3, 1) := by decide +kernel
theorem dX10_deedFromRow_30 : decode cX10_deedFromRow 30 = .ok (.iadd, 1) := by decide +kernel
theorem dX10_deedFromRow_31 : decode cX10_deedFromRow 31 = .ok (.istore 4, 2) := by decide +kernel
theorem dX10_deedFromRow_33 : decode cX10_deedFromRow 33 = .ok (.aload_n 0, 1) := by decide +kernel
theorem dX10_deedFromRow_34 : decode cX10_deedFromRow 34 = .ok (.getfield 72, 3) := by decide +kernel
theorem dX10_deedFromRow_37 : decode cX10_deedFromRow 37 = .ok (.iload_n 1, 1) := by decide +kernel
theorem dX10_deedFromRow_38 : decode cX10_deedFromRow 38 = .ok (.iload 4, 2) := by decide +kernel
theorem dX10_deedFromRow_40 : decode cX10_deedFromRow 40 = .ok (.invokevirtual 255, 3) := by decide +kernel
theorem dX10_deedFromRow_43 : decode cX10_deedFromRow 43 = .ok (.l2i, 1) := by decide +kernel
theorem dX10_deedFromRow_44 : decode cX10_deedFromRow 44 = .ok (.istore 5, 2) := by decide +kernel
theorem dX10_deedFromRow_46 : decode cX10_deedFromRow 46 = .ok (.aload_n 0, 1) := by decide +kernel
theorem dX10_deedFromRow_47 : decode cX10_deedFromRow 47 = .ok (.getfield 72, 3) := by decide +kernel
theorem dX10_deedFromRow_50 : decode cX10_deedFromRow 50 = .ok (.iload_n 1, 1) := by decide +kernel
theorem dX10_deedFromRow_51 : decode cX10_deedFromRow 51 = .ok (.iload 4, 2) := by decide +kernel
theorem dX10_deedFromRow_53 : decode cX10_deedFromRow 53 = .ok (.iconst 1, 1) := by decide +kernel
theorem dX10_deedFromRow_54 : decode cX10_deedFromRow 54 = .ok (.iadd, 1) := by decide +kernel
theorem dX10_deedFromRow_55 : decode cX10_deedFromRow 55 = .ok (.invokevirtual 255, 3) := by decide +kernel
theorem dX10_deedFromRow_58 : decode cX10_deedFromRow 58 = .ok (.l2i, 1) := by decide +kernel
theorem dX10_deedFromRow_59 : decode cX10_deedFromRow 59 = .ok (.istore 6, 2) := by decide +kernel
theorem dX10_deedFromRow_61 : decode cX10_deedFromRow 61 = .ok (.aload_n 0, 1) := by decide +kernel
theorem dX10_deedFromRow_62 : decode cX10_deedFromRow 62 = .ok (.getfield 72, 3) := by decide +kernel
theorem dX10_deedFromRow_65 : decode cX10_deedFromRow 65 = .ok (.iload_n 1, 1) := by decide +kernel
theorem dX10_deedFromRow_66 : decode cX10_deedFromRow 66 = .ok (.iload 4, 2) := by decide +kernel
theorem dX10_deedFromRow_68 : decode cX10_deedFromRow 68 = .ok (.iconst 2, 1) := by decide +kernel
theorem dX10_deedFromRow_69 : decode cX10_deedFromRow 69 = .ok (.iadd, 1) := by decide +kernel
theorem dX10_deedFromRow_70 : decode cX10_deedFromRow 70 = .ok (.invokevirtual 255, 3) := by decide +kernel
theorem dX10_deedFromRow_73 : decode cX10_deedFromRow 73 = .ok (.l2i, 1) := by decide +kernel
theorem dX10_deedFromRow_74 : decode cX10_deedFromRow 74 = .ok (.istore 7, 2) := by decide +kernel
theorem dX10_deedFromRow_76 : decode cX10_deedFromRow 76 = .ok (.aload_n 0, 1) := by decide +kernel
theorem dX10_deedFromRow_77 : decode cX10_deedFromRow 77 = .ok (.getfield 72, 3) := by decide +kernel
theorem dX10_deedFromRow_80 : decode cX10_deedFromRow 80 = .ok (.iload_n 1, 1) := by decide +kernel
theorem dX10_deedFromRow_81 : decode cX10_deedFromRow 81 = .ok (.iload 4, 2) := by decide +kernel
theorem dX10_deedFromRow_83 : decode cX10_deedFromRow 83 = .ok (.iconst 3, 1) := by decide +kernel
theorem dX10_deedFromRow_84 : decode cX10_deedFromRow 84 = .ok (.iadd, 1) := by decide +kernel
theorem dX10_deedFromRow_85 : decode cX10_deedFromRow 85 = .ok (.invokevirtual 255, 3) := by decide +kernel
theorem dX10_deedFromRow_88 : decode cX10_deedFromRow 88 = .ok (.l2i, 1) := by decide +kernel
theorem dX10_deedFromRow_89 : decode cX10_deedFromRow 89 = .ok (.istore 8, 2) := by decide +kernel
theorem dX10_deedFromRow_91 : decode cX10_deedFromRow 91 = .ok (.aload_n 0, 1) := by decide +kernel
theorem dX10_deedFromRow_92 : decode cX10_deedFromRow 92 = .ok (.getfield 26, 3) := by decide +kernel
theorem dX10_deedFromRow_95 : decode cX10_deedFromRow 95 = .ok (.iload 5, 2) := by decide +kernel
theorem dX10_deedFromRow_97 : decode cX10_deedFromRow 97 = .ok (.iload 6, 2) := by decide +kernel
theorem dX10_deedFromRow_99 : decode cX10_deedFromRow 99 = .ok (.iload 7, 2) := by decide +kernel
theorem dX10_deedFromRow_101 : decode cX10_deedFromRow 101 = .ok (.iload 8, 2) := by decide +kernel
theorem dX10_deedFromRow_103 : decode cX10_deedFromRow 103 = .ok (.invokevirtual 123, 3) := by decide +kernel
theorem dX10_deedFromRow_106 : decode cX10_deedFromRow 106 = .ok (.ifCond .eq 25, 3) := by decide +kernel
theorem dX10_deedFromRow_109 : decode cX10_deedFromRow 109 = .ok (.aload_n 0, 1) := by decide +kernel
theorem dX10_deedFromRow_110 : decode cX10_deedFromRow 110 = .ok (.getfield 26, 3) := by decide +kernel
theorem dX10_deedFromRow_113 : decode cX10_deedFromRow 113 = .ok (.iload 5, 2) := by decide +kernel
theorem dX10_deedFromRow_115 : decode cX10_deedFromRow 115 = .ok (.iload 6, 2) := by decide +kernel
theorem dX10_deedFromRow_117 : decode cX10_deedFromRow 117 = .ok (.iload 7, 2) := by decide +kernel
theorem dX10_deedFromRow_119 : decode cX10_deedFromRow 119 = .ok (.iload 8, 2) := by decide +kernel
theorem dX10_deedFromRow_121 : decode cX10_deedFromRow 121 = .ok (.invokevirtual 126, 3) := by decide +kernel
theorem dX10_deedFromRow_124 : decode cX10_deedFromRow 124 = .ok (.ifCond .lt 7, 3) := by decide +kernel
theorem dX10_deedFromRow_127 : decode cX10_deedFromRow 127 = .ok (.iconst 1, 1) := by decide +kernel
theorem dX10_deedFromRow_128 : decode cX10_deedFromRow 128 = .ok (.goto 4, 3) := by decide +kernel
theorem dX10_deedFromRow_131 : decode cX10_deedFromRow 131 = .ok (.iconst 0, 1) := by decide +kernel
theorem dX10_deedFromRow_132 : decode cX10_deedFromRow 132 = .ok (.ireturn, 1) := by decide +kernel
