theorem dX0_init_0 : decode cX0_init 0 = .ok (.aload_n 0, 1) := by decide +kernel
theorem dX0_init_1 : decode cX0_init 1 = .ok (.invokespecial 3, 3) := by decide +kernel
theorem dX0_init_4 : decode cX0_init 4 = .ok (.aload_n 0, 1) := by decide +kernel
theorem dX0_init_5 : decode cX0_init 5 = .ok (.bipush 30, 2) := by decide +kernel
theorem dX0_init_7 : decode cX0_init 7 = .ok (.anewarray 9, 3) := by decide +kernel
theorem dX0_init_10 : decode cX0_init 10 = .ok (.putfield 11, 3) := by decide +kernel
theorem dX0_init_13 : decode cX0_init 13 = .ok (.iconst 0, 1) := by decide +kernel
theorem dX0_init_14 : decode cX0_init 14 = .ok (.istore_n 1, 1) := by decide +kernel
theorem dX0_init_15 : decode cX0_init 15 = .ok (.iload_n 1, 1) := by decide +kernel
theorem dX0_init_16 : decode cX0_init 16 = .ok (.bipush 30, 2) := by decide +kernel
theorem dX0_init_18 : decode cX0_init 18 = .ok (.if_icmp .ge 22, 3) := by decide +kernel
theorem dX0_init_21 : decode cX0_init 21 = .ok (.aload_n 0, 1) := by decide +kernel
theorem dX0_init_22 : decode cX0_init 22 = .ok (.getfield 11, 3) := by decide +kernel
theorem dX0_init_25 : decode cX0_init 25 = .ok (.iload_n 1, 1) := by decide +kernel
theorem dX0_init_26 : decode cX0_init 26 = .ok (.new 9, 3) := by decide +kernel
theorem dX0_init_29 : decode cX0_init 29 = .ok (.dup, 1) := by decide +kernel
theorem dX0_init_30 : decode cX0_init 30 = .ok (.invokespecial 17, 3) := by decide +kernel
theorem dX0_init_33 : decode cX0_init 33 = .ok (.aastore, 1) := by decide +kernel
theorem dX0_init_34 : decode cX0_init 34 = .ok (.iinc 1 1, 3) := by decide +kernel
theorem dX0_init_37 : decode cX0_init 37 = .ok (.goto (-22), 3) := by decide +kernel
theorem dX0_init_40 : decode cX0_init 40 = .ok (.return_, 1) := by decide +kernel
theorem dX0_remember_0 : decode cX0_remember 0 = .ok (.aload_n 0, 1) := by decide +kernel
theorem dX0_remember_1 : decode cX0_remember 1 = .ok (.getfield 11, 3) := by decide +kernel
theorem dX0_remember_4 : decode cX0_remember 4 = .ok (.aload_n 0, 1) := by decide +kernel
theorem dX0_remember_5 : decode cX0_remember 5 = .ok (.getfield 18, 3) := by decide +kernel
theorem dX0_remember_8 : decode cX0_remember 8 = .ok (.aaload, 1) := by decide +kernel
theorem dX0_remember_9 : decode cX0_remember 9 = .ok (.aload_n 1, 1) := by decide +kernel
theorem dX0_remember_10 : decode cX0_remember 10 = .ok (.invokevirtual 22, 3) := by decide +kernel
theorem dX0_remember_13 : decode cX0_remember 13 = .ok (.aload_n 0, 1) := by decide +kernel
theorem dX0_remember_14 : decode cX0_remember 14 = .ok (.aload_n 0, 1) := by decide +kernel
theorem dX0_remember_15 : decode cX0_remember 15 = .ok (.getfield 18, 3) := by decide +kernel
theorem dX0_remember_18 : decode cX0_remember 18 = .ok (.iconst 1, 1) := by decide +kernel
theorem dX0_remember_19 : decode cX0_remember 19 = .ok (.iadd, 1) := by decide +kernel
theorem dX0_remember_20 : decode cX0_remember 20 = .ok (.bipush 30, 2) := by decide +kernel
theorem dX0_remember_22 : decode cX0_remember 22 = .ok (.irem, 1) := by decide +kernel
theorem dX0_remember_23 : decode cX0_remember 23 = .ok (.putfield 18, 3) := by decide +kernel
theorem dX0_remember_26 : decode cX0_remember 26 = .ok (.aload_n 0, 1) := by decide +kernel
theorem dX0_remember_27 : decode cX0_remember 27 = .ok (.aload_n 0, 1) := by decide +kernel
theorem dX0_remember_28 : decode cX0_remember 28 = .ok (.getfield 26, 3) := by decide +kernel
theorem dX0_remember_31 : decode cX0_remember 31 = .ok (.iconst 1, 1) := by decide +kernel
theorem dX0_remember_32 : decode cX0_remember 32 = .ok (.iadd, 1) := by decide +kernel
theorem dX0_remember_33 : decode cX0_remember 33 = .ok (.bipush 30, 2) := by decide +kernel
theorem dX0_remember_35 : decode cX0_remember 35 = .ok (.invokestatic 29, 3) := by decide +kernel
theorem dX0_remember_38 : decode cX0_remember 38 = .ok (.putfield 26, 3) := by decide +kernel
theorem dX0_remember_41 : decode cX0_remember 41 = .ok (.return_, 1) := by decide +kernel
theorem dX0_takeBack_0 : decode cX0_takeBack 0 = .ok (.aload_n 0, 1) := by decide +kernel
theorem dX0_takeBack_1 : decode cX0_takeBack 1 = .ok (.aload_n 0, 1) := by decide +kernel
theorem dX0_takeBack_2 : decode cX0_takeBack 2 = .ok (.getfield 18, 3) := by decide +kernel
theorem dX0_takeBack_5 : decode cX0_takeBack 5 = .ok (.iload_n 1, 1) := by decide +kernel
theorem dX0_takeBack_6 : decode cX0_takeBack 6 = .ok (.isub, 1) := by decide +kernel
theorem dX0_takeBack_7 : decode cX0_takeBack 7 = .ok (.i2l, 1) := by decide +kernel
theorem dX0_takeBack_8 : decode cX0_takeBack 8 = .ok (.ldc2_w 35, 3) := by decide +kernel
theorem dX0_takeBack_11 : decode cX0_takeBack 11 = .ok (.invokestatic 37, 3) := by decide +kernel
theorem dX0_takeBack_14 : decode cX0_takeBack 14 = .ok (.l2i, 1) := by decide +kernel
theorem dX0_takeBack_15 : decode cX0_takeBack 15 = .ok (.putfield 18, 3) := by decide +kernel
theorem dX0_takeBack_18 : decode cX0_takeBack 18 = .ok (.aload_n 0, 1) := by decide +kernel
theorem dX0_takeBack_19 : decode cX0_takeBack 19 = .ok (.dup, 1) := by decide +kernel
theorem dX0_takeBack_20 : decode cX0_takeBack 20 = .ok (.getfield 26, 3) := by decide +kernel
theorem dX0_takeBack_23 : decode cX0_takeBack 23 = .ok (.iload_n 1, 1) := by decide +kernel
theorem dX0_takeBack_24 : decode cX0_takeBack 24 = .ok (.isub, 1) := by decide +kernel
theorem dX0_takeBack_25 : decode cX0_takeBack 25 = .ok (.putfield 26, 3) := by decide +kernel
theorem dX0_takeBack_28 : decode cX0_takeBack 28 = .ok (.aload_n 2, 1) := by decide +kernel
theorem dX0_takeBack_29 : decode cX0_takeBack 29 = .ok (.aload_n 0, 1) := by decide +kernel
theorem dX0_takeBack_30 : decode cX0_takeBack 30 = .ok (.getfield 11, 3) := by decide +kernel
theorem dX0_takeBack_33 : decode cX0_takeBack 33 = .ok (.aload_n 0, 1) := by decide +kernel
theorem dX0_takeBack_34 : decode cX0_takeBack 34 = .ok (.getfield 18, 3) := by decide +kernel
theorem dX0_takeBack_37 : decode cX0_takeBack 37 = .ok (.aaload, 1) := by decide +kernel
theorem dX0_takeBack_38 : decode cX0_takeBack 38 = .ok (.invokevirtual 22, 3) := by decide +kernel
theorem dX0_takeBack_41 : decode cX0_takeBack 41 = .ok (.return_, 1) := by decide +kernel
theorem dX1_init_0 : decode cX1_init 0 = .ok (.aload_n 0, 1) := by decide +kernel
theorem dX1_init_1 : decode cX1_init 1 = .ok (.invokespecial 1, 3) := by decide +kernel
theorem dX1_init_4 : decode cX1_init 4 = .ok (.aload_n 0, 1) := by decide +kernel
theorem dX1_init_5 : decode cX1_init 5 = .ok (.new 7, 3) := by decide +kernel
theorem dX1_init_8 : decode cX1_init 8 = .ok (.dup, 1) := by decide +kernel
theorem dX1_init_9 : decode cX1_init 9 = .ok (.invokespecial 9, 3) := by decide +kernel
theorem dX1_init_12 : decode cX1_init 12 = .ok (.putfield 10, 3) := by decide +kernel
theorem dX1_init_15 : decode cX1_init 15 = .ok (.return_, 1) := by decide +kernel
theorem dX2_init_0 : decode cX2_init 0 = .ok (.aload_n 0, 1) := by decide +kernel
theorem dX2_init_1 : decode cX2_init 1 = .ok (.invokespecial 3, 3) := by decide +kernel
theorem dX2_init_4 : decode cX2_init 4 = .ok (.iload_n 1, 1) := by decide +kernel
theorem dX2_init_5 : decode cX2_init 5 = .ok (.iconst 0, 1) := by decide +kernel
theorem dX2_init_6 : decode cX2_init 6 = .ok (.invokestatic 9, 3) := by decide +kernel
theorem dX2_init_9 : decode cX2_init 9 = .ok (.istore_n 2, 1) := by decide +kernel
theorem dX2_init_10 : decode cX2_init 10 = .ok (.aload_n 0, 1) := by decide +kernel
theorem dX2_init_11 : decode cX2_init 11 = .ok (.iload_n 2, 1) := by decide +kernel
theorem dX2_init_12 : decode cX2_init 12 = .ok (.newarray .int, 2) := by decide +kernel
theorem dX2_init_14 : decode cX2_init 14 = .ok (.putfield 15, 3) := by decide +kernel
theorem dX2_init_17 : decode cX2_init 17 = .ok (.aload_n 0, 1) := by decide +kernel
theorem dX2_init_18 : decode cX2_init 18 = .ok (.iload_n 2, 1) := by decide +kernel
theorem dX2_init_19 : decode cX2_init 19 = .ok (.newarray .int, 2) := by decide +kernel
theorem dX2_init_21 : decode cX2_init 21 = .ok (.putfield 21, 3) := by decide +kernel
theorem dX2_init_24 : decode cX2_init 24 = .ok (.aload_n 0, 1) := by decide +kernel
theorem dX2_init_25 : decode cX2_init 25 = .ok (.iload_n 2, 1) := by decide +kernel
theorem dX2_init_26 : decode cX2_init 26 = .ok (.newarray .int, 2) := by decide +kernel
theorem dX2_init_28 : decode cX2_init 28 = .ok (.putfield 24, 3) := by decide +kernel
theorem dX2_init_31 : decode cX2_init 31 = .ok (.return_, 1) := by decide +kernel
theorem dX2_put_0 : decode cX2_put 0 = .ok (.aload_n 0, 1) := by decide +kernel
theorem dX2_put_1 : decode cX2_put 1 = .ok (.getfield 27, 3) := by decide +kernel
theorem dX2_put_4 : decode cX2_put 4 = .ok (.aload_n 0, 1) := by decide +kernel
theorem dX2_put_5 : decode cX2_put 5 = .ok (.getfield 15, 3) := by decide +kernel
theorem dX2_put_8 : decode cX2_put 8 = .ok (.arraylength, 1) := by decide +kernel
theorem dX2_put_9 : decode cX2_put 9 = .ok (.if_icmp .lt 6, 3) := by decide +kernel
theorem dX2_put_12 : decode cX2_put 12 = .ok (.ldc 31, 2) := by decide +kernel
theorem dX2_put_14 : decode cX2_put 14 = .ok (.ireturn, 1) := by decide +kernel
theorem dX2_put_15 : decode cX2_put 15 = .ok (.aload_n 0, 1) := by decide +kernel
theorem dX2_put_16 : decode cX2_put 16 = .ok (.getfield 15, 3) := by decide +kernel
theorem dX2_put_19 : decode cX2_put 19 = .ok (.aload_n 0, 1) := by decide +kernel
theorem dX2_put_20 : decode cX2_put 20 = .ok (.getfield 27, 3) := by decide +kernel
theorem dX2_put_23 : decode cX2_put 23 = .ok (.iload_n 1, 1) := by decide +kernel
theorem dX2_put_24 : decode cX2_put 24 = .ok (.iastore, 1) := by decide +kernel
theorem dX2_put_25 : decode cX2_put 25 = .ok (.aload_n 0, 1) := by decide +kernel
theorem dX2_put_26 : decode cX2_put 26 = .ok (.getfield 21, 3) := by decide +kernel
theorem dX2_put_29 : decode cX2_put 29 = .ok (.aload_n 0, 1) := by decide +kernel
theorem dX2_put_30 : decode cX2_put 30 = .ok (.getfield 27, 3) := by decide +kernel
theorem dX2_put_33 : decode cX2_put 33 = .ok (.iload_n 2, 1) := by decide +kernel
theorem dX2_put_34 : decode cX2_put 34 = .ok (.iastore, 1) := by decide +kernel
theorem dX2_put_35 : decode cX2_put 35 = .ok (.aload_n 0, 1) := by decide +kernel
theorem dX2_put_36 : decode cX2_put 36 = .ok (.getfield 24, 3) := by decide +kernel
theorem dX2_put_39 : decode cX2_put 39 = .ok (.aload_n 0, 1) := by decide +kernel
theorem dX2_put_40 : decode cX2_put 40 = .ok (.getfield 27, 3) := by decide +kernel
theorem dX2_put_43 : decode cX2_put 43 = .ok (.iload_n 3, 1) := by decide +kernel
theorem dX2_put_44 : decode cX2_put 44 = .ok (.iastore, 1) := by decide +kernel
theorem dX2_put_45 : decode cX2_put 45 = .ok (.aload_n 0, 1) := by decide +kernel
theorem dX2_put_46 : decode cX2_put 46 = .ok (.dup, 1) := by decide +kernel
theorem dX2_put_47 : decode cX2_put 47 = .ok (.getfield 27, 3) := by decide +kernel
theorem dX2_put_50 : decode cX2_put 50 = .ok (.iconst 1, 1) := by decide +kernel
theorem dX2_put_51 : decode cX2_put 51 = .ok (.iadd, 1) := by decide +kernel
theorem dX2_put_52 : decode cX2_put 52 = .ok (.putfield 27, 3) := by decide +kernel
theorem dX2_put_55 : decode cX2_put 55 = .ok (.aload_n 0, 1) := by decide +kernel
theorem dX2_put_56 : decode cX2_put 56 = .ok (.getfield 27, 3) := by decide +kernel
theorem dX2_put_59 : decode cX2_put 59 = .ok (.ireturn, 1) := by decide +kernel
theorem dX3_init_0 : decode cX3_init 0 = .ok (.aload_n 0, 1) := by decide +kernel
theorem dX3_init_1 : decode cX3_init 1 = .ok (.invokespecial 3, 3) := by decide +kernel
theorem dX3_init_4 : decode cX3_init 4 = .ok (.aload_n 0, 1) := by decide +kernel
theorem dX3_init_5 : decode cX3_init 5 = .ok (.bipush 8, 2) := by decide +kernel
theorem dX3_init_7 : decode cX3_init 7 = .ok (.newarray .long, 2) := by decide +kernel
theorem dX3_init_9 : decode cX3_init 9 = .ok (.putfield 9, 3) := by decide +kernel
theorem dX3_init_12 : decode cX3_init 12 = .ok (.aload_n 0, 1) := by decide +kernel
theorem dX3_init_13 : decode cX3_init 13 = .ok (.bipush 8, 2) := by decide +kernel
theorem dX3_init_15 : decode cX3_init 15 = .ok (.newarray .long, 2) := by decide +kernel
theorem dX3_init_17 : decode cX3_init 17 = .ok (.putfield 15, 3) := by decide +kernel
theorem dX3_init_20 : decode cX3_init 20 = .ok (.aload_n 0, 1) := by decide +kernel
theorem dX3_init_21 : decode cX3_init 21 = .ok (.bipush 8, 2) := by decide +kernel
theorem dX3_init_23 : decode cX3_init 23 = .ok (.newarray .int, 2) := by decide +kernel
theorem dX3_init_25 : decode cX3_init 25 = .ok (.putfield 18, 3) := by decide +kernel
theorem dX3_init_28 : decode cX3_init 28 = .ok (.aload_n 0, 1) := by decide +kernel
theorem dX3_init_29 : decode cX3_init 29 = .ok (.invokevirtual 22, 3) := by decide +kernel
theorem dX3_init_32 : decode cX3_init 32 = .ok (.return_, 1) := by decide +kernel
theorem dX3_turns_0 : decode cX3_turns 0 = .ok (.aload_n 0, 1) := by decide +kernel
theorem dX3_turns_1 : decode cX3_turns 1 = .ok (.getfield 25, 3) := by decide +kernel
theorem dX3_turns_4 : decode cX3_turns 4 = .ok (.iload_n 1, 1) := by decide +kernel
theorem dX3_turns_5 : decode cX3_turns 5 = .ok (.ishr, 1) := by decide +kernel
theorem dX3_turns_6 : decode cX3_turns 6 = .ok (.iconst 1, 1) := by decide +kernel
theorem dX3_turns_7 : decode cX3_turns 7 = .ok (.iand, 1) := by decide +kernel
theorem dX3_turns_8 : decode cX3_turns 8 = .ok (.iconst 1, 1) := by decide +kernel
theorem dX3_turns_9 : decode cX3_turns 9 = .ok (.if_icmp .ne 7, 3) := by decide +kernel
theorem dX3_turns_12 : decode cX3_turns 12 = .ok (.iconst 1, 1) := by decide +kernel
theorem dX3_turns_13 : decode cX3_turns 13 = .ok (.goto 4, 3) := by decide +kernel
theorem dX3_turns_16 : decode cX3_turns 16 = .ok (.iconst 0, 1) := by decide +kernel
theorem dX3_turns_17 : decode cX3_turns 17 = .ok (.ireturn, 1) := by decide +kernel
theorem dX3_turnAlike_0 : decode cX3_turnAlike 0 = .ok (.aload_n 0, 1) := by decide +kernel
theorem dX3_turnAlike_1 : decode cX3_turnAlike 1 = .ok (.getfield 9, 3) := by decide +kernel
theorem dX3_turnAlike_4 : decode cX3_turnAlike 4 = .ok (.iload_n 1, 1) := by decide +kernel
theorem dX3_turnAlike_5 : decode cX3_turnAlike 5 = .ok (.laload, 1) := by decide +kernel
theorem dX3_turnAlike_6 : decode cX3_turnAlike 6 = .ok (.lconst 0, 1) := by decide +kernel
theorem dX3_turnAlike_7 : decode cX3_turnAlike 7 = .ok (.lcmp, 1) := by decide +kernel
theorem dX3_turnAlike_8 : decode cX3_turnAlike 8 = .ok (.ifCond .le 7, 3) := by decide +kernel
theorem dX3_turnAlike_11 : decode cX3_turnAlike 11 = .ok (.iconst 1, 1) := by decide +kernel
theorem dX3_turnAlike_12 : decode cX3_turnAlike 12 = .ok (.goto 4, 3) := by decide +kernel
theorem dX3_turnAlike_15 : decode cX3_turnAlike 15 = .ok (.iconst 0, 1) := by decide +kernel
theorem dX3_turnAlike_16 : decode cX3_turnAlike 16 = .ok (.aload_n 0, 1) := by decide +kernel
theorem dX3_turnAlike_17 : decode cX3_turnAlike 17 = .ok (.getfield 9, 3) := by decide +kernel
theorem dX3_turnAlike_20 : decode cX3_turnAlike 20 = .ok (.iload_n 2, 1) := by decide +kernel
theorem dX3_turnAlike_21 : decode cX3_turnAlike 21 = .ok (.laload, 1) := by decide +kernel
theorem dX3_turnAlike_22 : decode cX3_turnAlike 22 = .ok (.lconst 0, 1) := by decide +kernel
theorem dX3_turnAlike_23 : decode cX3_turnAlike 23 = .ok (.lcmp, 1) := by decide +kernel
theorem dX3_turnAlike_24 : decode cX3_turnAlike 24 = .ok (.ifCond .le 7, 3) := by decide +kernel
theorem dX3_turnAlike_27 : decode cX3_turnAlike 27 = .ok (.iconst 1, 1) := by decide +kernel
theorem dX3_turnAlike_28 : decode cX3_turnAlike 28 = .ok (.goto 4, 3) := by decide +kernel
theorem dX3_turnAlike_31 : decode cX3_turnAlike 31 = .ok (.iconst 0, 1) := by decide +kernel
theorem dX3_turnAlike_32 : decode cX3_turnAlike 32 = .ok (.if_icmp .ne 7, 3) := by decide +kernel
theorem dX3_turnAlike_35 : decode cX3_turnAlike 35 = .ok (.iconst 1, 1) := by decide +kernel
theorem dX3_turnAlike_36 : decode cX3_turnAlike 36 = .ok (.goto 4, 3) := by decide +kernel
theorem dX3_turnAlike_39 : decode cX3_turnAlike 39 = .ok (.iconst 0, 1) := by decide +kernel
theorem dX3_turnAlike_40 : decode cX3_turnAlike 40 = .ok (.ireturn, 1) := by decide +kernel
theorem dX3_reckon_0 : decode cX3_reckon 0 = .ok (.aload_n 0, 1) := by decide +kernel
theorem dX3_reckon_1 : decode cX3_reckon 1 = .ok (.invokevirtual 22, 3) := by decide +kernel
theorem dX3_reckon_4 : decode cX3_reckon 4 = .ok (.aload_n 0, 1) := by decide +kernel
theorem dX3_reckon_5 : decode cX3_reckon 5 = .ok (.iconst 0, 1) := by decide +kernel
theorem dX3_reckon_6 : decode cX3_reckon 6 = .ok (.putfield 29, 3) := by decide +kernel
theorem dX3_reckon_9 : decode cX3_reckon 9 = .ok (.aload_n 1, 1) := by decide +kernel
theorem dX3_reckon_10 : decode cX3_reckon 10 = .ok (.getfield 33, 3) := by decide +kernel
theorem dX3_reckon_13 : decode cX3_reckon 13 = .ok (.ifCond .ne 4, 3) := by decide +kernel
theorem dX3_reckon_16 : decode cX3_reckon 16 = .ok (.return_, 1) := by decide +kernel
theorem dX3_reckon_17 : decode cX3_reckon 17 = .ok (.aload_n 0, 1) := by decide +kernel
theorem dX3_reckon_18 : decode cX3_reckon 18 = .ok (.aload_n 1, 1) := by decide +kernel
theorem dX3_reckon_19 : decode cX3_reckon 19 = .ok (.getfield 38, 3) := by decide +kernel
theorem dX3_reckon_22 : decode cX3_reckon 22 = .ok (.aload_n 1, 1) := by decide +kernel
theorem dX3_reckon_23 : decode cX3_reckon 23 = .ok (.getfield 41, 3) := by decide +kernel
theorem dX3_reckon_26 : decode cX3_reckon 26 = .ok (.i2l, 1) := by decide +kernel
theorem dX3_reckon_27 : decode cX3_reckon 27 = .ok (.lconst 1, 1) := by decide +kernel
theorem dX3_reckon_28 : decode cX3_reckon 28 = .ok (.invokevirtual 44, 3) := by decide +kernel
theorem dX3_reckon_31 : decode cX3_reckon 31 = .ok (.iconst 0, 1) := by decide +kernel
theorem dX3_reckon_32 : decode cX3_reckon 32 = .ok (.istore 4, 2) := by decide +kernel
theorem dX3_reckon_34 : decode cX3_reckon 34 = .ok (.iload 4, 2) := by decide +kernel
theorem dX3_reckon_36 : decode cX3_reckon 36 = .ok (.bipush 8, 2) := by decide +kernel
theorem dX3_reckon_38 : decode cX3_reckon 38 = .ok (.if_icmp .ge 39, 3) := by decide +kernel
theorem dX3_reckon_41 : decode cX3_reckon 41 = .ok (.iload 4, 2) := by decide +kernel
theorem dX3_reckon_43 : decode cX3_reckon 43 = .ok (.aload_n 0, 1) := by decide +kernel
theorem dX3_reckon_44 : decode cX3_reckon 44 = .ok (.getfield 48, 3) := by decide +kernel
theorem dX3_reckon_47 : decode cX3_reckon 47 = .ok (.if_icmp .ge 30, 3) := by decide +kernel
theorem dX3_reckon_50 : decode cX3_reckon 50 = .ok (.aload_n 0, 1) := by decide +kernel
theorem dX3_reckon_51 : decode cX3_reckon 51 = .ok (.getfield 29, 3) := by decide +kernel
theorem dX3_reckon_54 : decode cX3_reckon 54 = .ok (.ifCond .ne 23, 3) := by decide +kernel
theorem dX3_reckon_57 : decode cX3_reckon 57 = .ok (.aload_n 0, 1) := by decide +kernel
theorem dX3_reckon_58 : decode cX3_reckon 58 = .ok (.aload_n 1, 1) := by decide +kernel
theorem dX3_reckon_59 : decode cX3_reckon 59 = .ok (.aload_n 0, 1) := by decide +kernel
theorem dX3_reckon_60 : decode cX3_reckon 60 = .ok (.getfield 18, 3) := by decide +kernel
theorem dX3_reckon_63 : decode cX3_reckon 63 = .ok (.iload 4, 2) := by decide +kernel
theorem dX3_reckon_65 : decode cX3_reckon 65 = .ok (.iaload, 1) := by decide +kernel
theorem dX3_reckon_66 : decode cX3_reckon 66 = .ok (.iload_n 2, 1) := by decide +kernel
theorem dX3_reckon_67 : decode cX3_reckon 67 = .ok (.iload_n 3, 1) := by decide +kernel
theorem dX3_reckon_68 : decode cX3_reckon 68 = .ok (.invokevirtual 51, 3) := by decide +kernel
theorem dX3_reckon_71 : decode cX3_reckon 71 = .ok (.iinc 4 1, 3) := by decide +kernel
theorem dX3_reckon_74 : decode cX3_reckon 74 = .ok (.goto (-40), 3) := by decide +kernel
theorem dX3_reckon_77 : decode cX3_reckon 77 = .ok (.aload_n 0, 1) := by decide +kernel
theorem dX3_reckon_78 : decode cX3_reckon 78 = .ok (.getfield 29, 3) := by decide +kernel
theorem dX3_reckon_81 : decode cX3_reckon 81 = .ok (.ifCond .eq 7, 3) := by decide +kernel
theorem dX3_reckon_84 : decode cX3_reckon 84 = .ok (.aload_n 0, 1) := by decide +kernel
theorem dX3_reckon_85 : decode cX3_reckon 85 = .ok (.invokevirtual 22, 3) := by decide +kernel
theorem dX3_reckon_88 : decode cX3_reckon 88 = .ok (.return_, 1) := by decide +kernel
theorem dX3_restAll_0 : decode cX3_restAll 0 = .ok (.aload_n 0, 1) := by decide +kernel
theorem dX3_restAll_1 : decode cX3_restAll 1 = .ok (.getfield 9, 3) := by decide +kernel
theorem dX3_restAll_4 : decode cX3_restAll 4 = .ok (.lconst 0, 1) := by decide +kernel
theorem dX3_restAll_5 : decode cX3_restAll 5 = .ok (.invokestatic 55, 3) := by decide +kernel
theorem dX3_restAll_8 : decode cX3_restAll 8 = .ok (.aload_n 0, 1) := by decide +kernel
theorem dX3_restAll_9 : decode cX3_restAll 9 = .ok (.getfield 15, 3) := by decide +kernel
theorem dX3_restAll_12 : decode cX3_restAll 12 = .ok (.lconst 1, 1) := by decide +kernel
theorem dX3_restAll_13 : decode cX3_restAll 13 = .ok (.invokestatic 55, 3) := by decide +kernel
theorem dX3_restAll_16 : decode cX3_restAll 16 = .ok (.aload_n 0, 1) := by decide +kernel
theorem dX3_restAll_17 : decode cX3_restAll 17 = .ok (.iconst 0, 1) := by decide +kernel
theorem dX3_restAll_18 : decode cX3_restAll 18 = .ok (.putfield 48, 3) := by decide +kernel
theorem dX3_restAll_21 : decode cX3_restAll 21 = .ok (.aload_n 0, 1) := by decide +kernel
theorem dX3_restAll_22 : decode cX3_restAll 22 = .ok (.iconst 0, 1) := by decide +kernel
theorem dX3_restAll_23 : decode cX3_restAll 23 = .ok (.putfield 25, 3) := by decide +kernel
theorem dX3_restAll_26 : decode cX3_restAll 26 = .ok (.return_, 1) := by decide +kernel
theorem dX3_reach_0 : decode cX3_reach 0 = .ok (.aload_n 0, 1) := by decide +kernel
theorem dX3_reach_1 : decode cX3_reach 1 = .ok (.getfield 9, 3) := by decide +kernel
theorem dX3_reach_4 : decode cX3_reach 4 = .ok (.iload_n 1, 1) := by decide +kernel
theorem dX3_reach_5 : decode cX3_reach 5 = .ok (.lload_n 2, 1) := by decide +kernel
theorem dX3_reach_6 : decode cX3_reach 6 = .ok (.lastore, 1) := by decide +kernel
theorem dX3_reach_7 : decode cX3_reach 7 = .ok (.aload_n 0, 1) := by decide +kernel
theorem dX3_reach_8 : decode cX3_reach 8 = .ok (.getfield 15, 3) := by decide +kernel
theorem dX3_reach_11 : decode cX3_reach 11 = .ok (.iload_n 1, 1) := by decide +kernel
theorem dX3_reach_12 : decode cX3_reach 12 = .ok (.lload 4, 2) := by decide +kernel
theorem dX3_reach_14 : decode cX3_reach 14 = .ok (.lastore, 1) := by decide +kernel
theorem dX3_reach_15 : decode cX3_reach 15 = .ok (.aload_n 0, 1) := by decide +kernel
theorem dX3_reach_16 : decode cX3_reach 16 = .ok (.dup, 1) := by decide +kernel
theorem dX3_reach_17 : decode cX3_reach 17 = .ok (.getfield 25, 3) := by decide +kernel
theorem dX3_reach_20 : decode cX3_reach 20 = .ok (.iconst 1, 1) := by decide +kernel
theorem dX3_reach_21 : decode cX3_reach 21 = .ok (.iload_n 1, 1) := by decide +kernel
theorem dX3_reach_22 : decode cX3_reach 22 = .ok (.ishl, 1) := by decide +kernel
theorem dX3_reach_23 : decode cX3_reach 23 = .ok (.ior, 1) := by decide +kernel
theorem dX3_reach_24 : decode cX3_reach 24 = .ok (.putfield 25, 3) := by decide +kernel
theorem dX3_reach_27 : decode cX3_reach 27 = .ok (.aload_n 0, 1) := by decide +kernel
theorem dX3_reach_28 : decode cX3_reach 28 = .ok (.getfield 18, 3) := by decide +kernel
theorem dX3_reach_31 : decode cX3_reach 31 = .ok (.aload_n 0, 1) := by decide +kernel
theorem dX3_reach_32 : decode cX3_reach 32 = .ok (.getfield 48, 3) := by decide +kernel
theorem dX3_reach_35 : decode cX3_reach 35 = .ok (.iload_n 1, 1) := by decide +kernel
theorem dX3_reach_36 : decode cX3_reach 36 = .ok (.iastore, 1) := by decide +kernel
theorem dX3_reach_37 : decode cX3_reach 37 = .ok (.aload_n 0, 1) := by decide +kernel
theorem dX3_reach_38 : decode cX3_reach 38 = .ok (.dup, 1) := by decide +kernel
theorem dX3_reach_39 : decode cX3_reach 39 = .ok (.getfield 48, 3) := by decide +kernel
theorem dX3_reach_42 : decode cX3_reach 42 = .ok (.iconst 1, 1) := by decide +kernel
theorem dX3_reach_43 : decode cX3_reach 43 = .ok (.iadd, 1) := by decide +kernel
theorem dX3_reach_44 : decode cX3_reach 44 = .ok (.putfield 48, 3) := by decide +kernel
theorem dX3_reach_47 : decode cX3_reach 47 = .ok (.return_, 1) := by decide +kernel
theorem dX3_spread_0 : decode cX3_spread 0 = .ok (.iconst 0, 1) := by decide +kernel
theorem dX3_spread_1 : decode cX3_spread 1 = .ok (.istore 5, 2) := by decide +kernel
theorem dX3_spread_3 : decode cX3_spread 3 = .ok (.iload 5, 2) := by decide +kernel
theorem dX3_spread_5 : decode cX3_spread 5 = .ok (.bipush 10, 2) := by decide +kernel
theorem dX3_spread_7 : decode cX3_spread 7 = .ok (.if_icmp .gt 84, 3) := by decide +kernel
theorem dX3_spread_10 : decode cX3_spread 10 = .ok (.iload_n 3, 1) := by decide +kernel
theorem dX3_spread_11 : decode cX3_spread 11 = .ok (.iload 5, 2) := by decide +kernel
theorem dX3_spread_13 : decode cX3_spread 13 = .ok (.ishr, 1) := by decide +kernel
theorem dX3_spread_14 : decode cX3_spread 14 = .ok (.iconst 1, 1) := by decide +kernel
theorem dX3_spread_15 : decode cX3_spread 15 = .ok (.iand, 1) := by decide +kernel
theorem dX3_spread_16 : decode cX3_spread 16 = .ok (.iconst 1, 1) := by decide +kernel
theorem dX3_spread_17 : decode cX3_spread 17 = .ok (.if_icmp .ne 13, 3) := by decide +kernel
theorem dX3_spread_20 : decode cX3_spread 20 = .ok (.aload_n 1, 1) := by decide +kernel
theorem dX3_spread_21 : decode cX3_spread 21 = .ok (.iload 5, 2) := by decide +kernel
theorem dX3_spread_23 : decode cX3_spread 23 = .ok (.iload_n 2, 1) := by decide +kernel
theorem dX3_spread_24 : decode cX3_spread 24 = .ok (.invokevirtual 61, 3) := by decide +kernel
theorem dX3_spread_27 : decode cX3_spread 27 = .ok (.goto 4, 3) := by decide +kernel
theorem dX3_spread_30 : decode cX3_spread 30 = .ok (.iconst (-1), 1) := by decide +kernel
theorem dX3_spread_31 : decode cX3_spread 31 = .ok (.istore 6, 2) := by decide +kernel
theorem dX3_spread_33 : decode cX3_spread 33 = .ok (.iload 6, 2) := by decide +kernel
theorem dX3_spread_35 : decode cX3_spread 35 = .ok (.iconst (-1), 1) := by decide +kernel
theorem dX3_spread_36 : decode cX3_spread 36 = .ok (.if_icmp .eq 49, 3) := by decide +kernel
theorem dX3_spread_39 : decode cX3_spread 39 = .ok (.iload 4, 2) := by decide +kernel
theorem dX3_spread_41 : decode cX3_spread 41 = .ok (.iload 5, 2) := by decide +kernel
theorem dX3_spread_43 : decode cX3_spread 43 = .ok (.ishr, 1) := by decide +kernel
theorem dX3_spread_44 : decode cX3_spread 44 = .ok (.iconst 1, 1) := by decide +kernel
theorem dX3_spread_45 : decode cX3_spread 45 = .ok (.iand, 1) := by decide +kernel
theorem dX3_spread_46 : decode cX3_spread 46 = .ok (.iconst 1, 1) := by decide +kernel
theorem dX3_spread_47 : decode cX3_spread 47 = .ok (.if_icmp .ne 7, 3) := by decide +kernel
theorem dX3_spread_50 : decode cX3_spread 50 = .ok (.iconst 1, 1) := by decide +kernel
theorem dX3_spread_51 : decode cX3_spread 51 = .ok (.goto 10, 3) := by decide +kernel
theorem dX3_spread_54 : decode cX3_spread 54 = .ok (.aload_n 1, 1) := by decide +kernel
theorem dX3_spread_55 : decode cX3_spread 55 = .ok (.getfield 65, 3) := by decide +kernel
theorem dX3_spread_58 : decode cX3_spread 58 = .ok (.iload 5, 2) := by decide +kernel
theorem dX3_spread_60 : decode cX3_spread 60 = .ok (.iaload, 1) := by decide +kernel
theorem dX3_spread_61 : decode cX3_spread 61 = .ok (.istore 7, 2) := by decide +kernel
theorem dX3_spread_63 : decode cX3_spread 63 = .ok (.aload_n 0, 1) := by decide +kernel
theorem dX3_spread_64 : decode cX3_spread 64 = .ok (.iload 7, 2) := by decide +kernel
theorem dX3_spread_66 : decode cX3_spread 66 = .ok (.iload_n 2, 1) := by decide +kernel
theorem dX3_spread_67 : decode cX3_spread 67 = .ok (.iload 6, 2) := by decide +kernel
theorem dX3_spread_69 : decode cX3_spread 69 = .ok (.aload_n 1, 1) := by decide +kernel
theorem dX3_spread_70 : decode cX3_spread 70 = .ok (.getfield 68, 3) := by decide +kernel
theorem dX3_spread_73 : decode cX3_spread 73 = .ok (.iload_n 2, 1) := by decide +kernel
theorem dX3_spread_74 : decode cX3_spread 74 = .ok (.iaload, 1) := by decide +kernel
theorem dX3_spread_75 : decode cX3_spread 75 = .ok (.aload_n 1, 1) := by decide +kernel
theorem dX3_spread_76 : decode cX3_spread 76 = .ok (.getfield 68, 3) := by decide +kernel
theorem dX3_spread_79 : decode cX3_spread 79 = .ok (.iload 6, 2) := by decide +kernel
theorem dX3_spread_81 : decode cX3_spread 81 = .ok (.iaload, 1) := by decide +kernel
theorem dX3_spread_82 : decode cX3_spread 82 = .ok (.invokevirtual 71, 3) := by decide +kernel
theorem dX3_spread_85 : decode cX3_spread 85 = .ok (.iinc 5 1, 3) := by decide +kernel
theorem dX3_spread_88 : decode cX3_spread 88 = .ok (.goto (-85), 3) := by decide +kernel
theorem dX3_spread_91 : decode cX3_spread 91 = .ok (.return_, 1) := by decide +kernel
theorem dX3_carry_0 : decode cX3_carry 0 = .ok (.iload_n 1, 1) := by decide +kernel
theorem dX3_carry_1 : decode cX3_carry 1 = .ok (.ifCond .ne 13, 3) := by decide +kernel
theorem dX3_carry_4 : decode cX3_carry 4 = .ok (.aload_n 0, 1) := by decide +kernel
theorem dX3_carry_5 : decode cX3_carry 5 = .ok (.getfield 9, 3) := by decide +kernel
theorem dX3_carry_8 : decode cX3_carry 8 = .ok (.iload_n 2, 1) := by decide +kernel
theorem dX3_carry_9 : decode cX3_carry 9 = .ok (.laload, 1) := by decide +kernel
theorem dX3_carry_10 : decode cX3_carry 10 = .ok (.lneg, 1) := by decide +kernel
theorem dX3_carry_11 : decode cX3_carry 11 = .ok (.goto 9, 3) := by decide +kernel
theorem dX3_carry_14 : decode cX3_carry 14 = .ok (.aload_n 0, 1) := by decide +kernel
theorem dX3_carry_15 : decode cX3_carry 15 = .ok (.getfield 9, 3) := by decide +kernel
theorem dX3_carry_18 : decode cX3_carry 18 = .ok (.iload_n 2, 1) := by decide +kernel
theorem dX3_carry_19 : decode cX3_carry 19 = .ok (.laload, 1) := by decide +kernel
theorem dX3_carry_20 : decode cX3_carry 20 = .ok (.lstore 6, 2) := by decide +kernel
theorem dX3_carry_22 : decode cX3_carry 22 = .ok (.aload_n 0, 1) := by decide +kernel
theorem dX3_carry_23 : decode cX3_carry 23 = .ok (.getfield 15, 3) := by decide +kernel
theorem dX3_carry_26 : decode cX3_carry 26 = .ok (.iload_n 2, 1) := by decide +kernel
theorem dX3_carry_27 : decode cX3_carry 27 = .ok (.laload, 1) := by decide +kernel
theorem dX3_carry_28 : decode cX3_carry 28 = .ok (.lstore 8, 2) := by decide +kernel
theorem dX3_carry_30 : decode cX3_carry 30 = .ok (.iload_n 1, 1) := by decide +kernel
theorem dX3_carry_31 : decode cX3_carry 31 = .ok (.iconst 2, 1) := by decide +kernel
theorem dX3_carry_32 : decode cX3_carry 32 = .ok (.if_icmp .ne 42, 3) := by decide +kernel
theorem dX3_carry_35 : decode cX3_carry 35 = .ok (.lload 6, 2) := by decide +kernel
theorem dX3_carry_37 : decode cX3_carry 37 = .ok (.iload 5, 2) := by decide +kernel
theorem dX3_carry_39 : decode cX3_carry 39 = .ok (.i2l, 1) := by decide +kernel
theorem dX3_carry_40 : decode cX3_carry 40 = .ok (.lmul, 1) := by decide +kernel
theorem dX3_carry_41 : decode cX3_carry 41 = .ok (.lstore 6, 2) := by decide +kernel
theorem dX3_carry_43 : decode cX3_carry 43 = .ok (.lload 8, 2) := by decide +kernel
theorem dX3_carry_45 : decode cX3_carry 45 = .ok (.iload 4, 2) := by decide +kernel
theorem dX3_carry_47 : decode cX3_carry 47 = .ok (.i2l, 1) := by decide +kernel
theorem dX3_carry_48 : decode cX3_carry 48 = .ok (.lmul, 1) := by decide +kernel
theorem dX3_carry_49 : decode cX3_carry 49 = .ok (.lstore 8, 2) := by decide +kernel
theorem dX3_carry_51 : decode cX3_carry 51 = .ok (.lload 6, 2) := by decide +kernel
theorem dX3_carry_53 : decode cX3_carry 53 = .ok (.lload 8, 2) := by decide +kernel
theorem dX3_carry_55 : decode cX3_carry 55 = .ok (.invokestatic 75, 3) := by decide +kernel
theorem dX3_carry_58 : decode cX3_carry 58 = .ok (.lstore 10, 2) := by decide +kernel
theorem dX3_carry_60 : decode cX3_carry 60 = .ok (.lload 6, 2) := by decide +kernel
theorem dX3_carry_62 : decode cX3_carry 62 = .ok (.lload 10, 2) := by decide +kernel
theorem dX3_carry_64 : decode cX3_carry 64 = .ok (.ldiv, 1) := by decide +kernel
theorem dX3_carry_65 : decode cX3_carry 65 = .ok (.lstore 6, 2) := by decide +kernel
theorem dX3_carry_67 : decode cX3_carry 67 = .ok (.lload 8, 2) := by decide +kernel
theorem dX3_carry_69 : decode cX3_carry 69 = .ok (.lload 10, 2) := by decide +kernel
theorem dX3_carry_71 : decode cX3_carry 71 = .ok (.ldiv, 1) := by decide +kernel
theorem dX3_carry_72 : decode cX3_carry 72 = .ok (.lstore 8, 2) := by decide +kernel
theorem dX3_carry_74 : decode cX3_carry 74 = .ok (.aload_n 0, 1) := by decide +kernel
theorem dX3_carry_75 : decode cX3_carry 75 = .ok (.iload_n 3, 1) := by decide +kernel
theorem dX3_carry_76 : decode cX3_carry 76 = .ok (.invokevirtual 79, 3) := by decide +kernel
theorem dX3_carry_79 : decode cX3_carry 79 = .ok (.ifCond .ne 15, 3) := by decide +kernel
theorem dX3_carry_82 : decode cX3_carry 82 = .ok (.aload_n 0, 1) := by decide +kernel
theorem dX3_carry_83 : decode cX3_carry 83 = .ok (.iload_n 3, 1) := by decide +kernel
theorem dX3_carry_84 : decode cX3_carry 84 = .ok (.lload 6, 2) := by decide +kernel
theorem dX3_carry_86 : decode cX3_carry 86 = .ok (.lload 8, 2) := by decide +kernel
theorem dX3_carry_88 : decode cX3_carry 88 = .ok (.invokevirtual 44, 3) := by decide +kernel
theorem dX3_carry_91 : decode cX3_carry 91 = .ok (.goto 32, 3) := by decide +kernel
theorem dX3_carry_94 : decode cX3_carry 94 = .ok (.aload_n 0, 1) := by decide +kernel
theorem dX3_carry_95 : decode cX3_carry 95 = .ok (.getfield 9, 3) := by decide +kernel
theorem dX3_carry_98 : decode cX3_carry 98 = .ok (.iload_n 3, 1) := by decide +kernel
theorem dX3_carry_99 : decode cX3_carry 99 = .ok (.laload, 1) := by decide +kernel
theorem dX3_carry_100 : decode cX3_carry 100 = .ok (.lload 6, 2) := by decide +kernel
theorem dX3_carry_102 : decode cX3_carry 102 = .ok (.lcmp, 1) := by decide +kernel
theorem dX3_carry_103 : decode cX3_carry 103 = .ok (.ifCond .ne 15, 3) := by decide +kernel
theorem dX3_carry_106 : decode cX3_carry 106 = .ok (.aload_n 0, 1) := by decide +kernel
theorem dX3_carry_107 : decode cX3_carry 107 = .ok (.getfield 15, 3) := by decide +kernel
theorem dX3_carry_110 : decode cX3_carry 110 = .ok (.iload_n 3, 1) := by decide +kernel
theorem dX3_carry_111 : decode cX3_carry 111 = .ok (.laload, 1) := by decide +kernel
theorem dX3_carry_112 : decode cX3_carry 112 = .ok (.lload 8, 2) := by decide +kernel
theorem dX3_carry_114 : decode cX3_carry 114 = .ok (.lcmp, 1) := by decide +kernel
theorem dX3_carry_115 : decode cX3_carry 115 = .ok (.ifCond .eq 8, 3) := by decide +kernel
theorem dX3_carry_118 : decode cX3_carry 118 = .ok (.aload_n 0, 1) := by decide +kernel
theorem dX3_carry_119 : decode cX3_carry 119 = .ok (.iconst 1, 1) := by decide +kernel
theorem dX3_carry_120 : decode cX3_carry 120 = .ok (.putfield 29, 3) := by decide +kernel
theorem dX3_carry_123 : decode cX3_carry 123 = .ok (.return_, 1) := by decide +kernel
theorem dX4_init_0 : decode cX4_init 0 = .ok (.aload_n 0, 1) := by decide +kernel
theorem dX4_init_1 : decode cX4_init 1 = .ok (.invokespecial 3, 3) := by decide +kernel
theorem dX4_init_4 : decode cX4_init 4 = .ok (.aload_n 0, 1) := by decide +kernel
theorem dX4_init_5 : decode cX4_init 5 = .ok (.sipush 250, 3) := by decide +kernel
theorem dX4_init_8 : decode cX4_init 8 = .ok (.newarray .char, 2) := by decide +kernel
theorem dX4_init_10 : decode cX4_init 10 = .ok (.putfield 9, 3) := by decide +kernel
theorem dX4_init_13 : decode cX4_init 13 = .ok (.aload_n 0, 1) := by decide +kernel
theorem dX4_init_14 : decode cX4_init 14 = .ok (.iconst (-1), 1) := by decide +kernel
theorem dX4_init_15 : decode cX4_init 15 = .ok (.putfield 15, 3) := by decide +kernel
theorem dX4_init_18 : decode cX4_init 18 = .ok (.return_, 1) := by decide +kernel
theorem dX4_take_0 : decode cX4_take 0 = .ok (.aload_n 0, 1) := by decide +kernel
theorem dX4_take_1 : decode cX4_take 1 = .ok (.getfield 19, 3) := by decide +kernel
theorem dX4_take_4 : decode cX4_take 4 = .ok (.sipush 250, 3) := by decide +kernel
theorem dX4_take_7 : decode cX4_take 7 = .ok (.if_icmp .lt 6, 3) := by decide +kernel
theorem dX4_take_10 : decode cX4_take 10 = .ok (.ldc 22, 2) := by decide +kernel
theorem dX4_take_12 : decode cX4_take 12 = .ok (.ireturn, 1) := by decide +kernel
theorem dX4_take_13 : decode cX4_take 13 = .ok (.aload_n 0, 1) := by decide +kernel
theorem dX4_take_14 : decode cX4_take 14 = .ok (.getfield 9, 3) := by decide +kernel
theorem dX4_take_17 : decode cX4_take 17 = .ok (.aload_n 0, 1) := by decide +kernel
theorem dX4_take_18 : decode cX4_take 18 = .ok (.getfield 19, 3) := by decide +kernel
theorem dX4_take_21 : decode cX4_take 21 = .ok (.iload_n 1, 1) := by decide +kernel
theorem dX4_take_22 : decode cX4_take 22 = .ok (.castore, 1) := by decide +kernel
theorem dX4_take_23 : decode cX4_take 23 = .ok (.aload_n 0, 1) := by decide +kernel
theorem dX4_take_24 : decode cX4_take 24 = .ok (.dup, 1) := by decide +kernel
theorem dX4_take_25 : decode cX4_take 25 = .ok (.getfield 19, 3) := by decide +kernel
theorem dX4_take_28 : decode cX4_take 28 = .ok (.iconst 1, 1) := by decide +kernel
theorem dX4_take_29 : decode cX4_take 29 = .ok (.iadd, 1) := by decide +kernel
theorem dX4_take_30 : decode cX4_take 30 = .ok (.putfield 19, 3) := by decide +kernel
theorem dX4_take_33 : decode cX4_take 33 = .ok (.aload_n 0, 1) := by decide +kernel
theorem dX4_take_34 : decode cX4_take 34 = .ok (.getfield 19, 3) := by decide +kernel
theorem dX4_take_37 : decode cX4_take 37 = .ok (.ireturn, 1) := by decide +kernel
theorem dX4_read_0 : decode cX4_read 0 = .ok (.aload_n 1, 1) := by decide +kernel
theorem dX4_read_1 : decode cX4_read 1 = .ok (.invokevirtual 23, 3) := by decide +kernel
theorem dX4_read_4 : decode cX4_read 4 = .ok (.aload_n 0, 1) := by decide +kernel
theorem dX4_read_5 : decode cX4_read 5 = .ok (.aload_n 0, 1) := by decide +kernel
theorem dX4_read_6 : decode cX4_read 6 = .ok (.getfield 19, 3) := by decide +kernel
theorem dX4_read_9 : decode cX4_read 9 = .ok (.putfield 28, 3) := by decide +kernel
theorem dX4_read_12 : decode cX4_read 12 = .ok (.aload_n 0, 1) := by decide +kernel
theorem dX4_read_13 : decode cX4_read 13 = .ok (.iconst 0, 1) := by decide +kernel
theorem dX4_read_14 : decode cX4_read 14 = .ok (.putfield 19, 3) := by decide +kernel
theorem dX4_read_17 : decode cX4_read 17 = .ok (.aload_n 0, 1) := by decide +kernel
theorem dX4_read_18 : decode cX4_read 18 = .ok (.iconst 0, 1) := by decide +kernel
theorem dX4_read_19 : decode cX4_read 19 = .ok (.putfield 31, 3) := by decide +kernel
theorem dX4_read_22 : decode cX4_read 22 = .ok (.aload_n 0, 1) := by decide +kernel
theorem dX4_read_23 : decode cX4_read 23 = .ok (.iconst 0, 1) := by decide +kernel
theorem dX4_read_24 : decode cX4_read 24 = .ok (.putfield 34, 3) := by decide +kernel
theorem dX4_read_27 : decode cX4_read 27 = .ok (.aload_n 0, 1) := by decide +kernel
theorem dX4_read_28 : decode cX4_read 28 = .ok (.iconst 0, 1) := by decide +kernel
theorem dX4_read_29 : decode cX4_read 29 = .ok (.putfield 38, 3) := by decide +kernel
theorem dX4_read_32 : decode cX4_read 32 = .ok (.aload_n 0, 1) := by decide +kernel
theorem dX4_read_33 : decode cX4_read 33 = .ok (.iconst (-1), 1) := by decide +kernel
theorem dX4_read_34 : decode cX4_read 34 = .ok (.putfield 15, 3) := by decide +kernel
theorem dX4_read_37 : decode cX4_read 37 = .ok (.aload_n 0, 1) := by decide +kernel
theorem dX4_read_38 : decode cX4_read 38 = .ok (.invokevirtual 41, 3) := by decide +kernel
theorem dX4_read_41 : decode cX4_read 41 = .ok (.iconst 0, 1) := by decide +kernel
theorem dX4_read_42 : decode cX4_read 42 = .ok (.istore_n 2, 1) := by decide +kernel
theorem dX4_read_43 : decode cX4_read 43 = .ok (.iload_n 2, 1) := by decide +kernel
theorem dX4_read_44 : decode cX4_read 44 = .ok (.sipush 250, 3) := by decide +kernel
theorem dX4_read_47 : decode cX4_read 47 = .ok (.if_icmp .ge 45, 3) := by decide +kernel
theorem dX4_read_50 : decode cX4_read 50 = .ok (.aload_n 0, 1) := by decide +kernel
theorem dX4_read_51 : decode cX4_read 51 = .ok (.getfield 31, 3) := by decide +kernel
theorem dX4_read_54 : decode cX4_read 54 = .ok (.aload_n 0, 1) := by decide +kernel
theorem dX4_read_55 : decode cX4_read 55 = .ok (.getfield 28, 3) := by decide +kernel
theorem dX4_read_58 : decode cX4_read 58 = .ok (.if_icmp .ge 34, 3) := by decide +kernel
theorem dX4_read_61 : decode cX4_read 61 = .ok (.aload_n 0, 1) := by decide +kernel
theorem dX4_read_62 : decode cX4_read 62 = .ok (.getfield 38, 3) := by decide +kernel
theorem dX4_read_65 : decode cX4_read 65 = .ok (.ifCond .ne 27, 3) := by decide +kernel
theorem dX4_read_68 : decode cX4_read 68 = .ok (.aload_n 0, 1) := by decide +kernel
theorem dX4_read_69 : decode cX4_read 69 = .ok (.aload_n 0, 1) := by decide +kernel
theorem dX4_read_70 : decode cX4_read 70 = .ok (.getfield 9, 3) := by decide +kernel
theorem dX4_read_73 : decode cX4_read 73 = .ok (.aload_n 0, 1) := by decide +kernel
theorem dX4_read_74 : decode cX4_read 74 = .ok (.getfield 31, 3) := by decide +kernel
theorem dX4_read_77 : decode cX4_read 77 = .ok (.caload, 1) := by decide +kernel
theorem dX4_read_78 : decode cX4_read 78 = .ok (.aload_n 1, 1) := by decide +kernel
theorem dX4_read_79 : decode cX4_read 79 = .ok (.invokevirtual 44, 3) := by decide +kernel
theorem dX4_read_82 : decode cX4_read 82 = .ok (.aload_n 0, 1) := by decide +kernel
theorem dX4_read_83 : decode cX4_read 83 = .ok (.invokevirtual 41, 3) := by decide +kernel
theorem dX4_read_86 : decode cX4_read 86 = .ok (.iinc 2 1, 3) := by decide +kernel
theorem dX4_read_89 : decode cX4_read 89 = .ok (.goto (-46), 3) := by decide +kernel
theorem dX4_read_92 : decode cX4_read 92 = .ok (.return_, 1) := by decide +kernel
theorem dX4_readClause_0 : decode cX4_readClause 0 = .ok (.iload_n 1, 1) := by decide +kernel
theorem dX4_readClause_1 : decode cX4_readClause 1 = .ok (.bipush 119, 2) := by decide +kernel
theorem dX4_readClause_3 : decode cX4_readClause 3 = .ok (.if_icmp .ne 11, 3) := by decide +kernel
theorem dX4_readClause_6 : decode cX4_readClause 6 = .ok (.aload_n 0, 1) := by decide +kernel
theorem dX4_readClause_7 : decode cX4_readClause 7 = .ok (.aload_n 2, 1) := by decide +kernel
theorem dX4_readClause_8 : decode cX4_readClause 8 = .ok (.invokevirtual 48, 3) := by decide +kernel
theorem dX4_readClause_11 : decode cX4_readClause 11 = .ok (.goto 54, 3) := by decide +kernel
theorem dX4_readClause_14 : decode cX4_readClause 14 = .ok (.iload_n 1, 1) := by decide +kernel
theorem dX4_readClause_15 : decode cX4_readClause 15 = .ok (.bipush 108, 2) := by decide +kernel
theorem dX4_readClause_17 : decode cX4_readClause 17 = .ok (.if_icmp .ne 11, 3) := by decide +kernel
theorem dX4_readClause_20 : decode cX4_readClause 20 = .ok (.aload_n 0, 1) := by decide +kernel
theorem dX4_readClause_21 : decode cX4_readClause 21 = .ok (.aload_n 2, 1) := by decide +kernel
theorem dX4_readClause_22 : decode cX4_readClause 22 = .ok (.invokevirtual 52, 3) := by decide +kernel
theorem dX4_readClause_25 : decode cX4_readClause 25 = .ok (.goto 40, 3) := by decide +kernel
theorem dX4_readClause_28 : decode cX4_readClause 28 = .ok (.iload_n 1, 1) := by decide +kernel
theorem dX4_readClause_29 : decode cX4_readClause 29 = .ok (.bipush 100, 2) := by decide +kernel
theorem dX4_readClause_31 : decode cX4_readClause 31 = .ok (.if_icmp .ne 11, 3) := by decide +kernel
theorem dX4_readClause_34 : decode cX4_readClause 34 = .ok (.aload_n 0, 1) := by decide +kernel
theorem dX4_readClause_35 : decode cX4_readClause 35 = .ok (.aload_n 2, 1) := by decide +kernel
theorem dX4_readClause_36 : decode cX4_readClause 36 = .ok (.invokevirtual 55, 3) := by decide +kernel
theorem dX4_readClause_39 : decode cX4_readClause 39 = .ok (.goto 26, 3) := by decide +kernel
theorem dX4_readClause_42 : decode cX4_readClause 42 = .ok (.iload_n 1, 1) := by decide +kernel
theorem dX4_readClause_43 : decode cX4_readClause 43 = .ok (.bipush 102, 2) := by decide +kernel
theorem dX4_readClause_45 : decode cX4_readClause 45 = .ok (.if_icmp .ne 11, 3) := by decide +kernel
theorem dX4_readClause_48 : decode cX4_readClause 48 = .ok (.aload_n 0, 1) := by decide +kernel
theorem dX4_readClause_49 : decode cX4_readClause 49 = .ok (.aload_n 2, 1) := by decide +kernel
theorem dX4_readClause_50 : decode cX4_readClause 50 = .ok (.invokevirtual 58, 3) := by decide +kernel
theorem dX4_readClause_53 : decode cX4_readClause 53 = .ok (.goto 12, 3) := by decide +kernel
theorem dX4_readClause_56 : decode cX4_readClause 56 = .ok (.aload_n 0, 1) := by decide +kernel
theorem dX4_readClause_57 : decode cX4_readClause 57 = .ok (.iconst 1, 1) := by decide +kernel
theorem dX4_readClause_58 : decode cX4_readClause 58 = .ok (.aload_n 0, 1) := by decide +kernel
theorem dX4_readClause_59 : decode cX4_readClause 59 = .ok (.getfield 31, 3) := by decide +kernel
theorem dX4_readClause_62 : decode cX4_readClause 62 = .ok (.invokevirtual 61, 3) := by decide +kernel
theorem dX4_readClause_65 : decode cX4_readClause 65 = .ok (.return_, 1) := by decide +kernel
theorem dX4_readWheel_0 : decode cX4_readWheel 0 = .ok (.aload_n 0, 1) := by decide +kernel
theorem dX4_readWheel_1 : decode cX4_readWheel 1 = .ok (.aload_n 1, 1) := by decide +kernel
theorem dX4_readWheel_2 : decode cX4_readWheel 2 = .ok (.getfield 65, 3) := by decide +kernel
theorem dX4_readWheel_5 : decode cX4_readWheel 5 = .ok (.bipush 8, 2) := by decide +kernel
theorem dX4_readWheel_7 : decode cX4_readWheel 7 = .ok (.if_icmp .lt 7, 3) := by decide +kernel
theorem dX4_readWheel_10 : decode cX4_readWheel 10 = .ok (.iconst 1, 1) := by decide +kernel
theorem dX4_readWheel_11 : decode cX4_readWheel 11 = .ok (.goto 4, 3) := by decide +kernel
theorem dX4_readWheel_14 : decode cX4_readWheel 14 = .ok (.iconst 0, 1) := by decide +kernel
theorem dX4_readWheel_15 : decode cX4_readWheel 15 = .ok (.invokevirtual 68, 3) := by decide +kernel
theorem dX4_readWheel_18 : decode cX4_readWheel 18 = .ok (.aload_n 0, 1) := by decide +kernel
theorem dX4_readWheel_19 : decode cX4_readWheel 19 = .ok (.iconst 3, 1) := by decide +kernel
theorem dX4_readWheel_20 : decode cX4_readWheel 20 = .ok (.bipush 30, 2) := by decide +kernel
theorem dX4_readWheel_22 : decode cX4_readWheel 22 = .ok (.invokevirtual 72, 3) := by decide +kernel
theorem dX4_readWheel_25 : decode cX4_readWheel 25 = .ok (.istore_n 2, 1) := by decide +kernel
theorem dX4_readWheel_26 : decode cX4_readWheel 26 = .ok (.aload_n 0, 1) := by decide +kernel
theorem dX4_readWheel_27 : decode cX4_readWheel 27 = .ok (.iconst 0, 1) := by decide +kernel
theorem dX4_readWheel_28 : decode cX4_readWheel 28 = .ok (.bipush 29, 2) := by decide +kernel
theorem dX4_readWheel_30 : decode cX4_readWheel 30 = .ok (.invokevirtual 72, 3) := by decide +kernel
theorem dX4_readWheel_33 : decode cX4_readWheel 33 = .ok (.istore_n 3, 1) := by decide +kernel
theorem dX4_readWheel_34 : decode cX4_readWheel 34 = .ok (.aload_n 0, 1) := by decide +kernel
theorem dX4_readWheel_35 : decode cX4_readWheel 35 = .ok (.invokevirtual 76, 3) := by decide +kernel
theorem dX4_readWheel_38 : decode cX4_readWheel 38 = .ok (.aload_n 0, 1) := by decide +kernel
theorem dX4_readWheel_39 : decode cX4_readWheel 39 = .ok (.getfield 38, 3) := by decide +kernel
theorem dX4_readWheel_42 : decode cX4_readWheel 42 = .ok (.ifCond .ne 9, 3) := by decide +kernel
theorem dX4_readWheel_45 : decode cX4_readWheel 45 = .ok (.aload_n 1, 1) := by decide +kernel
theorem dX4_readWheel_46 : decode cX4_readWheel 46 = .ok (.iload_n 2, 1) := by decide +kernel
theorem dX4_readWheel_47 : decode cX4_readWheel 47 = .ok (.iload_n 3, 1) := by decide +kernel
theorem dX4_readWheel_48 : decode cX4_readWheel 48 = .ok (.invokevirtual 79, 3) := by decide +kernel
theorem dX4_readWheel_51 : decode cX4_readWheel 51 = .ok (.return_, 1) := by decide +kernel
theorem dX4_readLink_0 : decode cX4_readLink 0 = .ok (.aload_n 0, 1) := by decide +kernel
theorem dX4_readLink_1 : decode cX4_readLink 1 = .ok (.aload_n 1, 1) := by decide +kernel
theorem dX4_readLink_2 : decode cX4_readLink 2 = .ok (.getfield 82, 3) := by decide +kernel
theorem dX4_readLink_5 : decode cX4_readLink 5 = .ok (.bipush 10, 2) := by decide +kernel
theorem dX4_readLink_7 : decode cX4_readLink 7 = .ok (.if_icmp .lt 7, 3) := by decide +kernel
theorem dX4_readLink_10 : decode cX4_readLink 10 = .ok (.iconst 1, 1) := by decide +kernel
theorem dX4_readLink_11 : decode cX4_readLink 11 = .ok (.goto 4, 3) := by decide +kernel
theorem dX4_readLink_14 : decode cX4_readLink 14 = .ok (.iconst 0, 1) := by decide +kernel
theorem dX4_readLink_15 : decode cX4_readLink 15 = .ok (.invokevirtual 68, 3) := by decide +kernel
theorem dX4_readLink_18 : decode cX4_readLink 18 = .ok (.aload_n 0, 1) := by decide +kernel
theorem dX4_readLink_19 : decode cX4_readLink 19 = .ok (.invokevirtual 85, 3) := by decide +kernel
theorem dX4_readLink_22 : decode cX4_readLink 22 = .ok (.istore_n 2, 1) := by decide +kernel
theorem dX4_readLink_23 : decode cX4_readLink 23 = .ok (.aload_n 0, 1) := by decide +kernel
theorem dX4_readLink_24 : decode cX4_readLink 24 = .ok (.iconst 0, 1) := by decide +kernel
theorem dX4_readLink_25 : decode cX4_readLink 25 = .ok (.aload_n 1, 1) := by decide +kernel
theorem dX4_readLink_26 : decode cX4_readLink 26 = .ok (.getfield 65, 3) := by decide +kernel
theorem dX4_readLink_29 : decode cX4_readLink 29 = .ok (.iconst 1, 1) := by decide +kernel
theorem dX4_readLink_30 : decode cX4_readLink 30 = .ok (.isub, 1) := by decide +kernel
theorem dX4_readLink_31 : decode cX4_readLink 31 = .ok (.invokevirtual 72, 3) := by decide +kernel
theorem dX4_readLink_34 : decode cX4_readLink 34 = .ok (.istore_n 3, 1) := by decide +kernel
theorem dX4_readLink_35 : decode cX4_readLink 35 = .ok (.aload_n 0, 1) := by decide +kernel
theorem dX4_readLink_36 : decode cX4_readLink 36 = .ok (.iconst 0, 1) := by decide +kernel
theorem dX4_readLink_37 : decode cX4_readLink 37 = .ok (.aload_n 1, 1) := by decide +kernel
theorem dX4_readLink_38 : decode cX4_readLink 38 = .ok (.getfield 65, 3) := by decide +kernel
theorem dX4_readLink_41 : decode cX4_readLink 41 = .ok (.iconst 1, 1) := by decide +kernel
theorem dX4_readLink_42 : decode cX4_readLink 42 = .ok (.isub, 1) := by decide +kernel
theorem dX4_readLink_43 : decode cX4_readLink 43 = .ok (.invokevirtual 72, 3) := by decide +kernel
theorem dX4_readLink_46 : decode cX4_readLink 46 = .ok (.istore 4, 2) := by decide +kernel
theorem dX4_readLink_48 : decode cX4_readLink 48 = .ok (.iload_n 3, 1) := by decide +kernel
theorem dX4_readLink_49 : decode cX4_readLink 49 = .ok (.iload 4, 2) := by decide +kernel
theorem dX4_readLink_51 : decode cX4_readLink 51 = .ok (.if_icmp .ne 12, 3) := by decide +kernel
theorem dX4_readLink_54 : decode cX4_readLink 54 = .ok (.aload_n 0, 1) := by decide +kernel
theorem dX4_readLink_55 : decode cX4_readLink 55 = .ok (.iconst 4, 1) := by decide +kernel
theorem dX4_readLink_56 : decode cX4_readLink 56 = .ok (.aload_n 0, 1) := by decide +kernel
theorem dX4_readLink_57 : decode cX4_readLink 57 = .ok (.getfield 89, 3) := by decide +kernel
theorem dX4_readLink_60 : decode cX4_readLink 60 = .ok (.invokevirtual 61, 3) := by decide +kernel
theorem dX4_readLink_63 : decode cX4_readLink 63 = .ok (.aload_n 0, 1) := by decide +kernel
theorem dX4_readLink_64 : decode cX4_readLink 64 = .ok (.iconst 0, 1) := by decide +kernel
theorem dX4_readLink_65 : decode cX4_readLink 65 = .ok (.sipush 999, 3) := by decide +kernel
theorem dX4_readLink_68 : decode cX4_readLink 68 = .ok (.invokevirtual 72, 3) := by decide +kernel
theorem dX4_readLink_71 : decode cX4_readLink 71 = .ok (.istore 5, 2) := by decide +kernel
theorem dX4_readLink_73 : decode cX4_readLink 73 = .ok (.aload_n 0, 1) := by decide +kernel
theorem dX4_readLink_74 : decode cX4_readLink 74 = .ok (.invokevirtual 76, 3) := by decide +kernel
theorem dX4_readLink_77 : decode cX4_readLink 77 = .ok (.aload_n 0, 1) := by decide +kernel
theorem dX4_readLink_78 : decode cX4_readLink 78 = .ok (.getfield 38, 3) := by decide +kernel
theorem dX4_readLink_81 : decode cX4_readLink 81 = .ok (.ifCond .ne 13, 3) := by decide +kernel
theorem dX4_readLink_84 : decode cX4_readLink 84 = .ok (.aload_n 1, 1) := by decide +kernel
theorem dX4_readLink_85 : decode cX4_readLink 85 = .ok (.iload_n 2, 1) := by decide +kernel
theorem dX4_readLink_86 : decode cX4_readLink 86 = .ok (.iload_n 3, 1) := by decide +kernel
theorem dX4_readLink_87 : decode cX4_readLink 87 = .ok (.iload 4, 2) := by decide +kernel
theorem dX4_readLink_89 : decode cX4_readLink 89 = .ok (.iload 5, 2) := by decide +kernel
theorem dX4_readLink_91 : decode cX4_readLink 91 = .ok (.invokevirtual 92, 3) := by decide +kernel
theorem dX4_readLink_94 : decode cX4_readLink 94 = .ok (.return_, 1) := by decide +kernel
theorem dX4_readDriven_0 : decode cX4_readDriven 0 = .ok (.aload_n 0, 1) := by decide +kernel
theorem dX4_readDriven_1 : decode cX4_readDriven 1 = .ok (.aload_n 0, 1) := by decide +kernel
theorem dX4_readDriven_2 : decode cX4_readDriven 2 = .ok (.getfield 34, 3) := by decide +kernel
theorem dX4_readDriven_5 : decode cX4_readDriven 5 = .ok (.invokevirtual 68, 3) := by decide +kernel
theorem dX4_readDriven_8 : decode cX4_readDriven 8 = .ok (.aload_n 0, 1) := by decide +kernel
theorem dX4_readDriven_9 : decode cX4_readDriven 9 = .ok (.iconst 0, 1) := by decide +kernel
theorem dX4_readDriven_10 : decode cX4_readDriven 10 = .ok (.aload_n 1, 1) := by decide +kernel
theorem dX4_readDriven_11 : decode cX4_readDriven 11 = .ok (.getfield 65, 3) := by decide +kernel
theorem dX4_readDriven_14 : decode cX4_readDriven 14 = .ok (.iconst 1, 1) := by decide +kernel
theorem dX4_readDriven_15 : decode cX4_readDriven 15 = .ok (.isub, 1) := by decide +kernel
theorem dX4_readDriven_16 : decode cX4_readDriven 16 = .ok (.invokevirtual 72, 3) := by decide +kernel
theorem dX4_readDriven_19 : decode cX4_readDriven 19 = .ok (.istore_n 2, 1) := by decide +kernel
theorem dX4_readDriven_20 : decode cX4_readDriven 20 = .ok (.aload_n 0, 1) := by decide +kernel
theorem dX4_readDriven_21 : decode cX4_readDriven 21 = .ok (.iconst 1, 1) := by decide +kernel
theorem dX4_readDriven_22 : decode cX4_readDriven 22 = .ok (.bipush 30, 2) := by decide +kernel
theorem dX4_readDriven_24 : decode cX4_readDriven 24 = .ok (.invokevirtual 72, 3) := by decide +kernel
theorem dX4_readDriven_27 : decode cX4_readDriven 27 = .ok (.istore_n 3, 1) := by decide +kernel
theorem dX4_readDriven_28 : decode cX4_readDriven 28 = .ok (.aload_n 0, 1) := by decide +kernel
theorem dX4_readDriven_29 : decode cX4_readDriven 29 = .ok (.invokevirtual 76, 3) := by decide +kernel
theorem dX4_readDriven_32 : decode cX4_readDriven 32 = .ok (.aload_n 0, 1) := by decide +kernel
theorem dX4_readDriven_33 : decode cX4_readDriven 33 = .ok (.getfield 38, 3) := by decide +kernel
theorem dX4_readDriven_36 : decode cX4_readDriven 36 = .ok (.ifCond .ne 18, 3) := by decide +kernel
theorem dX4_readDriven_39 : decode cX4_readDriven 39 = .ok (.aload_n 1, 1) := by decide +kernel
theorem dX4_readDriven_40 : decode cX4_readDriven 40 = .ok (.iload_n 2, 1) := by decide +kernel
theorem dX4_readDriven_41 : decode cX4_readDriven 41 = .ok (.putfield 96, 3) := by decide +kernel
theorem dX4_readDriven_44 : decode cX4_readDriven 44 = .ok (.aload_n 1, 1) := by decide +kernel
theorem dX4_readDriven_45 : decode cX4_readDriven 45 = .ok (.iload_n 3, 1) := by decide +kernel
theorem dX4_readDriven_46 : decode cX4_readDriven 46 = .ok (.putfield 99, 3) := by decide +kernel
theorem dX4_readDriven_49 : decode cX4_readDriven 49 = .ok (.aload_n 0, 1) := by decide +kernel
theorem dX4_readDriven_50 : decode cX4_readDriven 50 = .ok (.iconst 1, 1) := by decide +kernel
theorem dX4_readDriven_51 : decode cX4_readDriven 51 = .ok (.putfield 34, 3) := by decide +kernel
theorem dX4_readDriven_54 : decode cX4_readDriven 54 = .ok (.return_, 1) := by decide +kernel
theorem dX4_readFeast_0 : decode cX4_readFeast 0 = .ok (.aload_n 0, 1) := by decide +kernel
theorem dX4_readFeast_1 : decode cX4_readFeast 1 = .ok (.aload_n 1, 1) := by decide +kernel
theorem dX4_readFeast_2 : decode cX4_readFeast 2 = .ok (.getfield 102, 3) := by decide +kernel
theorem dX4_readFeast_5 : decode cX4_readFeast 5 = .ok (.bipush 6, 2) := by decide +kernel
theorem dX4_readFeast_7 : decode cX4_readFeast 7 = .ok (.if_icmp .lt 7, 3) := by decide +kernel
theorem dX4_readFeast_10 : decode cX4_readFeast 10 = .ok (.iconst 1, 1) := by decide +kernel
theorem dX4_readFeast_11 : decode cX4_readFeast 11 = .ok (.goto 4, 3) := by decide +kernel
theorem dX4_readFeast_14 : decode cX4_readFeast 14 = .ok (.iconst 0, 1) := by decide +kernel
theorem dX4_readFeast_15 : decode cX4_readFeast 15 = .ok (.invokevirtual 68, 3) := by decide +kernel
theorem dX4_readFeast_18 : decode cX4_readFeast 18 = .ok (.aload_n 0, 1) := by decide +kernel
theorem dX4_readFeast_19 : decode cX4_readFeast 19 = .ok (.iconst 0, 1) := by decide +kernel
theorem dX4_readFeast_20 : decode cX4_readFeast 20 = .ok (.aload_n 1, 1) := by decide +kernel
theorem dX4_readFeast_21 : decode cX4_readFeast 21 = .ok (.getfield 65, 3) := by decide +kernel
theorem dX4_readFeast_24 : decode cX4_readFeast 24 = .ok (.iconst 1, 1) := by decide +kernel
theorem dX4_readFeast_25 : decode cX4_readFeast 25 = .ok (.isub, 1) := by decide +kernel
theorem dX4_readFeast_26 : decode cX4_readFeast 26 = .ok (.invokevirtual 72, 3) := by decide +kernel
theorem dX4_readFeast_29 : decode cX4_readFeast 29 = .ok (.istore_n 2, 1) := by decide +kernel
theorem dX4_readFeast_30 : decode cX4_readFeast 30 = .ok (.aload_n 0, 1) := by decide +kernel
theorem dX4_readFeast_31 : decode cX4_readFeast 31 = .ok (.iconst 0, 1) := by decide +kernel
theorem dX4_readFeast_32 : decode cX4_readFeast 32 = .ok (.bipush 29, 2) := by decide +kernel
theorem dX4_readFeast_34 : decode cX4_readFeast 34 = .ok (.invokevirtual 72, 3) := by decide +kernel
theorem dX4_readFeast_37 : decode cX4_readFeast 37 = .ok (.istore_n 3, 1) := by decide +kernel
theorem dX4_readFeast_38 : decode cX4_readFeast 38 = .ok (.aload_n 0, 1) := by decide +kernel
theorem dX4_readFeast_39 : decode cX4_readFeast 39 = .ok (.getfield 38, 3) := by decide +kernel
theorem dX4_readFeast_42 : decode cX4_readFeast 42 = .ok (.ifCond .ne 22, 3) := by decide +kernel
theorem dX4_readFeast_45 : decode cX4_readFeast 45 = .ok (.iload_n 3, 1) := by decide +kernel
theorem dX4_readFeast_46 : decode cX4_readFeast 46 = .ok (.aload_n 1, 1) := by decide +kernel
theorem dX4_readFeast_47 : decode cX4_readFeast 47 = .ok (.getfield 105, 3) := by decide +kernel
theorem dX4_readFeast_50 : decode cX4_readFeast 50 = .ok (.iload_n 2, 1) := by decide +kernel
theorem dX4_readFeast_51 : decode cX4_readFeast 51 = .ok (.iaload, 1) := by decide +kernel
theorem dX4_readFeast_52 : decode cX4_readFeast 52 = .ok (.if_icmp .lt 12, 3) := by decide +kernel
theorem dX4_readFeast_55 : decode cX4_readFeast 55 = .ok (.aload_n 0, 1) := by decide +kernel
theorem dX4_readFeast_56 : decode cX4_readFeast 56 = .ok (.iconst 4, 1) := by decide +kernel
theorem dX4_readFeast_57 : decode cX4_readFeast 57 = .ok (.aload_n 0, 1) := by decide +kernel
theorem dX4_readFeast_58 : decode cX4_readFeast 58 = .ok (.getfield 89, 3) := by decide +kernel
theorem dX4_readFeast_61 : decode cX4_readFeast 61 = .ok (.invokevirtual 61, 3) := by decide +kernel
theorem dX4_readFeast_64 : decode cX4_readFeast 64 = .ok (.aload_n 0, 1) := by decide +kernel
theorem dX4_readFeast_65 : decode cX4_readFeast 65 = .ok (.invokevirtual 76, 3) := by decide +kernel
theorem dX4_readFeast_68 : decode cX4_readFeast 68 = .ok (.aload_n 0, 1) := by decide +kernel
theorem dX4_readFeast_69 : decode cX4_readFeast 69 = .ok (.getfield 38, 3) := by decide +kernel
theorem dX4_readFeast_72 : decode cX4_readFeast 72 = .ok (.ifCond .ne 9, 3) := by decide +kernel
theorem dX4_readFeast_75 : decode cX4_readFeast 75 = .ok (.aload_n 1, 1) := by decide +kernel
theorem dX4_readFeast_76 : decode cX4_readFeast 76 = .ok (.iload_n 2, 1) := by decide +kernel
theorem dX4_readFeast_77 : decode cX4_readFeast 77 = .ok (.iload_n 3, 1) := by decide +kernel
theorem dX4_readFeast_78 : decode cX4_readFeast 78 = .ok (.invokevirtual 109, 3) := by decide +kernel
theorem dX4_readFeast_81 : decode cX4_readFeast 81 = .ok (.return_, 1) := by decide +kernel
theorem dX4_passWord_0 : decode cX4_passWord 0 = .ok (.iload_n 1, 1) := by decide +kernel
theorem dX4_passWord_1 : decode cX4_passWord 1 = .ok (.ifCond .eq 12, 3) := by decide +kernel
theorem dX4_passWord_4 : decode cX4_passWord 4 = .ok (.aload_n 0, 1) := by decide +kernel
theorem dX4_passWord_5 : decode cX4_passWord 5 = .ok (.iconst 3, 1) := by decide +kernel
theorem dX4_passWord_6 : decode cX4_passWord 6 = .ok (.aload_n 0, 1) := by decide +kernel
theorem dX4_passWord_7 : decode cX4_passWord 7 = .ok (.getfield 31, 3) := by decide +kernel
theorem dX4_passWord_10 : decode cX4_passWord 10 = .ok (.invokevirtual 61, 3) := by decide +kernel
theorem dX4_passWord_13 : decode cX4_passWord 13 = .ok (.aload_n 0, 1) := by decide +kernel
theorem dX4_passWord_14 : decode cX4_passWord 14 = .ok (.dup, 1) := by decide +kernel
theorem dX4_passWord_15 : decode cX4_passWord 15 = .ok (.getfield 31, 3) := by decide +kernel
theorem dX4_passWord_18 : decode cX4_passWord 18 = .ok (.iconst 1, 1) := by decide +kernel
theorem dX4_passWord_19 : decode cX4_passWord 19 = .ok (.iadd, 1) := by decide +kernel
theorem dX4_passWord_20 : decode cX4_passWord 20 = .ok (.putfield 31, 3) := by decide +kernel
theorem dX4_passWord_23 : decode cX4_passWord 23 = .ok (.return_, 1) := by decide +kernel
theorem dX4_passEnd_0 : decode cX4_passEnd 0 = .ok (.aload_n 0, 1) := by decide +kernel
theorem dX4_passEnd_1 : decode cX4_passEnd 1 = .ok (.invokevirtual 41, 3) := by decide +kernel
theorem dX4_passEnd_4 : decode cX4_passEnd 4 = .ok (.aload_n 0, 1) := by decide +kernel
theorem dX4_passEnd_5 : decode cX4_passEnd 5 = .ok (.getfield 31, 3) := by decide +kernel
theorem dX4_passEnd_8 : decode cX4_passEnd 8 = .ok (.aload_n 0, 1) := by decide +kernel
theorem dX4_passEnd_9 : decode cX4_passEnd 9 = .ok (.getfield 28, 3) := by decide +kernel
theorem dX4_passEnd_12 : decode cX4_passEnd 12 = .ok (.if_icmp .ge 30, 3) := by decide +kernel
theorem dX4_passEnd_15 : decode cX4_passEnd 15 = .ok (.aload_n 0, 1) := by decide +kernel
theorem dX4_passEnd_16 : decode cX4_passEnd 16 = .ok (.getfield 9, 3) := by decide +kernel
theorem dX4_passEnd_19 : decode cX4_passEnd 19 = .ok (.aload_n 0, 1) := by decide +kernel
theorem dX4_passEnd_20 : decode cX4_passEnd 20 = .ok (.getfield 31, 3) := by decide +kernel
theorem dX4_passEnd_23 : decode cX4_passEnd 23 = .ok (.caload, 1) := by decide +kernel
theorem dX4_passEnd_24 : decode cX4_passEnd 24 = .ok (.bipush 59, 2) := by decide +kernel
theorem dX4_passEnd_26 : decode cX4_passEnd 26 = .ok (.if_icmp .ne 16, 3) := by decide +kernel
theorem dX4_passEnd_29 : decode cX4_passEnd 29 = .ok (.aload_n 0, 1) := by decide +kernel
theorem dX4_passEnd_30 : decode cX4_passEnd 30 = .ok (.dup, 1) := by decide +kernel
theorem dX4_passEnd_31 : decode cX4_passEnd 31 = .ok (.getfield 31, 3) := by decide +kernel
theorem dX4_passEnd_34 : decode cX4_passEnd 34 = .ok (.iconst 1, 1) := by decide +kernel
theorem dX4_passEnd_35 : decode cX4_passEnd 35 = .ok (.iadd, 1) := by decide +kernel
theorem dX4_passEnd_36 : decode cX4_passEnd 36 = .ok (.putfield 31, 3) := by decide +kernel
theorem dX4_passEnd_39 : decode cX4_passEnd 39 = .ok (.goto 12, 3) := by decide +kernel
theorem dX4_passEnd_42 : decode cX4_passEnd 42 = .ok (.aload_n 0, 1) := by decide +kernel
theorem dX4_passEnd_43 : decode cX4_passEnd 43 = .ok (.iconst 1, 1) := by decide +kernel
theorem dX4_passEnd_44 : decode cX4_passEnd 44 = .ok (.aload_n 0, 1) := by decide +kernel
theorem dX4_passEnd_45 : decode cX4_passEnd 45 = .ok (.getfield 31, 3) := by decide +kernel
theorem dX4_passEnd_48 : decode cX4_passEnd 48 = .ok (.invokevirtual 61, 3) := by decide +kernel
theorem dX4_passEnd_51 : decode cX4_passEnd 51 = .ok (.return_, 1) := by decide +kernel
theorem dX4_readKind_0 : decode cX4_readKind 0 = .ok (.aload_n 0, 1) := by decide +kernel
theorem dX4_readKind_1 : decode cX4_readKind 1 = .ok (.invokevirtual 41, 3) := by decide +kernel
theorem dX4_readKind_4 : decode cX4_readKind 4 = .ok (.aload_n 0, 1) := by decide +kernel
theorem dX4_readKind_5 : decode cX4_readKind 5 = .ok (.getfield 31, 3) := by decide +kernel
theorem dX4_readKind_8 : decode cX4_readKind 8 = .ok (.aload_n 0, 1) := by decide +kernel
theorem dX4_readKind_9 : decode cX4_readKind 9 = .ok (.getfield 28, 3) := by decide +kernel
theorem dX4_readKind_12 : decode cX4_readKind 12 = .ok (.if_icmp .ge 15, 3) := by decide +kernel
theorem dX4_readKind_15 : decode cX4_readKind 15 = .ok (.aload_n 0, 1) := by decide +kernel
theorem dX4_readKind_16 : decode cX4_readKind 16 = .ok (.getfield 9, 3) := by decide +kernel
theorem dX4_readKind_19 : decode cX4_readKind 19 = .ok (.aload_n 0, 1) := by decide +kernel
theorem dX4_readKind_20 : decode cX4_readKind 20 = .ok (.getfield 31, 3) := by decide +kernel
theorem dX4_readKind_23 : decode cX4_readKind 23 = .ok (.caload, 1) := by decide +kernel
theorem dX4_readKind_24 : decode cX4_readKind 24 = .ok (.goto 5, 3) := by decide +kernel
theorem dX4_readKind_27 : decode cX4_readKind 27 = .ok (.bipush 32, 2) := by decide +kernel
theorem dX4_readKind_29 : decode cX4_readKind 29 = .ok (.istore_n 1, 1) := by decide +kernel
theorem dX4_readKind_30 : decode cX4_readKind 30 = .ok (.iload_n 1, 1) := by decide +kernel
theorem dX4_readKind_31 : decode cX4_readKind 31 = .ok (.bipush 109, 2) := by decide +kernel
theorem dX4_readKind_33 : decode cX4_readKind 33 = .ok (.if_icmp .ne 7, 3) := by decide +kernel
theorem dX4_readKind_36 : decode cX4_readKind 36 = .ok (.iconst 0, 1) := by decide +kernel
theorem dX4_readKind_37 : decode cX4_readKind 37 = .ok (.goto 24, 3) := by decide +kernel
theorem dX4_readKind_40 : decode cX4_readKind 40 = .ok (.iload_n 1, 1) := by decide +kernel
theorem dX4_readKind_41 : decode cX4_readKind 41 = .ok (.bipush 98, 2) := by decide +kernel
theorem dX4_readKind_43 : decode cX4_readKind 43 = .ok (.if_icmp .ne 7, 3) := by decide +kernel
theorem dX4_readKind_46 : decode cX4_readKind 46 = .ok (.iconst 1, 1) := by decide +kernel
theorem dX4_readKind_47 : decode cX4_readKind 47 = .ok (.goto 14, 3) := by decide +kernel
theorem dX4_readKind_50 : decode cX4_readKind 50 = .ok (.iload_n 1, 1) := by decide +kernel
theorem dX4_readKind_51 : decode cX4_readKind 51 = .ok (.bipush 97, 2) := by decide +kernel
theorem dX4_readKind_53 : decode cX4_readKind 53 = .ok (.if_icmp .ne 7, 3) := by decide +kernel
theorem dX4_readKind_56 : decode cX4_readKind 56 = .ok (.iconst 2, 1) := by decide +kernel
theorem dX4_readKind_57 : decode cX4_readKind 57 = .ok (.goto 4, 3) := by decide +kernel
theorem dX4_readKind_60 : decode cX4_readKind 60 = .ok (.iconst (-1), 1) := by decide +kernel
theorem dX4_readKind_61 : decode cX4_readKind 61 = .ok (.istore_n 2, 1) := by decide +kernel
theorem dX4_readKind_62 : decode cX4_readKind 62 = .ok (.iload_n 2, 1) := by decide +kernel
theorem dX4_readKind_63 : decode cX4_readKind 63 = .ok (.iconst (-1), 1) := by decide +kernel
theorem dX4_readKind_64 : decode cX4_readKind 64 = .ok (.if_icmp .ne 12, 3) := by decide +kernel
theorem dX4_readKind_67 : decode cX4_readKind 67 = .ok (.aload_n 0, 1) := by decide +kernel
theorem dX4_readKind_68 : decode cX4_readKind 68 = .ok (.iconst 1, 1) := by decide +kernel
theorem dX4_readKind_69 : decode cX4_readKind 69 = .ok (.aload_n 0, 1) := by decide +kernel
theorem dX4_readKind_70 : decode cX4_readKind 70 = .ok (.getfield 31, 3) := by decide +kernel
theorem dX4_readKind_73 : decode cX4_readKind 73 = .ok (.invokevirtual 61, 3) := by decide +kernel
theorem dX4_readKind_76 : decode cX4_readKind 76 = .ok (.aload_n 0, 1) := by decide +kernel
theorem dX4_readKind_77 : decode cX4_readKind 77 = .ok (.dup, 1) := by decide +kernel
theorem dX4_readKind_78 : decode cX4_readKind 78 = .ok (.getfield 31, 3) := by decide +kernel
theorem dX4_readKind_81 : decode cX4_readKind 81 = .ok (.iconst 1, 1) := by decide +kernel
theorem dX4_readKind_82 : decode cX4_readKind 82 = .ok (.iadd, 1) := by decide +kernel
theorem dX4_readKind_83 : decode cX4_readKind 83 = .ok (.putfield 31, 3) := by decide +kernel
theorem dX4_readKind_86 : decode cX4_readKind 86 = .ok (.iload_n 2, 1) := by decide +kernel
theorem dX4_readKind_87 : decode cX4_readKind 87 = .ok (.ireturn, 1) := by decide +kernel
theorem dX4_readNumber_0 : decode cX4_readNumber 0 = .ok (.aload_n 0, 1) := by decide +kernel
theorem dX4_readNumber_1 : decode cX4_readNumber 1 = .ok (.invokevirtual 41, 3) := by decide +kernel
theorem dX4_readNumber_4 : decode cX4_readNumber 4 = .ok (.aload_n 0, 1) := by decide +kernel
theorem dX4_readNumber_5 : decode cX4_readNumber 5 = .ok (.aload_n 0, 1) := by decide +kernel
theorem dX4_readNumber_6 : decode cX4_readNumber 6 = .ok (.getfield 31, 3) := by decide +kernel
theorem dX4_readNumber_9 : decode cX4_readNumber 9 = .ok (.putfield 89, 3) := by decide +kernel
theorem dX4_readNumber_12 : decode cX4_readNumber 12 = .ok (.iconst 0, 1) := by decide +kernel
theorem dX4_readNumber_13 : decode cX4_readNumber 13 = .ok (.istore_n 3, 1) := by decide +kernel
theorem dX4_readNumber_14 : decode cX4_readNumber 14 = .ok (.aload_n 0, 1) := by decide +kernel
theorem dX4_readNumber_15 : decode cX4_readNumber 15 = .ok (.getfield 31, 3) := by decide +kernel
theorem dX4_readNumber_18 : decode cX4_readNumber 18 = .ok (.aload_n 0, 1) := by decide +kernel
theorem dX4_readNumber_19 : decode cX4_readNumber 19 = .ok (.getfield 28, 3) := by decide +kernel
theorem dX4_readNumber_22 : decode cX4_readNumber 22 = .ok (.if_icmp .ge 75, 3) := by decide +kernel
theorem dX4_readNumber_25 : decode cX4_readNumber 25 = .ok (.aload_n 0, 1) := by decide +kernel
theorem dX4_readNumber_26 : decode cX4_readNumber 26 = .ok (.getfield 9, 3) := by decide +kernel
theorem dX4_readNumber_29 : decode cX4_readNumber 29 = .ok (.aload_n 0, 1) := by decide +kernel
theorem dX4_readNumber_30 : decode cX4_readNumber 30 = .ok (.getfield 31, 3) := by decide +kernel
theorem dX4_readNumber_33 : decode cX4_readNumber 33 = .ok (.caload, 1) := by decide +kernel
theorem dX4_readNumber_34 : decode cX4_readNumber 34 = .ok (.bipush 48, 2) := by decide +kernel
theorem dX4_readNumber_36 : decode cX4_readNumber 36 = .ok (.if_icmp .lt 61, 3) := by decide +kernel
theorem dX4_readNumber_39 : decode cX4_readNumber 39 = .ok (.aload_n 0, 1) := by decide +kernel
theorem dX4_readNumber_40 : decode cX4_readNumber 40 = .ok (.getfield 9, 3) := by decide +kernel
theorem dX4_readNumber_43 : decode cX4_readNumber 43 = .ok (.aload_n 0, 1) := by decide +kernel
theorem dX4_readNumber_44 : decode cX4_readNumber 44 = .ok (.getfield 31, 3) := by decide +kernel
theorem dX4_readNumber_47 : decode cX4_readNumber 47 = .ok (.caload, 1) := by decide +kernel
theorem dX4_readNumber_48 : decode cX4_readNumber 48 = .ok (.bipush 57, 2) := by decide +kernel
theorem dX4_readNumber_50 : decode cX4_readNumber 50 = .ok (.if_icmp .gt 47, 3) := by decide +kernel
theorem dX4_readNumber_53 : decode cX4_readNumber 53 = .ok (.aload_n 0, 1) := by decide +kernel
theorem dX4_readNumber_54 : decode cX4_readNumber 54 = .ok (.getfield 31, 3) := by decide +kernel
theorem dX4_readNumber_57 : decode cX4_readNumber 57 = .ok (.aload_n 0, 1) := by decide +kernel
theorem dX4_readNumber_58 : decode cX4_readNumber 58 = .ok (.getfield 89, 3) := by decide +kernel
theorem dX4_readNumber_61 : decode cX4_readNumber 61 = .ok (.isub, 1) := by decide +kernel
theorem dX4_readNumber_62 : decode cX4_readNumber 62 = .ok (.iconst 4, 1) := by decide +kernel
theorem dX4_readNumber_63 : decode cX4_readNumber 63 = .ok (.if_icmp .ge 21, 3) := by decide +kernel
theorem dX4_readNumber_66 : decode cX4_readNumber 66 = .ok (.bipush 10, 2) := by decide +kernel
theorem dX4_readNumber_68 : decode cX4_readNumber 68 = .ok (.iload_n 3, 1) := by decide +kernel
theorem dX4_readNumber_69 : decode cX4_readNumber 69 = .ok (.imul, 1) := by decide +kernel
theorem dX4_readNumber_70 : decode cX4_readNumber 70 = .ok (.aload_n 0, 1) := by decide +kernel
theorem dX4_readNumber_71 : decode cX4_readNumber 71 = .ok (.getfield 9, 3) := by decide +kernel
theorem dX4_readNumber_74 : decode cX4_readNumber 74 = .ok (.aload_n 0, 1) := by decide +kernel
theorem dX4_readNumber_75 : decode cX4_readNumber 75 = .ok (.getfield 31, 3) := by decide +kernel
theorem dX4_readNumber_78 : decode cX4_readNumber 78 = .ok (.caload, 1) := by decide +kernel
theorem dX4_readNumber_79 : decode cX4_readNumber 79 = .ok (.iadd, 1) := by decide +kernel
theorem dX4_readNumber_80 : decode cX4_readNumber 80 = .ok (.bipush 48, 2) := by decide +kernel
theorem dX4_readNumber_82 : decode cX4_readNumber 82 = .ok (.isub, 1) := by decide +kernel
theorem dX4_readNumber_83 : decode cX4_readNumber 83 = .ok (.istore_n 3, 1) := by decide +kernel
theorem dX4_readNumber_84 : decode cX4_readNumber 84 = .ok (.aload_n 0, 1) := by decide +kernel
theorem dX4_readNumber_85 : decode cX4_readNumber 85 = .ok (.dup, 1) := by decide +kernel
theorem dX4_readNumber_86 : decode cX4_readNumber 86 = .ok (.getfield 31, 3) := by decide +kernel
theorem dX4_readNumber_89 : decode cX4_readNumber 89 = .ok (.iconst 1, 1) := by decide +kernel
theorem dX4_readNumber_90 : decode cX4_readNumber 90 = .ok (.iadd, 1) := by decide +kernel
theorem dX4_readNumber_91 : decode cX4_readNumber 91 = .ok (.putfield 31, 3) := by decide +kernel
theorem dX4_readNumber_94 : decode cX4_readNumber 94 = .ok (.goto (-80), 3) := by decide +kernel
theorem dX4_readNumber_97 : decode cX4_readNumber 97 = .ok (.aload_n 0, 1) := by decide +kernel
theorem dX4_readNumber_98 : decode cX4_readNumber 98 = .ok (.getfield 31, 3) := by decide +kernel
theorem dX4_readNumber_101 : decode cX4_readNumber 101 = .ok (.aload_n 0, 1) := by decide +kernel
theorem dX4_readNumber_102 : decode cX4_readNumber 102 = .ok (.getfield 89, 3) := by decide +kernel
theorem dX4_readNumber_105 : decode cX4_readNumber 105 = .ok (.if_icmp .ne 15, 3) := by decide +kernel
theorem dX4_readNumber_108 : decode cX4_readNumber 108 = .ok (.aload_n 0, 1) := by decide +kernel
theorem dX4_readNumber_109 : decode cX4_readNumber 109 = .ok (.iconst 1, 1) := by decide +kernel
theorem dX4_readNumber_110 : decode cX4_readNumber 110 = .ok (.aload_n 0, 1) := by decide +kernel
theorem dX4_readNumber_111 : decode cX4_readNumber 111 = .ok (.getfield 31, 3) := by decide +kernel
theorem dX4_readNumber_114 : decode cX4_readNumber 114 = .ok (.invokevirtual 61, 3) := by decide +kernel
theorem dX4_readNumber_117 : decode cX4_readNumber 117 = .ok (.goto 35, 3) := by decide +kernel
theorem dX4_readNumber_120 : decode cX4_readNumber 120 = .ok (.aload_n 0, 1) := by decide +kernel
theorem dX4_readNumber_121 : decode cX4_readNumber 121 = .ok (.getfield 31, 3) := by decide +kernel
theorem dX4_readNumber_124 : decode cX4_readNumber 124 = .ok (.aload_n 0, 1) := by decide +kernel
theorem dX4_readNumber_125 : decode cX4_readNumber 125 = .ok (.getfield 89, 3) := by decide +kernel
theorem dX4_readNumber_128 : decode cX4_readNumber 128 = .ok (.isub, 1) := by decide +kernel
theorem dX4_readNumber_129 : decode cX4_readNumber 129 = .ok (.iconst 3, 1) := by decide +kernel
theorem dX4_readNumber_130 : decode cX4_readNumber 130 = .ok (.if_icmp .gt 13, 3) := by decide +kernel
theorem dX4_readNumber_133 : decode cX4_readNumber 133 = .ok (.iload_n 3, 1) := by decide +kernel
theorem dX4_readNumber_134 : decode cX4_readNumber 134 = .ok (.iload_n 1, 1) := by decide +kernel
theorem dX4_readNumber_135 : decode cX4_readNumber 135 = .ok (.if_icmp .lt 8, 3) := by decide +kernel
theorem dX4_readNumber_138 : decode cX4_readNumber 138 = .ok (.iload_n 3, 1) := by decide +kernel
theorem dX4_readNumber_139 : decode cX4_readNumber 139 = .ok (.iload_n 2, 1) := by decide +kernel
theorem dX4_readNumber_140 : decode cX4_readNumber 140 = .ok (.if_icmp .le 12, 3) := by decide +kernel
theorem dX4_readNumber_143 : decode cX4_readNumber 143 = .ok (.aload_n 0, 1) := by decide +kernel
theorem dX4_readNumber_144 : decode cX4_readNumber 144 = .ok (.iconst 2, 1) := by decide +kernel
theorem dX4_readNumber_145 : decode cX4_readNumber 145 = .ok (.aload_n 0, 1) := by decide +kernel
theorem dX4_readNumber_146 : decode cX4_readNumber 146 = .ok (.getfield 89, 3) := by decide +kernel
theorem dX4_readNumber_149 : decode cX4_readNumber 149 = .ok (.invokevirtual 61, 3) := by decide +kernel
theorem dX4_readNumber_152 : decode cX4_readNumber 152 = .ok (.iload_n 3, 1) := by decide +kernel
theorem dX4_readNumber_153 : decode cX4_readNumber 153 = .ok (.ireturn, 1) := by decide +kernel
theorem dX4_skipBlanks_0 : decode cX4_skipBlanks 0 = .ok (.aload_n 0, 1) := by decide +kernel
theorem dX4_skipBlanks_1 : decode cX4_skipBlanks 1 = .ok (.getfield 31, 3) := by decide +kernel
theorem dX4_skipBlanks_4 : decode cX4_skipBlanks 4 = .ok (.aload_n 0, 1) := by decide +kernel
theorem dX4_skipBlanks_5 : decode cX4_skipBlanks 5 = .ok (.getfield 28, 3) := by decide +kernel
theorem dX4_skipBlanks_8 : decode cX4_skipBlanks 8 = .ok (.if_icmp .ge 30, 3) := by decide +kernel
theorem dX4_skipBlanks_11 : decode cX4_skipBlanks 11 = .ok (.aload_n 0, 1) := by decide +kernel
theorem dX4_skipBlanks_12 : decode cX4_skipBlanks 12 = .ok (.getfield 9, 3) := by decide +kernel
theorem dX4_skipBlanks_15 : decode cX4_skipBlanks 15 = .ok (.aload_n 0, 1) := by decide +kernel
theorem dX4_skipBlanks_16 : decode cX4_skipBlanks 16 = .ok (.getfield 31, 3) := by decide +kernel
theorem dX4_skipBlanks_19 : decode cX4_skipBlanks 19 = .ok (.caload, 1) := by decide +kernel
theorem dX4_skipBlanks_20 : decode cX4_skipBlanks 20 = .ok (.bipush 32, 2) := by decide +kernel
theorem dX4_skipBlanks_22 : decode cX4_skipBlanks 22 = .ok (.if_icmp .ne 16, 3) := by decide +kernel
theorem dX4_skipBlanks_25 : decode cX4_skipBlanks 25 = .ok (.aload_n 0, 1) := by decide +kernel
theorem dX4_skipBlanks_26 : decode cX4_skipBlanks 26 = .ok (.dup, 1) := by decide +kernel
theorem dX4_skipBlanks_27 : decode cX4_skipBlanks 27 = .ok (.getfield 31, 3) := by decide +kernel
theorem dX4_skipBlanks_30 : decode cX4_skipBlanks 30 = .ok (.iconst 1, 1) := by decide +kernel
theorem dX4_skipBlanks_31 : decode cX4_skipBlanks 31 = .ok (.iadd, 1) := by decide +kernel
theorem dX4_skipBlanks_32 : decode cX4_skipBlanks 32 = .ok (.putfield 31, 3) := by decide +kernel
theorem dX4_skipBlanks_35 : decode cX4_skipBlanks 35 = .ok (.goto (-35), 3) := by decide +kernel
theorem dX4_skipBlanks_38 : decode cX4_skipBlanks 38 = .ok (.return_, 1) := by decide +kernel
theorem dX4_fail_0 : decode cX4_fail 0 = .ok (.aload_n 0, 1) := by decide +kernel
theorem dX4_fail_1 : decode cX4_fail 1 = .ok (.getfield 38, 3) := by decide +kernel
theorem dX4_fail_4 : decode cX4_fail 4 = .ok (.ifCond .ne 13, 3) := by decide +kernel
theorem dX4_fail_7 : decode cX4_fail 7 = .ok (.aload_n 0, 1) := by decide +kernel
theorem dX4_fail_8 : decode cX4_fail 8 = .ok (.iload_n 1, 1) := by decide +kernel
theorem dX4_fail_9 : decode cX4_fail 9 = .ok (.putfield 38, 3) := by decide +kernel
theorem dX4_fail_12 : decode cX4_fail 12 = .ok (.aload_n 0, 1) := by decide +kernel
theorem dX4_fail_13 : decode cX4_fail 13 = .ok (.iload_n 2, 1) := by decide +kernel
theorem dX4_fail_14 : decode cX4_fail 14 = .ok (.putfield 15, 3) := by decide +kernel
theorem dX4_fail_17 : decode cX4_fail 17 = .ok (.return_, 1) := by decide +kernel
theorem dX5_init_0 : decode cX5_init 0 = .ok (.aload_n 0, 1) := by decide +kernel
theorem dX5_init_1 : decode cX5_init 1 = .ok (.invokespecial 3, 3) := by decide +kernel
theorem dX5_init_4 : decode cX5_init 4 = .ok (.aload_n 0, 1) := by decide +kernel
theorem dX5_init_5 : decode cX5_init 5 = .ok (.bipush 8, 2) := by decide +kernel
theorem dX5_init_7 : decode cX5_init 7 = .ok (.newarray .int, 2) := by decide +kernel
theorem dX5_init_9 : decode cX5_init 9 = .ok (.putfield 9, 3) := by decide +kernel
theorem dX5_init_12 : decode cX5_init 12 = .ok (.return_, 1) := by decide +kernel
theorem dX5_become_0 : decode cX5_become 0 = .ok (.aload_n 0, 1) := by decide +kernel
theorem dX5_become_1 : decode cX5_become 1 = .ok (.aload_n 1, 1) := by decide +kernel
theorem dX5_become_2 : decode cX5_become 2 = .ok (.getfield 15, 3) := by decide +kernel
theorem dX5_become_5 : decode cX5_become 5 = .ok (.putfield 15, 3) := by decide +kernel
theorem dX5_become_8 : decode cX5_become 8 = .ok (.aload_n 0, 1) := by decide +kernel
theorem dX5_become_9 : decode cX5_become 9 = .ok (.aload_n 1, 1) := by decide +kernel
theorem dX5_become_10 : decode cX5_become 10 = .ok (.getfield 19, 3) := by decide +kernel
theorem dX5_become_13 : decode cX5_become 13 = .ok (.putfield 19, 3) := by decide +kernel
theorem dX5_become_16 : decode cX5_become 16 = .ok (.aload_n 0, 1) := by decide +kernel
theorem dX5_become_17 : decode cX5_become 17 = .ok (.aload_n 1, 1) := by decide +kernel
theorem dX5_become_18 : decode cX5_become 18 = .ok (.getfield 22, 3) := by decide +kernel
theorem dX5_become_21 : decode cX5_become 21 = .ok (.putfield 22, 3) := by decide +kernel
theorem dX5_become_24 : decode cX5_become 24 = .ok (.aload_n 1, 1) := by decide +kernel
theorem dX5_become_25 : decode cX5_become 25 = .ok (.getfield 9, 3) := by decide +kernel
theorem dX5_become_28 : decode cX5_become 28 = .ok (.iconst 0, 1) := by decide +kernel
theorem dX5_become_29 : decode cX5_become 29 = .ok (.aload_n 0, 1) := by decide +kernel
theorem dX5_become_30 : decode cX5_become 30 = .ok (.getfield 9, 3) := by decide +kernel
theorem dX5_become_33 : decode cX5_become 33 = .ok (.iconst 0, 1) := by decide +kernel
theorem dX5_become_34 : decode cX5_become 34 = .ok (.bipush 8, 2) := by decide +kernel
theorem dX5_become_36 : decode cX5_become 36 = .ok (.invokestatic 25, 3) := by decide +kernel
theorem dX5_become_39 : decode cX5_become 39 = .ok (.return_, 1) := by decide +kernel
theorem dX6_init_0 : decode cX6_init 0 = .ok (.aload_n 0, 1) := by decide +kernel
theorem dX6_init_1 : decode cX6_init 1 = .ok (.invokespecial 3, 3) := by decide +kernel
theorem dX6_init_4 : decode cX6_init 4 = .ok (.aload_n 0, 1) := by decide +kernel
theorem dX6_init_5 : decode cX6_init 5 = .ok (.iconst 1, 1) := by decide +kernel
theorem dX6_init_6 : decode cX6_init 6 = .ok (.putfield 9, 3) := by decide +kernel
theorem dX6_init_9 : decode cX6_init 9 = .ok (.aload_n 0, 1) := by decide +kernel
theorem dX6_init_10 : decode cX6_init 10 = .ok (.bipush 8, 2) := by decide +kernel
theorem dX6_init_12 : decode cX6_init 12 = .ok (.newarray .int, 2) := by decide +kernel
theorem dX6_init_14 : decode cX6_init 14 = .ok (.putfield 15, 3) := by decide +kernel
theorem dX6_init_17 : decode cX6_init 17 = .ok (.aload_n 0, 1) := by decide +kernel
theorem dX6_init_18 : decode cX6_init 18 = .ok (.bipush 8, 2) := by decide +kernel
theorem dX6_init_20 : decode cX6_init 20 = .ok (.newarray .int, 2) := by decide +kernel
theorem dX6_init_22 : decode cX6_init 22 = .ok (.putfield 19, 3) := by decide +kernel
theorem dX6_init_25 : decode cX6_init 25 = .ok (.aload_n 0, 1) := by decide +kernel
theorem dX6_init_26 : decode cX6_init 26 = .ok (.bipush 10, 2) := by decide +kernel
theorem dX6_init_28 : decode cX6_init 28 = .ok (.newarray .int, 2) := by decide +kernel
theorem dX6_init_30 : decode cX6_init 30 = .ok (.putfield 22, 3) := by decide +kernel
theorem dX6_init_33 : decode cX6_init 33 = .ok (.aload_n 0, 1) := by decide +kernel
theorem dX6_init_34 : decode cX6_init 34 = .ok (.bipush 11, 2) := by decide +kernel
theorem dX6_init_36 : decode cX6_init 36 = .ok (.newarray .int, 2) := by decide +kernel
theorem dX6_init_38 : decode cX6_init 38 = .ok (.putfield 25, 3) := by decide +kernel
theorem dX6_init_41 : decode cX6_init 41 = .ok (.aload_n 0, 1) := by decide +kernel
theorem dX6_init_42 : decode cX6_init 42 = .ok (.bipush 11, 2) := by decide +kernel
theorem dX6_init_44 : decode cX6_init 44 = .ok (.newarray .int, 2) := by decide +kernel
theorem dX6_init_46 : decode cX6_init 46 = .ok (.putfield 28, 3) := by decide +kernel
theorem dX6_init_49 : decode cX6_init 49 = .ok (.aload_n 0, 1) := by decide +kernel
theorem dX6_init_50 : decode cX6_init 50 = .ok (.bipush 11, 2) := by decide +kernel
theorem dX6_init_52 : decode cX6_init 52 = .ok (.newarray .int, 2) := by decide +kernel
theorem dX6_init_54 : decode cX6_init 54 = .ok (.putfield 31, 3) := by decide +kernel
theorem dX6_init_57 : decode cX6_init 57 = .ok (.aload_n 0, 1) := by decide +kernel
theorem dX6_init_58 : decode cX6_init 58 = .ok (.bipush 6, 2) := by decide +kernel
theorem dX6_init_60 : decode cX6_init 60 = .ok (.newarray .int, 2) := by decide +kernel
theorem dX6_init_62 : decode cX6_init 62 = .ok (.putfield 34, 3) := by decide +kernel
theorem dX6_init_65 : decode cX6_init 65 = .ok (.aload_n 0, 1) := by decide +kernel
theorem dX6_init_66 : decode cX6_init 66 = .ok (.bipush 6, 2) := by decide +kernel
theorem dX6_init_68 : decode cX6_init 68 = .ok (.newarray .int, 2) := by decide +kernel
theorem dX6_init_70 : decode cX6_init 70 = .ok (.putfield 37, 3) := by decide +kernel
theorem dX6_init_73 : decode cX6_init 73 = .ok (.return_, 1) := by decide +kernel
theorem dX6_forgetAll_0 : decode cX6_forgetAll 0 = .ok (.aload_n 0, 1) := by decide +kernel
theorem dX6_forgetAll_1 : decode cX6_forgetAll 1 = .ok (.iconst 0, 1) := by decide +kernel
theorem dX6_forgetAll_2 : decode cX6_forgetAll 2 = .ok (.putfield 40, 3) := by decide +kernel
theorem dX6_forgetAll_5 : decode cX6_forgetAll 5 = .ok (.aload_n 0, 1) := by decide +kernel
theorem dX6_forgetAll_6 : decode cX6_forgetAll 6 = .ok (.iconst 0, 1) := by decide +kernel
theorem dX6_forgetAll_7 : decode cX6_forgetAll 7 = .ok (.putfield 43, 3) := by decide +kernel
theorem dX6_forgetAll_10 : decode cX6_forgetAll 10 = .ok (.aload_n 0, 1) := by decide +kernel
theorem dX6_forgetAll_11 : decode cX6_forgetAll 11 = .ok (.iconst 0, 1) := by decide +kernel
theorem dX6_forgetAll_12 : decode cX6_forgetAll 12 = .ok (.putfield 46, 3) := by decide +kernel
theorem dX6_forgetAll_15 : decode cX6_forgetAll 15 = .ok (.aload_n 0, 1) := by decide +kernel
theorem dX6_forgetAll_16 : decode cX6_forgetAll 16 = .ok (.iconst 0, 1) := by decide +kernel
theorem dX6_forgetAll_17 : decode cX6_forgetAll 17 = .ok (.putfield 49, 3) := by decide +kernel
theorem dX6_forgetAll_20 : decode cX6_forgetAll 20 = .ok (.aload_n 0, 1) := by decide +kernel
theorem dX6_forgetAll_21 : decode cX6_forgetAll 21 = .ok (.iconst 1, 1) := by decide +kernel
theorem dX6_forgetAll_22 : decode cX6_forgetAll 22 = .ok (.putfield 9, 3) := by decide +kernel
theorem dX6_forgetAll_25 : decode cX6_forgetAll 25 = .ok (.return_, 1) := by decide +kernel
theorem dX6_addWheel_0 : decode cX6_addWheel 0 = .ok (.aload_n 0, 1) := by decide +kernel
theorem dX6_addWheel_1 : decode cX6_addWheel 1 = .ok (.getfield 15, 3) := by decide +kernel
theorem dX6_addWheel_4 : decode cX6_addWheel 4 = .ok (.aload_n 0, 1) := by decide +kernel
theorem dX6_addWheel_5 : decode cX6_addWheel 5 = .ok (.getfield 40, 3) := by decide +kernel
theorem dX6_addWheel_8 : decode cX6_addWheel 8 = .ok (.iload_n 1, 1) := by decide +kernel
theorem dX6_addWheel_9 : decode cX6_addWheel 9 = .ok (.iastore, 1) := by decide +kernel
theorem dX6_addWheel_10 : decode cX6_addWheel 10 = .ok (.aload_n 0, 1) := by decide +kernel
theorem dX6_addWheel_11 : decode cX6_addWheel 11 = .ok (.getfield 19, 3) := by decide +kernel
theorem dX6_addWheel_14 : decode cX6_addWheel 14 = .ok (.aload_n 0, 1) := by decide +kernel
theorem dX6_addWheel_15 : decode cX6_addWheel 15 = .ok (.getfield 40, 3) := by decide +kernel
theorem dX6_addWheel_18 : decode cX6_addWheel 18 = .ok (.iload_n 2, 1) := by decide +kernel
theorem dX6_addWheel_19 : decode cX6_addWheel 19 = .ok (.i2l, 1) := by decide +kernel
theorem dX6_addWheel_20 : decode cX6_addWheel 20 = .ok (.iload_n 1, 1) := by decide +kernel
theorem dX6_addWheel_21 : decode cX6_addWheel 21 = .ok (.i2l, 1) := by decide +kernel
theorem dX6_addWheel_22 : decode cX6_addWheel 22 = .ok (.invokestatic 52, 3) := by decide +kernel
theorem dX6_addWheel_25 : decode cX6_addWheel 25 = .ok (.l2i, 1) := by decide +kernel
theorem dX6_addWheel_26 : decode cX6_addWheel 26 = .ok (.iastore, 1) := by decide +kernel
theorem dX6_addWheel_27 : decode cX6_addWheel 27 = .ok (.aload_n 0, 1) := by decide +kernel
theorem dX6_addWheel_28 : decode cX6_addWheel 28 = .ok (.dup, 1) := by decide +kernel
theorem dX6_addWheel_29 : decode cX6_addWheel 29 = .ok (.getfield 40, 3) := by decide +kernel
theorem dX6_addWheel_32 : decode cX6_addWheel 32 = .ok (.iconst 1, 1) := by decide +kernel
theorem dX6_addWheel_33 : decode cX6_addWheel 33 = .ok (.iadd, 1) := by decide +kernel
theorem dX6_addWheel_34 : decode cX6_addWheel 34 = .ok (.putfield 40, 3) := by decide +kernel
theorem dX6_addWheel_37 : decode cX6_addWheel 37 = .ok (.return_, 1) := by decide +kernel
theorem dX6_setLink_0 : decode cX6_setLink 0 = .ok (.aload_n 0, 1) := by decide +kernel
theorem dX6_setLink_1 : decode cX6_setLink 1 = .ok (.getfield 25, 3) := by decide +kernel
theorem dX6_setLink_4 : decode cX6_setLink 4 = .ok (.iload_n 1, 1) := by decide +kernel
theorem dX6_setLink_5 : decode cX6_setLink 5 = .ok (.iload_n 2, 1) := by decide +kernel
theorem dX6_setLink_6 : decode cX6_setLink 6 = .ok (.iastore, 1) := by decide +kernel
theorem dX6_setLink_7 : decode cX6_setLink 7 = .ok (.aload_n 0, 1) := by decide +kernel
theorem dX6_setLink_8 : decode cX6_setLink 8 = .ok (.getfield 28, 3) := by decide +kernel
theorem dX6_setLink_11 : decode cX6_setLink 11 = .ok (.iload_n 1, 1) := by decide +kernel
theorem dX6_setLink_12 : decode cX6_setLink 12 = .ok (.iload_n 3, 1) := by decide +kernel
theorem dX6_setLink_13 : decode cX6_setLink 13 = .ok (.iastore, 1) := by decide +kernel
theorem dX6_setLink_14 : decode cX6_setLink 14 = .ok (.aload_n 0, 1) := by decide +kernel
theorem dX6_setLink_15 : decode cX6_setLink 15 = .ok (.getfield 31, 3) := by decide +kernel
theorem dX6_setLink_18 : decode cX6_setLink 18 = .ok (.iload_n 1, 1) := by decide +kernel
theorem dX6_setLink_19 : decode cX6_setLink 19 = .ok (.iload 4, 2) := by decide +kernel
theorem dX6_setLink_21 : decode cX6_setLink 21 = .ok (.iastore, 1) := by decide +kernel
theorem dX6_setLink_22 : decode cX6_setLink 22 = .ok (.return_, 1) := by decide +kernel
theorem dX6_addLink_0 : decode cX6_addLink 0 = .ok (.aload_n 0, 1) := by decide +kernel
theorem dX6_addLink_1 : decode cX6_addLink 1 = .ok (.aload_n 0, 1) := by decide +kernel
theorem dX6_addLink_2 : decode cX6_addLink 2 = .ok (.getfield 43, 3) := by decide +kernel
theorem dX6_addLink_5 : decode cX6_addLink 5 = .ok (.iload_n 1, 1) := by decide +kernel
theorem dX6_addLink_6 : decode cX6_addLink 6 = .ok (.iload_n 2, 1) := by decide +kernel
theorem dX6_addLink_7 : decode cX6_addLink 7 = .ok (.iload_n 3, 1) := by decide +kernel
theorem dX6_addLink_8 : decode cX6_addLink 8 = .ok (.invokevirtual 56, 3) := by decide +kernel
theorem dX6_addLink_11 : decode cX6_addLink 11 = .ok (.aload_n 0, 1) := by decide +kernel
theorem dX6_addLink_12 : decode cX6_addLink 12 = .ok (.getfield 22, 3) := by decide +kernel
theorem dX6_addLink_15 : decode cX6_addLink 15 = .ok (.aload_n 0, 1) := by decide +kernel
theorem dX6_addLink_16 : decode cX6_addLink 16 = .ok (.getfield 43, 3) := by decide +kernel
theorem dX6_addLink_19 : decode cX6_addLink 19 = .ok (.iload 4, 2) := by decide +kernel
theorem dX6_addLink_21 : decode cX6_addLink 21 = .ok (.iastore, 1) := by decide +kernel
theorem dX6_addLink_22 : decode cX6_addLink 22 = .ok (.aload_n 0, 1) := by decide +kernel
theorem dX6_addLink_23 : decode cX6_addLink 23 = .ok (.dup, 1) := by decide +kernel
theorem dX6_addLink_24 : decode cX6_addLink 24 = .ok (.getfield 43, 3) := by decide +kernel
theorem dX6_addLink_27 : decode cX6_addLink 27 = .ok (.iconst 1, 1) := by decide +kernel
theorem dX6_addLink_28 : decode cX6_addLink 28 = .ok (.iadd, 1) := by decide +kernel
theorem dX6_addLink_29 : decode cX6_addLink 29 = .ok (.putfield 43, 3) := by decide +kernel
theorem dX6_addLink_32 : decode cX6_addLink 32 = .ok (.return_, 1) := by decide +kernel
theorem dX6_addFeast_0 : decode cX6_addFeast 0 = .ok (.aload_n 0, 1) := by decide +kernel
theorem dX6_addFeast_1 : decode cX6_addFeast 1 = .ok (.getfield 34, 3) := by decide +kernel
theorem dX6_addFeast_4 : decode cX6_addFeast 4 = .ok (.aload_n 0, 1) := by decide +kernel
theorem dX6_addFeast_5 : decode cX6_addFeast 5 = .ok (.getfield 46, 3) := by decide +kernel
theorem dX6_addFeast_8 : decode cX6_addFeast 8 = .ok (.iload_n 1, 1) := by decide +kernel
theorem dX6_addFeast_9 : decode cX6_addFeast 9 = .ok (.iastore, 1) := by decide +kernel
theorem dX6_addFeast_10 : decode cX6_addFeast 10 = .ok (.aload_n 0, 1) := by decide +kernel
theorem dX6_addFeast_11 : decode cX6_addFeast 11 = .ok (.getfield 37, 3) := by decide +kernel
theorem dX6_addFeast_14 : decode cX6_addFeast 14 = .ok (.aload_n 0, 1) := by decide +kernel
theorem dX6_addFeast_15 : decode cX6_addFeast 15 = .ok (.getfield 46, 3) := by decide +kernel
theorem dX6_addFeast_18 : decode cX6_addFeast 18 = .ok (.iload_n 2, 1) := by decide +kernel
theorem dX6_addFeast_19 : decode cX6_addFeast 19 = .ok (.iastore, 1) := by decide +kernel
theorem dX6_addFeast_20 : decode cX6_addFeast 20 = .ok (.aload_n 0, 1) := by decide +kernel
theorem dX6_addFeast_21 : decode cX6_addFeast 21 = .ok (.dup, 1) := by decide +kernel
theorem dX6_addFeast_22 : decode cX6_addFeast 22 = .ok (.getfield 46, 3) := by decide +kernel
theorem dX6_addFeast_25 : decode cX6_addFeast 25 = .ok (.iconst 1, 1) := by decide +kernel
theorem dX6_addFeast_26 : decode cX6_addFeast 26 = .ok (.iadd, 1) := by decide +kernel
theorem dX6_addFeast_27 : decode cX6_addFeast 27 = .ok (.putfield 46, 3) := by decide +kernel
theorem dX6_addFeast_30 : decode cX6_addFeast 30 = .ok (.return_, 1) := by decide +kernel
theorem dX6_across_0 : decode cX6_across 0 = .ok (.aload_n 0, 1) := by decide +kernel
theorem dX6_across_1 : decode cX6_across 1 = .ok (.getfield 28, 3) := by decide +kernel
theorem dX6_across_4 : decode cX6_across 4 = .ok (.iload_n 1, 1) := by decide +kernel
theorem dX6_across_5 : decode cX6_across 5 = .ok (.iaload, 1) := by decide +kernel
theorem dX6_across_6 : decode cX6_across 6 = .ok (.iload_n 2, 1) := by decide +kernel
theorem dX6_across_7 : decode cX6_across 7 = .ok (.if_icmp .ne 10, 3) := by decide +kernel
theorem dX6_across_10 : decode cX6_across 10 = .ok (.aload_n 0, 1) := by decide +kernel
theorem dX6_across_11 : decode cX6_across 11 = .ok (.getfield 31, 3) := by decide +kernel
theorem dX6_across_14 : decode cX6_across 14 = .ok (.iload_n 1, 1) := by decide +kernel
theorem dX6_across_15 : decode cX6_across 15 = .ok (.iaload, 1) := by decide +kernel
theorem dX6_across_16 : decode cX6_across 16 = .ok (.ireturn, 1) := by decide +kernel
theorem dX6_across_17 : decode cX6_across 17 = .ok (.aload_n 0, 1) := by decide +kernel
theorem dX6_across_18 : decode cX6_across 18 = .ok (.getfield 31, 3) := by decide +kernel
theorem dX6_across_21 : decode cX6_across 21 = .ok (.iload_n 1, 1) := by decide +kernel
theorem dX6_across_22 : decode cX6_across 22 = .ok (.iaload, 1) := by decide +kernel
theorem dX6_across_23 : decode cX6_across 23 = .ok (.iload_n 2, 1) := by decide +kernel
theorem dX6_across_24 : decode cX6_across 24 = .ok (.if_icmp .ne 12, 3) := by decide +kernel
theorem dX6_across_27 : decode cX6_across 27 = .ok (.aload_n 0, 1) := by decide +kernel
theorem dX6_across_28 : decode cX6_across 28 = .ok (.getfield 28, 3) := by decide +kernel
theorem dX6_across_31 : decode cX6_across 31 = .ok (.iload_n 1, 1) := by decide +kernel
theorem dX6_across_32 : decode cX6_across 32 = .ok (.iaload, 1) := by decide +kernel
theorem dX6_across_33 : decode cX6_across 33 = .ok (.goto 4, 3) := by decide +kernel
theorem dX6_across_36 : decode cX6_across 36 = .ok (.iconst (-1), 1) := by decide +kernel
theorem dX6_across_37 : decode cX6_across 37 = .ok (.ireturn, 1) := by decide +kernel
theorem dX6_linksThatMesh_0 : decode cX6_linksThatMesh 0 = .ok (.iconst 0, 1) := by decide +kernel
theorem dX6_linksThatMesh_1 : decode cX6_linksThatMesh 1 = .ok (.istore_n 1, 1) := by decide +kernel
theorem dX6_linksThatMesh_2 : decode cX6_linksThatMesh 2 = .ok (.iconst 0, 1) := by decide +kernel
theorem dX6_linksThatMesh_3 : decode cX6_linksThatMesh 3 = .ok (.istore_n 2, 1) := by decide +kernel
theorem dX6_linksThatMesh_4 : decode cX6_linksThatMesh 4 = .ok (.iload_n 2, 1) := by decide +kernel
theorem dX6_linksThatMesh_5 : decode cX6_linksThatMesh 5 = .ok (.aload_n 0, 1) := by decide +kernel
theorem dX6_linksThatMesh_6 : decode cX6_linksThatMesh 6 = .ok (.getfield 43, 3) := by decide +kernel
theorem dX6_linksThatMesh_9 : decode cX6_linksThatMesh 9 = .ok (.if_icmp .ge 24, 3) := by decide +kernel
theorem dX6_linksThatMesh_12 : decode cX6_linksThatMesh 12 = .ok (.aload_n 0, 1) := by decide +kernel
theorem dX6_linksThatMesh_13 : decode cX6_linksThatMesh 13 = .ok (.getfield 25, 3) := by decide +kernel
theorem dX6_linksThatMesh_16 : decode cX6_linksThatMesh 16 = .ok (.iload_n 2, 1) := by decide +kernel
theorem dX6_linksThatMesh_17 : decode cX6_linksThatMesh 17 = .ok (.iaload, 1) := by decide +kernel
theorem dX6_linksThatMesh_18 : decode cX6_linksThatMesh 18 = .ok (.ifCond .ne 9, 3) := by decide +kernel
theorem dX6_linksThatMesh_21 : decode cX6_linksThatMesh 21 = .ok (.iload_n 1, 1) := by decide +kernel
theorem dX6_linksThatMesh_22 : decode cX6_linksThatMesh 22 = .ok (.iconst 1, 1) := by decide +kernel
theorem dX6_linksThatMesh_23 : decode cX6_linksThatMesh 23 = .ok (.iload_n 2, 1) := by decide +kernel
theorem dX6_linksThatMesh_24 : decode cX6_linksThatMesh 24 = .ok (.ishl, 1) := by decide +kernel
theorem dX6_linksThatMesh_25 : decode cX6_linksThatMesh 25 = .ok (.ior, 1) := by decide +kernel
theorem dX6_linksThatMesh_26 : decode cX6_linksThatMesh 26 = .ok (.istore_n 1, 1) := by decide +kernel
theorem dX6_linksThatMesh_27 : decode cX6_linksThatMesh 27 = .ok (.iinc 2 1, 3) := by decide +kernel
theorem dX6_linksThatMesh_30 : decode cX6_linksThatMesh 30 = .ok (.goto (-26), 3) := by decide +kernel
theorem dX6_linksThatMesh_33 : decode cX6_linksThatMesh 33 = .ok (.iload_n 1, 1) := by decide +kernel
theorem dX6_linksThatMesh_34 : decode cX6_linksThatMesh 34 = .ok (.ireturn, 1) := by decide +kernel
theorem dX7_init_0 : decode cX7_init 0 = .ok (.aload_n 0, 1) := by decide +kernel
theorem dX7_init_1 : decode cX7_init 1 = .ok (.invokespecial 1, 3) := by decide +kernel
theorem dX7_init_4 : decode cX7_init 4 = .ok (.aload_n 0, 1) := by decide +kernel
theorem dX7_init_5 : decode cX7_init 5 = .ok (.new 7, 3) := by decide +kernel
theorem dX7_init_8 : decode cX7_init 8 = .ok (.dup, 1) := by decide +kernel
theorem dX7_init_9 : decode cX7_init 9 = .ok (.invokespecial 9, 3) := by decide +kernel
theorem dX7_init_12 : decode cX7_init 12 = .ok (.putfield 10, 3) := by decide +kernel
theorem dX7_init_15 : decode cX7_init 15 = .ok (.aload_n 0, 1) := by decide +kernel
theorem dX7_init_16 : decode cX7_init 16 = .ok (.new 16, 3) := by decide +kernel
theorem dX7_init_19 : decode cX7_init 19 = .ok (.dup, 1) := by decide +kernel
theorem dX7_init_20 : decode cX7_init 20 = .ok (.invokespecial 18, 3) := by decide +kernel
theorem dX7_init_23 : decode cX7_init 23 = .ok (.putfield 19, 3) := by decide +kernel
theorem dX7_init_26 : decode cX7_init 26 = .ok (.aload_n 0, 1) := by decide +kernel
theorem dX7_init_27 : decode cX7_init 27 = .ok (.new 16, 3) := by decide +kernel
theorem dX7_init_30 : decode cX7_init 30 = .ok (.dup, 1) := by decide +kernel
theorem dX7_init_31 : decode cX7_init 31 = .ok (.invokespecial 18, 3) := by decide +kernel
theorem dX7_init_34 : decode cX7_init 34 = .ok (.putfield 23, 3) := by decide +kernel
theorem dX7_init_37 : decode cX7_init 37 = .ok (.aload_n 0, 1) := by decide +kernel
theorem dX7_init_38 : decode cX7_init 38 = .ok (.new 26, 3) := by decide +kernel
theorem dX7_init_41 : decode cX7_init 41 = .ok (.dup, 1) := by decide +kernel
theorem dX7_init_42 : decode cX7_init 42 = .ok (.invokespecial 28, 3) := by decide +kernel
theorem dX7_init_45 : decode cX7_init 45 = .ok (.putfield 29, 3) := by decide +kernel
theorem dX7_init_48 : decode cX7_init 48 = .ok (.aload_n 0, 1) := by decide +kernel
theorem dX7_init_49 : decode cX7_init 49 = .ok (.new 26, 3) := by decide +kernel
theorem dX7_init_52 : decode cX7_init 52 = .ok (.dup, 1) := by decide +kernel
theorem dX7_init_53 : decode cX7_init 53 = .ok (.invokespecial 28, 3) := by decide +kernel
theorem dX7_init_56 : decode cX7_init 56 = .ok (.putfield 33, 3) := by decide +kernel
theorem dX7_init_59 : decode cX7_init 59 = .ok (.aload_n 0, 1) := by decide +kernel
theorem dX7_init_60 : decode cX7_init 60 = .ok (.new 36, 3) := by decide +kernel
theorem dX7_init_63 : decode cX7_init 63 = .ok (.dup, 1) := by decide +kernel
theorem dX7_init_64 : decode cX7_init 64 = .ok (.invokespecial 38, 3) := by decide +kernel
theorem dX7_init_67 : decode cX7_init 67 = .ok (.putfield 39, 3) := by decide +kernel
theorem dX7_init_70 : decode cX7_init 70 = .ok (.aload_n 0, 1) := by decide +kernel
theorem dX7_init_71 : decode cX7_init 71 = .ok (.new 43, 3) := by decide +kernel
theorem dX7_init_74 : decode cX7_init 74 = .ok (.dup, 1) := by decide +kernel
theorem dX7_init_75 : decode cX7_init 75 = .ok (.invokespecial 45, 3) := by decide +kernel
theorem dX7_init_78 : decode cX7_init 78 = .ok (.putfield 46, 3) := by decide +kernel
theorem dX7_init_81 : decode cX7_init 81 = .ok (.aload_n 0, 1) := by decide +kernel
theorem dX7_init_82 : decode cX7_init 82 = .ok (.iconst 2, 1) := by decide +kernel
theorem dX7_init_83 : decode cX7_init 83 = .ok (.anewarray 50, 3) := by decide +kernel
theorem dX7_init_86 : decode cX7_init 86 = .ok (.putfield 52, 3) := by decide +kernel
theorem dX7_init_89 : decode cX7_init 89 = .ok (.aload_n 0, 1) := by decide +kernel
theorem dX7_init_90 : decode cX7_init 90 = .ok (.new 56, 3) := by decide +kernel
theorem dX7_init_93 : decode cX7_init 93 = .ok (.dup, 1) := by decide +kernel
theorem dX7_init_94 : decode cX7_init 94 = .ok (.bipush 12, 2) := by decide +kernel
theorem dX7_init_96 : decode cX7_init 96 = .ok (.invokespecial 58, 3) := by decide +kernel
theorem dX7_init_99 : decode cX7_init 99 = .ok (.putfield 61, 3) := by decide +kernel
theorem dX7_init_102 : decode cX7_init 102 = .ok (.aload_n 0, 1) := by decide +kernel
theorem dX7_init_103 : decode cX7_init 103 = .ok (.new 56, 3) := by decide +kernel
theorem dX7_init_106 : decode cX7_init 106 = .ok (.dup, 1) := by decide +kernel
theorem dX7_init_107 : decode cX7_init 107 = .ok (.bipush 15, 2) := by decide +kernel
theorem dX7_init_109 : decode cX7_init 109 = .ok (.invokespecial 58, 3) := by decide +kernel
theorem dX7_init_112 : decode cX7_init 112 = .ok (.putfield 65, 3) := by decide +kernel
theorem dX7_init_115 : decode cX7_init 115 = .ok (.aload_n 0, 1) := by decide +kernel
theorem dX7_init_116 : decode cX7_init 116 = .ok (.bipush 8, 2) := by decide +kernel
theorem dX7_init_118 : decode cX7_init 118 = .ok (.newarray .int, 2) := by decide +kernel
theorem dX7_init_120 : decode cX7_init 120 = .ok (.putfield 68, 3) := by decide +kernel
theorem dX7_init_123 : decode cX7_init 123 = .ok (.aload_n 0, 1) := by decide +kernel
theorem dX7_init_124 : decode cX7_init 124 = .ok (.bipush 30, 2) := by decide +kernel
theorem dX7_init_126 : decode cX7_init 126 = .ok (.newarray .int, 2) := by decide +kernel
theorem dX7_init_128 : decode cX7_init 128 = .ok (.putfield 72, 3) := by decide +kernel
theorem dX7_init_131 : decode cX7_init 131 = .ok (.iconst 0, 1) := by decide +kernel
theorem dX7_init_132 : decode cX7_init 132 = .ok (.istore_n 1, 1) := by decide +kernel
theorem dX7_init_133 : decode cX7_init 133 = .ok (.iload_n 1, 1) := by decide +kernel
theorem dX7_init_134 : decode cX7_init 134 = .ok (.iconst 2, 1) := by decide +kernel
theorem dX7_init_135 : decode cX7_init 135 = .ok (.if_icmp .ge 22, 3) := by decide +kernel
theorem dX7_init_138 : decode cX7_init 138 = .ok (.aload_n 0, 1) := by decide +kernel
theorem dX7_init_139 : decode cX7_init 139 = .ok (.getfield 52, 3) := by decide +kernel
theorem dX7_init_142 : decode cX7_init 142 = .ok (.iload_n 1, 1) := by decide +kernel
theorem dX7_init_143 : decode cX7_init 143 = .ok (.new 50, 3) := by decide +kernel
theorem dX7_init_146 : decode cX7_init 146 = .ok (.dup, 1) := by decide +kernel
theorem dX7_init_147 : decode cX7_init 147 = .ok (.invokespecial 75, 3) := by decide +kernel
theorem dX7_init_150 : decode cX7_init 150 = .ok (.aastore, 1) := by decide +kernel
theorem dX7_init_151 : decode cX7_init 151 = .ok (.iinc 1 1, 3) := by decide +kernel
theorem dX7_init_154 : decode cX7_init 154 = .ok (.goto (-21), 3) := by decide +kernel
theorem dX7_init_157 : decode cX7_init 157 = .ok (.return_, 1) := by decide +kernel
theorem dX7_feed_0 : decode cX7_feed 0 = .ok (.iload_n 1, 1) := by decide +kernel
theorem dX7_feed_1 : decode cX7_feed 1 = .ok (.ifCond .lt 10, 3) := by decide +kernel
theorem dX7_feed_4 : decode cX7_feed 4 = .ok (.iload_n 1, 1) := by decide +kernel
theorem dX7_feed_5 : decode cX7_feed 5 = .ok (.sipush 255, 3) := by decide +kernel
theorem dX7_feed_8 : decode cX7_feed 8 = .ok (.if_icmp .le 6, 3) := by decide +kernel
theorem dX7_feed_11 : decode cX7_feed 11 = .ok (.ldc 76, 2) := by decide +kernel
theorem dX7_feed_13 : decode cX7_feed 13 = .ok (.ireturn, 1) := by decide +kernel
theorem dX7_feed_14 : decode cX7_feed 14 = .ok (.aload_n 0, 1) := by decide +kernel
theorem dX7_feed_15 : decode cX7_feed 15 = .ok (.getfield 10, 3) := by decide +kernel
theorem dX7_feed_18 : decode cX7_feed 18 = .ok (.iload_n 1, 1) := by decide +kernel
theorem dX7_feed_19 : decode cX7_feed 19 = .ok (.i2c, 1) := by decide +kernel
theorem dX7_feed_20 : decode cX7_feed 20 = .ok (.invokevirtual 77, 3) := by decide +kernel
theorem dX7_feed_23 : decode cX7_feed 23 = .ok (.ireturn, 1) := by decide +kernel
theorem dX7_clock_0 : decode cX7_clock 0 = .ok (.aload_n 0, 1) := by decide +kernel
theorem dX7_clock_1 : decode cX7_clock 1 = .ok (.getfield 10, 3) := by decide +kernel
theorem dX7_clock_4 : decode cX7_clock 4 = .ok (.aload_n 0, 1) := by decide +kernel
theorem dX7_clock_5 : decode cX7_clock 5 = .ok (.getfield 23, 3) := by decide +kernel
theorem dX7_clock_8 : decode cX7_clock 8 = .ok (.invokevirtual 81, 3) := by decide +kernel
theorem dX7_clock_11 : decode cX7_clock 11 = .ok (.aload_n 0, 1) := by decide +kernel
theorem dX7_clock_12 : decode cX7_clock 12 = .ok (.getfield 10, 3) := by decide +kernel
theorem dX7_clock_15 : decode cX7_clock 15 = .ok (.getfield 85, 3) := by decide +kernel
theorem dX7_clock_18 : decode cX7_clock 18 = .ok (.ifCond .eq 14, 3) := by decide +kernel
theorem dX7_clock_21 : decode cX7_clock 21 = .ok (.bipush (-10), 2) := by decide +kernel
theorem dX7_clock_23 : decode cX7_clock 23 = .ok (.aload_n 0, 1) := by decide +kernel
theorem dX7_clock_24 : decode cX7_clock 24 = .ok (.getfield 10, 3) := by decide +kernel
theorem dX7_clock_27 : decode cX7_clock 27 = .ok (.getfield 85, 3) := by decide +kernel
theorem dX7_clock_30 : decode cX7_clock 30 = .ok (.isub, 1) := by decide +kernel
theorem dX7_clock_31 : decode cX7_clock 31 = .ok (.ireturn, 1) := by decide +kernel
theorem dX7_clock_32 : decode cX7_clock 32 = .ok (.aload_n 0, 1) := by decide +kernel
theorem dX7_clock_33 : decode cX7_clock 33 = .ok (.getfield 19, 3) := by decide +kernel
theorem dX7_clock_36 : decode cX7_clock 36 = .ok (.astore_n 1, 1) := by decide +kernel
theorem dX7_clock_37 : decode cX7_clock 37 = .ok (.aload_n 0, 1) := by decide +kernel
theorem dX7_clock_38 : decode cX7_clock 38 = .ok (.aload_n 0, 1) := by decide +kernel
theorem dX7_clock_39 : decode cX7_clock 39 = .ok (.getfield 23, 3) := by decide +kernel
theorem dX7_clock_42 : decode cX7_clock 42 = .ok (.putfield 19, 3) := by decide +kernel
theorem dX7_clock_45 : decode cX7_clock 45 = .ok (.aload_n 0, 1) := by decide +kernel
theorem dX7_clock_46 : decode cX7_clock 46 = .ok (.aload_n 1, 1) := by decide +kernel
theorem dX7_clock_47 : decode cX7_clock 47 = .ok (.putfield 23, 3) := by decide +kernel
theorem dX7_clock_50 : decode cX7_clock 50 = .ok (.aload_n 0, 1) := by decide +kernel
theorem dX7_clock_51 : decode cX7_clock 51 = .ok (.invokevirtual 89, 3) := by decide +kernel
theorem dX7_clock_54 : decode cX7_clock 54 = .ok (.aload_n 0, 1) := by decide +kernel
theorem dX7_clock_55 : decode cX7_clock 55 = .ok (.invokevirtual 92, 3) := by decide +kernel
theorem dX7_clock_58 : decode cX7_clock 58 = .ok (.aload_n 0, 1) := by decide +kernel
theorem dX7_clock_59 : decode cX7_clock 59 = .ok (.getfield 19, 3) := by decide +kernel
theorem dX7_clock_62 : decode cX7_clock 62 = .ok (.getfield 95, 3) := by decide +kernel
theorem dX7_clock_65 : decode cX7_clock 65 = .ok (.ireturn, 1) := by decide +kernel
theorem dX7_fault_0 : decode cX7_fault 0 = .ok (.aload_n 0, 1) := by decide +kernel
theorem dX7_fault_1 : decode cX7_fault 1 = .ok (.getfield 10, 3) := by decide +kernel
theorem dX7_fault_4 : decode cX7_fault 4 = .ok (.getfield 98, 3) := by decide +kernel
theorem dX7_fault_7 : decode cX7_fault 7 = .ok (.ireturn, 1) := by decide +kernel
theorem dX7_told_0 : decode cX7_told 0 = .ok (.iload_n 1, 1) := by decide +kernel
theorem dX7_told_1 : decode cX7_told 1 = .ok (.tableswitch 214 0 14 #[75, 83, 91, 99, 107, 115, 123, 145, 153, 169, 177, 185, 193, 201, 209], 75) := by decide +kernel
theorem dX7_told_76 : decode cX7_told 76 = .ok (.aload_n 0, 1) := by decide +kernel
theorem dX7_told_77 : decode cX7_told 77 = .ok (.getfield 19, 3) := by decide +kernel
theorem dX7_told_80 : decode cX7_told 80 = .ok (.getfield 95, 3) := by decide +kernel
theorem dX7_told_83 : decode cX7_told 83 = .ok (.ireturn, 1) := by decide +kernel
theorem dX7_told_84 : decode cX7_told 84 = .ok (.aload_n 0, 1) := by decide +kernel
theorem dX7_told_85 : decode cX7_told 85 = .ok (.getfield 19, 3) := by decide +kernel
theorem dX7_told_88 : decode cX7_told 88 = .ok (.getfield 101, 3) := by decide +kernel
theorem dX7_told_91 : decode cX7_told 91 = .ok (.ireturn, 1) := by decide +kernel
theorem dX7_told_92 : decode cX7_told 92 = .ok (.aload_n 0, 1) := by decide +kernel
theorem dX7_told_93 : decode cX7_told 93 = .ok (.getfield 19, 3) := by decide +kernel
theorem dX7_told_96 : decode cX7_told 96 = .ok (.getfield 104, 3) := by decide +kernel
theorem dX7_told_99 : decode cX7_told 99 = .ok (.ireturn, 1) := by decide +kernel
theorem dX7_told_100 : decode cX7_told 100 = .ok (.aload_n 0, 1) := by decide +kernel
theorem dX7_told_101 : decode cX7_told 101 = .ok (.getfield 10, 3) := by decide +kernel
theorem dX7_told_104 : decode cX7_told 104 = .ok (.getfield 107, 3) := by decide +kernel
theorem dX7_told_107 : decode cX7_told 107 = .ok (.ireturn, 1) := by decide +kernel
theorem dX7_told_108 : decode cX7_told 108 = .ok (.aload_n 0, 1) := by decide +kernel
theorem dX7_told_109 : decode cX7_told 109 = .ok (.getfield 39, 3) := by decide +kernel
theorem dX7_told_112 : decode cX7_told 112 = .ok (.getfield 110, 3) := by decide +kernel
theorem dX7_told_115 : decode cX7_told 115 = .ok (.ireturn, 1) := by decide +kernel
theorem dX7_told_116 : decode cX7_told 116 = .ok (.aload_n 0, 1) := by decide +kernel
theorem dX7_told_117 : decode cX7_told 117 = .ok (.getfield 39, 3) := by decide +kernel
theorem dX7_told_120 : decode cX7_told 120 = .ok (.getfield 113, 3) := by decide +kernel
theorem dX7_told_123 : decode cX7_told 123 = .ok (.ireturn, 1) := by decide +kernel
theorem dX7_told_124 : decode cX7_told 124 = .ok (.aload_n 0, 1) := by decide +kernel
theorem dX7_told_125 : decode cX7_told 125 = .ok (.getfield 19, 3) := by decide +kernel
theorem dX7_told_128 : decode cX7_told 128 = .ok (.getfield 95, 3) := by decide +kernel
theorem dX7_told_131 : decode cX7_told 131 = .ok (.ifCond .ne 7, 3) := by decide +kernel
theorem dX7_told_134 : decode cX7_told 134 = .ok (.iconst (-1), 1) := by decide +kernel
theorem dX7_told_135 : decode cX7_told 135 = .ok (.goto 10, 3) := by decide +kernel
theorem dX7_told_138 : decode cX7_told 138 = .ok (.aload_n 0, 1) := by decide +kernel
theorem dX7_told_139 : decode cX7_told 139 = .ok (.getfield 19, 3) := by decide +kernel
theorem dX7_told_142 : decode cX7_told 142 = .ok (.getfield 116, 3) := by decide +kernel
theorem dX7_told_145 : decode cX7_told 145 = .ok (.ireturn, 1) := by decide +kernel
theorem dX7_told_146 : decode cX7_told 146 = .ok (.aload_n 0, 1) := by decide +kernel
theorem dX7_told_147 : decode cX7_told 147 = .ok (.getfield 19, 3) := by decide +kernel
theorem dX7_told_150 : decode cX7_told 150 = .ok (.getfield 119, 3) := by decide +kernel
theorem dX7_told_153 : decode cX7_told 153 = .ok (.ireturn, 1) := by decide +kernel
theorem dX7_told_154 : decode cX7_told 154 = .ok (.aload_n 0, 1) := by decide +kernel
theorem dX7_told_155 : decode cX7_told 155 = .ok (.getfield 29, 3) := by decide +kernel
theorem dX7_told_158 : decode cX7_told 158 = .ok (.getfield 122, 3) := by decide +kernel
theorem dX7_told_161 : decode cX7_told 161 = .ok (.ifCond .eq 7, 3) := by decide +kernel
theorem dX7_told_164 : decode cX7_told 164 = .ok (.iconst 1, 1) := by decide +kernel
theorem dX7_told_165 : decode cX7_told 165 = .ok (.goto 4, 3) := by decide +kernel
theorem dX7_told_168 : decode cX7_told 168 = .ok (.iconst 0, 1) := by decide +kernel
theorem dX7_told_169 : decode cX7_told 169 = .ok (.ireturn, 1) := by decide +kernel
theorem dX7_told_170 : decode cX7_told 170 = .ok (.aload_n 0, 1) := by decide +kernel
theorem dX7_told_171 : decode cX7_told 171 = .ok (.getfield 39, 3) := by decide +kernel
theorem dX7_told_174 : decode cX7_told 174 = .ok (.getfield 126, 3) := by decide +kernel
theorem dX7_told_177 : decode cX7_told 177 = .ok (.ireturn, 1) := by decide +kernel
theorem dX7_told_178 : decode cX7_told 178 = .ok (.aload_n 0, 1) := by decide +kernel
theorem dX7_told_179 : decode cX7_told 179 = .ok (.getfield 29, 3) := by decide +kernel
theorem dX7_told_182 : decode cX7_told 182 = .ok (.getfield 129, 3) := by decide +kernel
theorem dX7_told_185 : decode cX7_told 185 = .ok (.ireturn, 1) := by decide +kernel
theorem dX7_told_186 : decode cX7_told 186 = .ok (.aload_n 0, 1) := by decide +kernel
theorem dX7_told_187 : decode cX7_told 187 = .ok (.getfield 61, 3) := by decide +kernel
theorem dX7_told_190 : decode cX7_told 190 = .ok (.getfield 132, 3) := by decide +kernel
theorem dX7_told_193 : decode cX7_told 193 = .ok (.ireturn, 1) := by decide +kernel
theorem dX7_told_194 : decode cX7_told 194 = .ok (.aload_n 0, 1) := by decide +kernel
theorem dX7_told_195 : decode cX7_told 195 = .ok (.getfield 65, 3) := by decide +kernel
theorem dX7_told_198 : decode cX7_told 198 = .ok (.getfield 132, 3) := by decide +kernel
theorem dX7_told_201 : decode cX7_told 201 = .ok (.ireturn, 1) := by decide +kernel
theorem dX7_told_202 : decode cX7_told 202 = .ok (.aload_n 0, 1) := by decide +kernel
theorem dX7_told_203 : decode cX7_told 203 = .ok (.getfield 46, 3) := by decide +kernel
theorem dX7_told_206 : decode cX7_told 206 = .ok (.getfield 135, 3) := by decide +kernel
theorem dX7_told_209 : decode cX7_told 209 = .ok (.ireturn, 1) := by decide +kernel
theorem dX7_told_210 : decode cX7_told 210 = .ok (.aload_n 0, 1) := by decide +kernel
theorem dX7_told_211 : decode cX7_told 211 = .ok (.invokevirtual 138, 3) := by decide +kernel
theorem dX7_told_214 : decode cX7_told 214 = .ok (.ireturn, 1) := by decide +kernel
theorem dX7_told_215 : decode cX7_told 215 = .ok (.ldc 76, 2) := by decide +kernel
theorem dX7_told_217 : decode cX7_told 217 = .ok (.ireturn, 1) := by decide +kernel
theorem dX7_wheel_0 : decode cX7_wheel 0 = .ok (.aload_n 0, 1) := by decide +kernel
theorem dX7_wheel_1 : decode cX7_wheel 1 = .ok (.iload_n 1, 1) := by decide +kernel
theorem dX7_wheel_2 : decode cX7_wheel 2 = .ok (.invokevirtual 142, 3) := by decide +kernel
theorem dX7_wheel_5 : decode cX7_wheel 5 = .ok (.ifCond .ne 6, 3) := by decide +kernel
theorem dX7_wheel_8 : decode cX7_wheel 8 = .ok (.ldc 146, 2) := by decide +kernel
theorem dX7_wheel_10 : decode cX7_wheel 10 = .ok (.ireturn, 1) := by decide +kernel
theorem dX7_wheel_11 : decode cX7_wheel 11 = .ok (.iload_n 2, 1) := by decide +kernel
theorem dX7_wheel_12 : decode cX7_wheel 12 = .ok (.tableswitch 71 0 3 #[32, 42, 49, 60], 32) := by decide +kernel
theorem dX7_wheel_44 : decode cX7_wheel 44 = .ok (.aload_n 0, 1) := by decide +kernel
theorem dX7_wheel_45 : decode cX7_wheel 45 = .ok (.getfield 19, 3) := by decide +kernel
theorem dX7_wheel_48 : decode cX7_wheel 48 = .ok (.getfield 147, 3) := by decide +kernel
theorem dX7_wheel_51 : decode cX7_wheel 51 = .ok (.iload_n 1, 1) := by decide +kernel
theorem dX7_wheel_52 : decode cX7_wheel 52 = .ok (.iaload, 1) := by decide +kernel
theorem dX7_wheel_53 : decode cX7_wheel 53 = .ok (.ireturn, 1) := by decide +kernel
theorem dX7_wheel_54 : decode cX7_wheel 54 = .ok (.aload_n 0, 1) := by decide +kernel
theorem dX7_wheel_55 : decode cX7_wheel 55 = .ok (.iload_n 1, 1) := by decide +kernel
theorem dX7_wheel_56 : decode cX7_wheel 56 = .ok (.iconst 0, 1) := by decide +kernel
theorem dX7_wheel_57 : decode cX7_wheel 57 = .ok (.invokevirtual 150, 3) := by decide +kernel
theorem dX7_wheel_60 : decode cX7_wheel 60 = .ok (.ireturn, 1) := by decide +kernel
theorem dX7_wheel_61 : decode cX7_wheel 61 = .ok (.aload_n 0, 1) := by decide +kernel
theorem dX7_wheel_62 : decode cX7_wheel 62 = .ok (.getfield 29, 3) := by decide +kernel
theorem dX7_wheel_65 : decode cX7_wheel 65 = .ok (.getfield 154, 3) := by decide +kernel
theorem dX7_wheel_68 : decode cX7_wheel 68 = .ok (.iload_n 1, 1) := by decide +kernel
theorem dX7_wheel_69 : decode cX7_wheel 69 = .ok (.laload, 1) := by decide +kernel
theorem dX7_wheel_70 : decode cX7_wheel 70 = .ok (.l2i, 1) := by decide +kernel
theorem dX7_wheel_71 : decode cX7_wheel 71 = .ok (.ireturn, 1) := by decide +kernel
theorem dX7_wheel_72 : decode cX7_wheel 72 = .ok (.aload_n 0, 1) := by decide +kernel
theorem dX7_wheel_73 : decode cX7_wheel 73 = .ok (.getfield 29, 3) := by decide +kernel
theorem dX7_wheel_76 : decode cX7_wheel 76 = .ok (.getfield 158, 3) := by decide +kernel
theorem dX7_wheel_79 : decode cX7_wheel 79 = .ok (.iload_n 1, 1) := by decide +kernel
theorem dX7_wheel_80 : decode cX7_wheel 80 = .ok (.laload, 1) := by decide +kernel
theorem dX7_wheel_81 : decode cX7_wheel 81 = .ok (.l2i, 1) := by decide +kernel
theorem dX7_wheel_82 : decode cX7_wheel 82 = .ok (.ireturn, 1) := by decide +kernel
theorem dX7_wheel_83 : decode cX7_wheel 83 = .ok (.ldc 76, 2) := by decide +kernel
theorem dX7_wheel_85 : decode cX7_wheel 85 = .ok (.ireturn, 1) := by decide +kernel
theorem dX7_link_0 : decode cX7_link 0 = .ok (.aload_n 0, 1) := by decide +kernel
theorem dX7_link_1 : decode cX7_link 1 = .ok (.iload_n 1, 1) := by decide +kernel
theorem dX7_link_2 : decode cX7_link 2 = .ok (.invokevirtual 161, 3) := by decide +kernel
theorem dX7_link_5 : decode cX7_link 5 = .ok (.ifCond .ne 6, 3) := by decide +kernel
theorem dX7_link_8 : decode cX7_link 8 = .ok (.ldc 146, 2) := by decide +kernel
theorem dX7_link_10 : decode cX7_link 10 = .ok (.ireturn, 1) := by decide +kernel
theorem dX7_link_11 : decode cX7_link 11 = .ok (.iload_n 2, 1) := by decide +kernel
theorem dX7_link_12 : decode cX7_link 12 = .ok (.tableswitch 90 0 4 #[36, 46, 56, 66, 76], 36) := by decide +kernel
theorem dX7_link_48 : decode cX7_link 48 = .ok (.aload_n 0, 1) := by decide +kernel
theorem dX7_link_49 : decode cX7_link 49 = .ok (.getfield 19, 3) := by decide +kernel
theorem dX7_link_52 : decode cX7_link 52 = .ok (.getfield 164, 3) := by decide +kernel
theorem dX7_link_55 : decode cX7_link 55 = .ok (.iload_n 1, 1) := by decide +kernel
theorem dX7_link_56 : decode cX7_link 56 = .ok (.iaload, 1) := by decide +kernel
theorem dX7_link_57 : decode cX7_link 57 = .ok (.ireturn, 1) := by decide +kernel
theorem dX7_link_58 : decode cX7_link 58 = .ok (.aload_n 0, 1) := by decide +kernel
theorem dX7_link_59 : decode cX7_link 59 = .ok (.getfield 19, 3) := by decide +kernel
theorem dX7_link_62 : decode cX7_link 62 = .ok (.getfield 167, 3) := by decide +kernel
theorem dX7_link_65 : decode cX7_link 65 = .ok (.iload_n 1, 1) := by decide +kernel
theorem dX7_link_66 : decode cX7_link 66 = .ok (.iaload, 1) := by decide +kernel
theorem dX7_link_67 : decode cX7_link 67 = .ok (.ireturn, 1) := by decide +kernel
theorem dX7_link_68 : decode cX7_link 68 = .ok (.aload_n 0, 1) := by decide +kernel
theorem dX7_link_69 : decode cX7_link 69 = .ok (.getfield 19, 3) := by decide +kernel
theorem dX7_link_72 : decode cX7_link 72 = .ok (.getfield 170, 3) := by decide +kernel
theorem dX7_link_75 : decode cX7_link 75 = .ok (.iload_n 1, 1) := by decide +kernel
theorem dX7_link_76 : decode cX7_link 76 = .ok (.iaload, 1) := by decide +kernel
theorem dX7_link_77 : decode cX7_link 77 = .ok (.ireturn, 1) := by decide +kernel
theorem dX7_link_78 : decode cX7_link 78 = .ok (.aload_n 0, 1) := by decide +kernel
theorem dX7_link_79 : decode cX7_link 79 = .ok (.getfield 19, 3) := by decide +kernel
theorem dX7_link_82 : decode cX7_link 82 = .ok (.getfield 173, 3) := by decide +kernel
theorem dX7_link_85 : decode cX7_link 85 = .ok (.iload_n 1, 1) := by decide +kernel
theorem dX7_link_86 : decode cX7_link 86 = .ok (.iaload, 1) := by decide +kernel
theorem dX7_link_87 : decode cX7_link 87 = .ok (.ireturn, 1) := by decide +kernel
theorem dX7_link_88 : decode cX7_link 88 = .ok (.aload_n 0, 1) := by decide +kernel
theorem dX7_link_89 : decode cX7_link 89 = .ok (.iload_n 1, 1) := by decide +kernel
theorem dX7_link_90 : decode cX7_link 90 = .ok (.invokevirtual 176, 3) := by decide +kernel
theorem dX7_link_93 : decode cX7_link 93 = .ok (.ifCond .eq 7, 3) := by decide +kernel
theorem dX7_link_96 : decode cX7_link 96 = .ok (.iconst 1, 1) := by decide +kernel
theorem dX7_link_97 : decode cX7_link 97 = .ok (.goto 4, 3) := by decide +kernel
theorem dX7_link_100 : decode cX7_link 100 = .ok (.iconst 0, 1) := by decide +kernel
theorem dX7_link_101 : decode cX7_link 101 = .ok (.ireturn, 1) := by decide +kernel
theorem dX7_link_102 : decode cX7_link 102 = .ok (.ldc 76, 2) := by decide +kernel
theorem dX7_link_104 : decode cX7_link 104 = .ok (.ireturn, 1) := by decide +kernel
theorem dX7_feast_0 : decode cX7_feast 0 = .ok (.aload_n 0, 1) := by decide +kernel
theorem dX7_feast_1 : decode cX7_feast 1 = .ok (.iload_n 1, 1) := by decide +kernel
theorem dX7_feast_2 : decode cX7_feast 2 = .ok (.invokevirtual 179, 3) := by decide +kernel
theorem dX7_feast_5 : decode cX7_feast 5 = .ok (.ifCond .ne 6, 3) := by decide +kernel
theorem dX7_feast_8 : decode cX7_feast 8 = .ok (.ldc 146, 2) := by decide +kernel
theorem dX7_feast_10 : decode cX7_feast 10 = .ok (.ireturn, 1) := by decide +kernel
theorem dX7_feast_11 : decode cX7_feast 11 = .ok (.iload_n 2, 1) := by decide +kernel
theorem dX7_feast_12 : decode cX7_feast 12 = .ok (.lookupswitch 48 #[(0, 28), (1, 38)], 28) := by decide +kernel
theorem dX7_feast_40 : decode cX7_feast 40 = .ok (.aload_n 0, 1) := by decide +kernel
theorem dX7_feast_41 : decode cX7_feast 41 = .ok (.getfield 19, 3) := by decide +kernel
theorem dX7_feast_44 : decode cX7_feast 44 = .ok (.getfield 182, 3) := by decide +kernel
theorem dX7_feast_47 : decode cX7_feast 47 = .ok (.iload_n 1, 1) := by decide +kernel
theorem dX7_feast_48 : decode cX7_feast 48 = .ok (.iaload, 1) := by decide +kernel
theorem dX7_feast_49 : decode cX7_feast 49 = .ok (.ireturn, 1) := by decide +kernel
theorem dX7_feast_50 : decode cX7_feast 50 = .ok (.aload_n 0, 1) := by decide +kernel
theorem dX7_feast_51 : decode cX7_feast 51 = .ok (.getfield 19, 3) := by decide +kernel
theorem dX7_feast_54 : decode cX7_feast 54 = .ok (.getfield 185, 3) := by decide +kernel
theorem dX7_feast_57 : decode cX7_feast 57 = .ok (.iload_n 1, 1) := by decide +kernel
theorem dX7_feast_58 : decode cX7_feast 58 = .ok (.iaload, 1) := by decide +kernel
theorem dX7_feast_59 : decode cX7_feast 59 = .ok (.ireturn, 1) := by decide +kernel
theorem dX7_feast_60 : decode cX7_feast 60 = .ok (.ldc 76, 2) := by decide +kernel
theorem dX7_feast_62 : decode cX7_feast 62 = .ok (.ireturn, 1) := by decide +kernel
theorem dX7_stands_0 : decode cX7_stands 0 = .ok (.aload_n 0, 1) := by decide +kernel
theorem dX7_stands_1 : decode cX7_stands 1 = .ok (.iload_n 1, 1) := by decide +kernel
theorem dX7_stands_2 : decode cX7_stands 2 = .ok (.invokevirtual 142, 3) := by decide +kernel
theorem dX7_stands_5 : decode cX7_stands 5 = .ok (.ifCond .ne 6, 3) := by decide +kernel
theorem dX7_stands_8 : decode cX7_stands 8 = .ok (.ldc 146, 2) := by decide +kernel
theorem dX7_stands_10 : decode cX7_stands 10 = .ok (.ireturn, 1) := by decide +kernel
theorem dX7_stands_11 : decode cX7_stands 11 = .ok (.iload_n 2, 1) := by decide +kernel
theorem dX7_stands_12 : decode cX7_stands 12 = .ok (.ifCond .lt 9, 3) := by decide +kernel
theorem dX7_stands_15 : decode cX7_stands 15 = .ok (.iload_n 2, 1) := by decide +kernel
theorem dX7_stands_16 : decode cX7_stands 16 = .ok (.ldc 188, 2) := by decide +kernel
theorem dX7_stands_18 : decode cX7_stands 18 = .ok (.if_icmp .le 6, 3) := by decide +kernel
theorem dX7_stands_21 : decode cX7_stands 21 = .ok (.ldc 76, 2) := by decide +kernel
theorem dX7_stands_23 : decode cX7_stands 23 = .ok (.ireturn, 1) := by decide +kernel
theorem dX7_stands_24 : decode cX7_stands 24 = .ok (.aload_n 0, 1) := by decide +kernel
theorem dX7_stands_25 : decode cX7_stands 25 = .ok (.iload_n 1, 1) := by decide +kernel
theorem dX7_stands_26 : decode cX7_stands 26 = .ok (.iload_n 2, 1) := by decide +kernel
theorem dX7_stands_27 : decode cX7_stands 27 = .ok (.invokevirtual 150, 3) := by decide +kernel
theorem dX7_stands_30 : decode cX7_stands 30 = .ok (.ireturn, 1) := by decide +kernel
theorem dX7_days_0 : decode cX7_days 0 = .ok (.iload_n 1, 1) := by decide +kernel
theorem dX7_days_1 : decode cX7_days 1 = .ok (.iconst 1, 1) := by decide +kernel
theorem dX7_days_2 : decode cX7_days 2 = .ok (.if_icmp .lt 10, 3) := by decide +kernel
theorem dX7_days_5 : decode cX7_days 5 = .ok (.iload_n 1, 1) := by decide +kernel
theorem dX7_days_6 : decode cX7_days 6 = .ok (.sipush 9999, 3) := by decide +kernel
theorem dX7_days_9 : decode cX7_days 9 = .ok (.if_icmp .le 6, 3) := by decide +kernel
theorem dX7_days_12 : decode cX7_days 12 = .ok (.ldc 76, 2) := by decide +kernel
theorem dX7_days_14 : decode cX7_days 14 = .ok (.ireturn, 1) := by decide +kernel
theorem dX7_days_15 : decode cX7_days 15 = .ok (.aload_n 0, 1) := by decide +kernel
theorem dX7_days_16 : decode cX7_days 16 = .ok (.getfield 29, 3) := by decide +kernel
theorem dX7_days_19 : decode cX7_days 19 = .ok (.getfield 122, 3) := by decide +kernel
theorem dX7_days_22 : decode cX7_days 22 = .ok (.ifCond .eq 6, 3) := by decide +kernel
theorem dX7_days_25 : decode cX7_days 25 = .ok (.ldc 189, 2) := by decide +kernel
theorem dX7_days_27 : decode cX7_days 27 = .ok (.ireturn, 1) := by decide +kernel
theorem dX7_days_28 : decode cX7_days 28 = .ok (.aload_n 0, 1) := by decide +kernel
theorem dX7_days_29 : decode cX7_days 29 = .ok (.getfield 39, 3) := by decide +kernel
theorem dX7_days_32 : decode cX7_days 32 = .ok (.getfield 110, 3) := by decide +kernel
theorem dX7_days_35 : decode cX7_days 35 = .ok (.ldc 190, 2) := by decide +kernel
theorem dX7_days_37 : decode cX7_days 37 = .ok (.if_icmp .le 6, 3) := by decide +kernel
theorem dX7_days_40 : decode cX7_days 40 = .ok (.ldc 191, 2) := by decide +kernel
theorem dX7_days_42 : decode cX7_days 42 = .ok (.ireturn, 1) := by decide +kernel
theorem dX7_days_43 : decode cX7_days 43 = .ok (.aload_n 0, 1) := by decide +kernel
theorem dX7_days_44 : decode cX7_days 44 = .ok (.getfield 46, 3) := by decide +kernel
theorem dX7_days_47 : decode cX7_days 47 = .ok (.aload_n 0, 1) := by decide +kernel
theorem dX7_days_48 : decode cX7_days 48 = .ok (.getfield 39, 3) := by decide +kernel
theorem dX7_days_51 : decode cX7_days 51 = .ok (.invokevirtual 192, 3) := by decide +kernel
theorem dX7_days_54 : decode cX7_days 54 = .ok (.aload_n 0, 1) := by decide +kernel
theorem dX7_days_55 : decode cX7_days 55 = .ok (.getfield 39, 3) := by decide +kernel
theorem dX7_days_58 : decode cX7_days 58 = .ok (.dup, 1) := by decide +kernel
theorem dX7_days_59 : decode cX7_days 59 = .ok (.getfield 110, 3) := by decide +kernel
theorem dX7_days_62 : decode cX7_days 62 = .ok (.iload_n 1, 1) := by decide +kernel
theorem dX7_days_63 : decode cX7_days 63 = .ok (.iadd, 1) := by decide +kernel
theorem dX7_days_64 : decode cX7_days 64 = .ok (.putfield 110, 3) := by decide +kernel
theorem dX7_days_67 : decode cX7_days 67 = .ok (.aload_n 0, 1) := by decide +kernel
theorem dX7_days_68 : decode cX7_days 68 = .ok (.getfield 39, 3) := by decide +kernel
theorem dX7_days_71 : decode cX7_days 71 = .ok (.getfield 110, 3) := by decide +kernel
theorem dX7_days_74 : decode cX7_days 74 = .ok (.ireturn, 1) := by decide +kernel
theorem dX7_cut_0 : decode cX7_cut 0 = .ok (.aload_n 0, 1) := by decide +kernel
theorem dX7_cut_1 : decode cX7_cut 1 = .ok (.iload_n 1, 1) := by decide +kernel
theorem dX7_cut_2 : decode cX7_cut 2 = .ok (.invokevirtual 161, 3) := by decide +kernel
theorem dX7_cut_5 : decode cX7_cut 5 = .ok (.ifCond .ne 6, 3) := by decide +kernel
theorem dX7_cut_8 : decode cX7_cut 8 = .ok (.ldc 146, 2) := by decide +kernel
theorem dX7_cut_10 : decode cX7_cut 10 = .ok (.ireturn, 1) := by decide +kernel
theorem dX7_cut_11 : decode cX7_cut 11 = .ok (.aload_n 0, 1) := by decide +kernel
theorem dX7_cut_12 : decode cX7_cut 12 = .ok (.iload_n 1, 1) := by decide +kernel
theorem dX7_cut_13 : decode cX7_cut 13 = .ok (.invokevirtual 176, 3) := by decide +kernel
theorem dX7_cut_16 : decode cX7_cut 16 = .ok (.istore_n 3, 1) := by decide +kernel
theorem dX7_cut_17 : decode cX7_cut 17 = .ok (.iload_n 3, 1) := by decide +kernel
theorem dX7_cut_18 : decode cX7_cut 18 = .ok (.iload_n 2, 1) := by decide +kernel
theorem dX7_cut_19 : decode cX7_cut 19 = .ok (.if_icmp .ne 37, 3) := by decide +kernel
theorem dX7_cut_22 : decode cX7_cut 22 = .ok (.aload_n 0, 1) := by decide +kernel
theorem dX7_cut_23 : decode cX7_cut 23 = .ok (.getfield 46, 3) := by decide +kernel
theorem dX7_cut_26 : decode cX7_cut 26 = .ok (.aload_n 0, 1) := by decide +kernel
theorem dX7_cut_27 : decode cX7_cut 27 = .ok (.getfield 39, 3) := by decide +kernel
theorem dX7_cut_30 : decode cX7_cut 30 = .ok (.invokevirtual 192, 3) := by decide +kernel
theorem dX7_cut_33 : decode cX7_cut 33 = .ok (.aload_n 0, 1) := by decide +kernel
theorem dX7_cut_34 : decode cX7_cut 34 = .ok (.invokevirtual 196, 3) := by decide +kernel
theorem dX7_cut_37 : decode cX7_cut 37 = .ok (.aload_n 0, 1) := by decide +kernel
theorem dX7_cut_38 : decode cX7_cut 38 = .ok (.getfield 39, 3) := by decide +kernel
theorem dX7_cut_41 : decode cX7_cut 41 = .ok (.dup, 1) := by decide +kernel
theorem dX7_cut_42 : decode cX7_cut 42 = .ok (.getfield 126, 3) := by decide +kernel
theorem dX7_cut_45 : decode cX7_cut 45 = .ok (.iconst 1, 1) := by decide +kernel
theorem dX7_cut_46 : decode cX7_cut 46 = .ok (.iload_n 1, 1) := by decide +kernel
theorem dX7_cut_47 : decode cX7_cut 47 = .ok (.ishl, 1) := by decide +kernel
theorem dX7_cut_48 : decode cX7_cut 48 = .ok (.ixor, 1) := by decide +kernel
theorem dX7_cut_49 : decode cX7_cut 49 = .ok (.putfield 126, 3) := by decide +kernel
theorem dX7_cut_52 : decode cX7_cut 52 = .ok (.aload_n 0, 1) := by decide +kernel
theorem dX7_cut_53 : decode cX7_cut 53 = .ok (.invokevirtual 92, 3) := by decide +kernel
theorem dX7_cut_56 : decode cX7_cut 56 = .ok (.iload_n 3, 1) := by decide +kernel
theorem dX7_cut_57 : decode cX7_cut 57 = .ok (.ifCond .eq 7, 3) := by decide +kernel
theorem dX7_cut_60 : decode cX7_cut 60 = .ok (.iconst 1, 1) := by decide +kernel
theorem dX7_cut_61 : decode cX7_cut 61 = .ok (.goto 4, 3) := by decide +kernel
theorem dX7_cut_64 : decode cX7_cut 64 = .ok (.iconst 0, 1) := by decide +kernel
theorem dX7_cut_65 : decode cX7_cut 65 = .ok (.ireturn, 1) := by decide +kernel
theorem dX7_slip_0 : decode cX7_slip 0 = .ok (.aload_n 0, 1) := by decide +kernel
theorem dX7_slip_1 : decode cX7_slip 1 = .ok (.iload_n 1, 1) := by decide +kernel
theorem dX7_slip_2 : decode cX7_slip 2 = .ok (.invokevirtual 142, 3) := by decide +kernel
theorem dX7_slip_5 : decode cX7_slip 5 = .ok (.ifCond .ne 6, 3) := by decide +kernel
theorem dX7_slip_8 : decode cX7_slip 8 = .ok (.ldc 146, 2) := by decide +kernel
theorem dX7_slip_10 : decode cX7_slip 10 = .ok (.ireturn, 1) := by decide +kernel
theorem dX7_slip_11 : decode cX7_slip 11 = .ok (.iload_n 2, 1) := by decide +kernel
theorem dX7_slip_12 : decode cX7_slip 12 = .ok (.bipush (-99), 2) := by decide +kernel
theorem dX7_slip_14 : decode cX7_slip 14 = .ok (.if_icmp .lt 9, 3) := by decide +kernel
theorem dX7_slip_17 : decode cX7_slip 17 = .ok (.iload_n 2, 1) := by decide +kernel
theorem dX7_slip_18 : decode cX7_slip 18 = .ok (.bipush 99, 2) := by decide +kernel
theorem dX7_slip_20 : decode cX7_slip 20 = .ok (.if_icmp .le 6, 3) := by decide +kernel
theorem dX7_slip_23 : decode cX7_slip 23 = .ok (.ldc 76, 2) := by decide +kernel
theorem dX7_slip_25 : decode cX7_slip 25 = .ok (.ireturn, 1) := by decide +kernel
theorem dX7_slip_26 : decode cX7_slip 26 = .ok (.aload_n 0, 1) := by decide +kernel
theorem dX7_slip_27 : decode cX7_slip 27 = .ok (.getfield 46, 3) := by decide +kernel
theorem dX7_slip_30 : decode cX7_slip 30 = .ok (.aload_n 0, 1) := by decide +kernel
theorem dX7_slip_31 : decode cX7_slip 31 = .ok (.getfield 39, 3) := by decide +kernel
theorem dX7_slip_34 : decode cX7_slip 34 = .ok (.invokevirtual 192, 3) := by decide +kernel
theorem dX7_slip_37 : decode cX7_slip 37 = .ok (.aload_n 0, 1) := by decide +kernel
theorem dX7_slip_38 : decode cX7_slip 38 = .ok (.iload_n 1, 1) := by decide +kernel
theorem dX7_slip_39 : decode cX7_slip 39 = .ok (.iload_n 2, 1) := by decide +kernel
theorem dX7_slip_40 : decode cX7_slip 40 = .ok (.invokevirtual 199, 3) := by decide +kernel
theorem dX7_slip_43 : decode cX7_slip 43 = .ok (.aload_n 0, 1) := by decide +kernel
theorem dX7_slip_44 : decode cX7_slip 44 = .ok (.getfield 39, 3) := by decide +kernel
theorem dX7_slip_47 : decode cX7_slip 47 = .ok (.getfield 203, 3) := by decide +kernel
theorem dX7_slip_50 : decode cX7_slip 50 = .ok (.iload_n 1, 1) := by decide +kernel
theorem dX7_slip_51 : decode cX7_slip 51 = .ok (.iaload, 1) := by decide +kernel
theorem dX7_slip_52 : decode cX7_slip 52 = .ok (.ireturn, 1) := by decide +kernel
theorem dX7_drift_0 : decode cX7_drift 0 = .ok (.iload_n 1, 1) := by decide +kernel
theorem dX7_drift_1 : decode cX7_drift 1 = .ok (.iconst 1, 1) := by decide +kernel
theorem dX7_drift_2 : decode cX7_drift 2 = .ok (.if_icmp .lt 9, 3) := by decide +kernel
theorem dX7_drift_5 : decode cX7_drift 5 = .ok (.iload_n 1, 1) := by decide +kernel
theorem dX7_drift_6 : decode cX7_drift 6 = .ok (.bipush 99, 2) := by decide +kernel
theorem dX7_drift_8 : decode cX7_drift 8 = .ok (.if_icmp .le 6, 3) := by decide +kernel
theorem dX7_drift_11 : decode cX7_drift 11 = .ok (.ldc 76, 2) := by decide +kernel
theorem dX7_drift_13 : decode cX7_drift 13 = .ok (.ireturn, 1) := by decide +kernel
theorem dX7_drift_14 : decode cX7_drift 14 = .ok (.aload_n 0, 1) := by decide +kernel
theorem dX7_drift_15 : decode cX7_drift 15 = .ok (.getfield 29, 3) := by decide +kernel
theorem dX7_drift_18 : decode cX7_drift 18 = .ok (.getfield 122, 3) := by decide +kernel
theorem dX7_drift_21 : decode cX7_drift 21 = .ok (.ifCond .ne 13, 3) := by decide +kernel
theorem dX7_drift_24 : decode cX7_drift 24 = .ok (.aload_n 0, 1) := by decide +kernel
theorem dX7_drift_25 : decode cX7_drift 25 = .ok (.getfield 19, 3) := by decide +kernel
theorem dX7_drift_28 : decode cX7_drift 28 = .ok (.getfield 95, 3) := by decide +kernel
theorem dX7_drift_31 : decode cX7_drift 31 = .ok (.ifCond .ne 6, 3) := by decide +kernel
theorem dX7_drift_34 : decode cX7_drift 34 = .ok (.ldc 189, 2) := by decide +kernel
theorem dX7_drift_36 : decode cX7_drift 36 = .ok (.ireturn, 1) := by decide +kernel
theorem dX7_drift_37 : decode cX7_drift 37 = .ok (.aload_n 0, 1) := by decide +kernel
theorem dX7_drift_38 : decode cX7_drift 38 = .ok (.getfield 39, 3) := by decide +kernel
theorem dX7_drift_41 : decode cX7_drift 41 = .ok (.getfield 110, 3) := by decide +kernel
theorem dX7_drift_44 : decode cX7_drift 44 = .ok (.ldc 190, 2) := by decide +kernel
theorem dX7_drift_46 : decode cX7_drift 46 = .ok (.if_icmp .le 6, 3) := by decide +kernel
theorem dX7_drift_49 : decode cX7_drift 49 = .ok (.ldc 191, 2) := by decide +kernel
theorem dX7_drift_51 : decode cX7_drift 51 = .ok (.ireturn, 1) := by decide +kernel
theorem dX7_drift_52 : decode cX7_drift 52 = .ok (.aload_n 0, 1) := by decide +kernel
theorem dX7_drift_53 : decode cX7_drift 53 = .ok (.getfield 46, 3) := by decide +kernel
theorem dX7_drift_56 : decode cX7_drift 56 = .ok (.aload_n 0, 1) := by decide +kernel
theorem dX7_drift_57 : decode cX7_drift 57 = .ok (.getfield 39, 3) := by decide +kernel
theorem dX7_drift_60 : decode cX7_drift 60 = .ok (.invokevirtual 192, 3) := by decide +kernel
theorem dX7_drift_63 : decode cX7_drift 63 = .ok (.iconst 0, 1) := by decide +kernel
theorem dX7_drift_64 : decode cX7_drift 64 = .ok (.istore_n 2, 1) := by decide +kernel
theorem dX7_drift_65 : decode cX7_drift 65 = .ok (.iload_n 2, 1) := by decide +kernel
theorem dX7_drift_66 : decode cX7_drift 66 = .ok (.iload_n 1, 1) := by decide +kernel
theorem dX7_drift_67 : decode cX7_drift 67 = .ok (.if_icmp .ge 47, 3) := by decide +kernel
theorem dX7_drift_70 : decode cX7_drift 70 = .ok (.aload_n 0, 1) := by decide +kernel
theorem dX7_drift_71 : decode cX7_drift 71 = .ok (.bipush 8, 2) := by decide +kernel
theorem dX7_drift_73 : decode cX7_drift 73 = .ok (.invokevirtual 206, 3) := by decide +kernel
theorem dX7_drift_76 : decode cX7_drift 76 = .ok (.ifCond .ne 19, 3) := by decide +kernel
theorem dX7_drift_79 : decode cX7_drift 79 = .ok (.aload_n 0, 1) := by decide +kernel
theorem dX7_drift_80 : decode cX7_drift 80 = .ok (.aload_n 0, 1) := by decide +kernel
theorem dX7_drift_81 : decode cX7_drift 81 = .ok (.aload_n 0, 1) := by decide +kernel
theorem dX7_drift_82 : decode cX7_drift 82 = .ok (.getfield 19, 3) := by decide +kernel
theorem dX7_drift_85 : decode cX7_drift 85 = .ok (.getfield 95, 3) := by decide +kernel
theorem dX7_drift_88 : decode cX7_drift 88 = .ok (.invokevirtual 206, 3) := by decide +kernel
theorem dX7_drift_91 : decode cX7_drift 91 = .ok (.iconst 1, 1) := by decide +kernel
theorem dX7_drift_92 : decode cX7_drift 92 = .ok (.invokevirtual 199, 3) := by decide +kernel
theorem dX7_drift_95 : decode cX7_drift 95 = .ok (.aload_n 0, 1) := by decide +kernel
theorem dX7_drift_96 : decode cX7_drift 96 = .ok (.getfield 39, 3) := by decide +kernel
theorem dX7_drift_99 : decode cX7_drift 99 = .ok (.dup, 1) := by decide +kernel
theorem dX7_drift_100 : decode cX7_drift 100 = .ok (.getfield 110, 3) := by decide +kernel
theorem dX7_drift_103 : decode cX7_drift 103 = .ok (.iconst 1, 1) := by decide +kernel
theorem dX7_drift_104 : decode cX7_drift 104 = .ok (.iadd, 1) := by decide +kernel
theorem dX7_drift_105 : decode cX7_drift 105 = .ok (.putfield 110, 3) := by decide +kernel
theorem dX7_drift_108 : decode cX7_drift 108 = .ok (.iinc 2 1, 3) := by decide +kernel
theorem dX7_drift_111 : decode cX7_drift 111 = .ok (.goto (-46), 3) := by decide +kernel
theorem dX7_drift_114 : decode cX7_drift 114 = .ok (.aload_n 0, 1) := by decide +kernel
theorem dX7_drift_115 : decode cX7_drift 115 = .ok (.getfield 39, 3) := by decide +kernel
theorem dX7_drift_118 : decode cX7_drift 118 = .ok (.getfield 110, 3) := by decide +kernel
theorem dX7_drift_121 : decode cX7_drift 121 = .ok (.ireturn, 1) := by decide +kernel
theorem dX7_undo_0 : decode cX7_undo 0 = .ok (.iload_n 1, 1) := by decide +kernel
theorem dX7_undo_1 : decode cX7_undo 1 = .ok (.iconst 1, 1) := by decide +kernel
theorem dX7_undo_2 : decode cX7_undo 2 = .ok (.if_icmp .lt 9, 3) := by decide +kernel
theorem dX7_undo_5 : decode cX7_undo 5 = .ok (.iload_n 1, 1) := by decide +kernel
theorem dX7_undo_6 : decode cX7_undo 6 = .ok (.bipush 30, 2) := by decide +kernel
theorem dX7_undo_8 : decode cX7_undo 8 = .ok (.if_icmp .le 6, 3) := by decide +kernel
theorem dX7_undo_11 : decode cX7_undo 11 = .ok (.ldc 76, 2) := by decide +kernel
theorem dX7_undo_13 : decode cX7_undo 13 = .ok (.ireturn, 1) := by decide +kernel
theorem dX7_undo_14 : decode cX7_undo 14 = .ok (.iload_n 1, 1) := by decide +kernel
theorem dX7_undo_15 : decode cX7_undo 15 = .ok (.aload_n 0, 1) := by decide +kernel
theorem dX7_undo_16 : decode cX7_undo 16 = .ok (.getfield 46, 3) := by decide +kernel
theorem dX7_undo_19 : decode cX7_undo 19 = .ok (.getfield 135, 3) := by decide +kernel
theorem dX7_undo_22 : decode cX7_undo 22 = .ok (.if_icmp .le 6, 3) := by decide +kernel
theorem dX7_undo_25 : decode cX7_undo 25 = .ok (.ldc 189, 2) := by decide +kernel
theorem dX7_undo_27 : decode cX7_undo 27 = .ok (.ireturn, 1) := by decide +kernel
theorem dX7_undo_28 : decode cX7_undo 28 = .ok (.aload_n 0, 1) := by decide +kernel
theorem dX7_undo_29 : decode cX7_undo 29 = .ok (.getfield 46, 3) := by decide +kernel
theorem dX7_undo_32 : decode cX7_undo 32 = .ok (.iload_n 1, 1) := by decide +kernel
theorem dX7_undo_33 : decode cX7_undo 33 = .ok (.aload_n 0, 1) := by decide +kernel
theorem dX7_undo_34 : decode cX7_undo 34 = .ok (.getfield 39, 3) := by decide +kernel
theorem dX7_undo_37 : decode cX7_undo 37 = .ok (.invokevirtual 210, 3) := by decide +kernel
theorem dX7_undo_40 : decode cX7_undo 40 = .ok (.aload_n 0, 1) := by decide +kernel
theorem dX7_undo_41 : decode cX7_undo 41 = .ok (.invokevirtual 92, 3) := by decide +kernel
theorem dX7_undo_44 : decode cX7_undo 44 = .ok (.aload_n 0, 1) := by decide +kernel
theorem dX7_undo_45 : decode cX7_undo 45 = .ok (.getfield 39, 3) := by decide +kernel
theorem dX7_undo_48 : decode cX7_undo 48 = .ok (.getfield 110, 3) := by decide +kernel
theorem dX7_undo_51 : decode cX7_undo 51 = .ok (.ireturn, 1) := by decide +kernel
theorem dX7_next_0 : decode cX7_next 0 = .ok (.aload_n 0, 1) := by decide +kernel
theorem dX7_next_1 : decode cX7_next 1 = .ok (.iload_n 1, 1) := by decide +kernel
theorem dX7_next_2 : decode cX7_next 2 = .ok (.invokevirtual 179, 3) := by decide +kernel
theorem dX7_next_5 : decode cX7_next 5 = .ok (.ifCond .ne 6, 3) := by decide +kernel
theorem dX7_next_8 : decode cX7_next 8 = .ok (.ldc 146, 2) := by decide +kernel
theorem dX7_next_10 : decode cX7_next 10 = .ok (.ireturn, 1) := by decide +kernel
theorem dX7_next_11 : decode cX7_next 11 = .ok (.aload_n 0, 1) := by decide +kernel
theorem dX7_next_12 : decode cX7_next 12 = .ok (.iconst 1, 1) := by decide +kernel
theorem dX7_next_13 : decode cX7_next 13 = .ok (.iload_n 1, 1) := by decide +kernel
theorem dX7_next_14 : decode cX7_next 14 = .ok (.ishl, 1) := by decide +kernel
theorem dX7_next_15 : decode cX7_next 15 = .ok (.sipush 9999, 3) := by decide +kernel
theorem dX7_next_18 : decode cX7_next 18 = .ok (.invokevirtual 214, 3) := by decide +kernel
theorem dX7_next_21 : decode cX7_next 21 = .ok (.ireturn, 1) := by decide +kernel
theorem dX7_together_0 : decode cX7_together 0 = .ok (.iload_n 1, 1) := by decide +kernel
theorem dX7_together_1 : decode cX7_together 1 = .ok (.aload_n 0, 1) := by decide +kernel
theorem dX7_together_2 : decode cX7_together 2 = .ok (.getfield 19, 3) := by decide +kernel
theorem dX7_together_5 : decode cX7_together 5 = .ok (.getfield 104, 3) := by decide +kernel
theorem dX7_together_8 : decode cX7_together 8 = .ok (.invokestatic 217, 3) := by decide +kernel
theorem dX7_together_11 : decode cX7_together 11 = .ok (.ifCond .eq 6, 3) := by decide +kernel
theorem dX7_together_14 : decode cX7_together 14 = .ok (.ldc 146, 2) := by decide +kernel
theorem dX7_together_16 : decode cX7_together 16 = .ok (.ireturn, 1) := by decide +kernel
theorem dX7_together_17 : decode cX7_together 17 = .ok (.aload_n 0, 1) := by decide +kernel
theorem dX7_together_18 : decode cX7_together 18 = .ok (.iload_n 1, 1) := by decide +kernel
theorem dX7_together_19 : decode cX7_together 19 = .ok (.ldc 188, 2) := by decide +kernel
theorem dX7_together_21 : decode cX7_together 21 = .ok (.invokevirtual 214, 3) := by decide +kernel
theorem dX7_together_24 : decode cX7_together 24 = .ok (.ireturn, 1) := by decide +kernel
theorem dX7_again_0 : decode cX7_again 0 = .ok (.aload_n 0, 1) := by decide +kernel
theorem dX7_again_1 : decode cX7_again 1 = .ok (.aload_n 0, 1) := by decide +kernel
theorem dX7_again_2 : decode cX7_again 2 = .ok (.getfield 29, 3) := by decide +kernel
theorem dX7_again_5 : decode cX7_again 5 = .ok (.getfield 129, 3) := by decide +kernel
theorem dX7_again_8 : decode cX7_again 8 = .ok (.invokevirtual 221, 3) := by decide +kernel
theorem dX7_again_11 : decode cX7_again 11 = .ok (.lstore_n 1, 1) := by decide +kernel
theorem dX7_again_12 : decode cX7_again 12 = .ok (.lload_n 1, 1) := by decide +kernel
theorem dX7_again_13 : decode cX7_again 13 = .ok (.lconst 1, 1) := by decide +kernel
theorem dX7_again_14 : decode cX7_again 14 = .ok (.lcmp, 1) := by decide +kernel
theorem dX7_again_15 : decode cX7_again 15 = .ok (.ifCond .lt 11, 3) := by decide +kernel
theorem dX7_again_18 : decode cX7_again 18 = .ok (.lload_n 1, 1) := by decide +kernel
theorem dX7_again_19 : decode cX7_again 19 = .ok (.ldc2_w 225, 3) := by decide +kernel
theorem dX7_again_22 : decode cX7_again 22 = .ok (.lcmp, 1) := by decide +kernel
theorem dX7_again_23 : decode cX7_again 23 = .ok (.ifCond .le 7, 3) := by decide +kernel
theorem dX7_again_26 : decode cX7_again 26 = .ok (.iconst (-1), 1) := by decide +kernel
theorem dX7_again_27 : decode cX7_again 27 = .ok (.goto 5, 3) := by decide +kernel
theorem dX7_again_30 : decode cX7_again 30 = .ok (.lload_n 1, 1) := by decide +kernel
theorem dX7_again_31 : decode cX7_again 31 = .ok (.l2i, 1) := by decide +kernel
theorem dX7_again_32 : decode cX7_again 32 = .ok (.ireturn, 1) := by decide +kernel
theorem dX7_added_0 : decode cX7_added 0 = .ok (.aload_n 0, 1) := by decide +kernel
theorem dX7_added_1 : decode cX7_added 1 = .ok (.iload_n 1, 1) := by decide +kernel
theorem dX7_added_2 : decode cX7_added 2 = .ok (.invokevirtual 142, 3) := by decide +kernel
theorem dX7_added_5 : decode cX7_added 5 = .ok (.ifCond .ne 6, 3) := by decide +kernel
theorem dX7_added_8 : decode cX7_added 8 = .ok (.ldc 146, 2) := by decide +kernel
theorem dX7_added_10 : decode cX7_added 10 = .ok (.ireturn, 1) := by decide +kernel
theorem dX7_added_11 : decode cX7_added 11 = .ok (.iload_n 2, 1) := by decide +kernel
theorem dX7_added_12 : decode cX7_added 12 = .ok (.ifCond .lt 20, 3) := by decide +kernel
theorem dX7_added_15 : decode cX7_added 15 = .ok (.iload_n 2, 1) := by decide +kernel
theorem dX7_added_16 : decode cX7_added 16 = .ok (.bipush 29, 2) := by decide +kernel
theorem dX7_added_18 : decode cX7_added 18 = .ok (.if_icmp .gt 14, 3) := by decide +kernel
theorem dX7_added_21 : decode cX7_added 21 = .ok (.iload_n 3, 1) := by decide +kernel
theorem dX7_added_22 : decode cX7_added 22 = .ok (.ifCond .lt 10, 3) := by decide +kernel
theorem dX7_added_25 : decode cX7_added 25 = .ok (.iload_n 3, 1) := by decide +kernel
theorem dX7_added_26 : decode cX7_added 26 = .ok (.sipush 9999, 3) := by decide +kernel
theorem dX7_added_29 : decode cX7_added 29 = .ok (.if_icmp .le 6, 3) := by decide +kernel
theorem dX7_added_32 : decode cX7_added 32 = .ok (.ldc 76, 2) := by decide +kernel
theorem dX7_added_34 : decode cX7_added 34 = .ok (.ireturn, 1) := by decide +kernel
theorem dX7_added_35 : decode cX7_added 35 = .ok (.aload_n 0, 1) := by decide +kernel
theorem dX7_added_36 : decode cX7_added 36 = .ok (.getfield 29, 3) := by decide +kernel
theorem dX7_added_39 : decode cX7_added 39 = .ok (.getfield 154, 3) := by decide +kernel
theorem dX7_added_42 : decode cX7_added 42 = .ok (.iload_n 1, 1) := by decide +kernel
theorem dX7_added_43 : decode cX7_added 43 = .ok (.laload, 1) := by decide +kernel
theorem dX7_added_44 : decode cX7_added 44 = .ok (.lneg, 1) := by decide +kernel
theorem dX7_added_45 : decode cX7_added 45 = .ok (.iload_n 3, 1) := by decide +kernel
theorem dX7_added_46 : decode cX7_added 46 = .ok (.i2l, 1) := by decide +kernel
theorem dX7_added_47 : decode cX7_added 47 = .ok (.lmul, 1) := by decide +kernel
theorem dX7_added_48 : decode cX7_added 48 = .ok (.aload_n 0, 1) := by decide +kernel
theorem dX7_added_49 : decode cX7_added 49 = .ok (.getfield 29, 3) := by decide +kernel
theorem dX7_added_52 : decode cX7_added 52 = .ok (.getfield 158, 3) := by decide +kernel
theorem dX7_added_55 : decode cX7_added 55 = .ok (.iload_n 1, 1) := by decide +kernel
theorem dX7_added_56 : decode cX7_added 56 = .ok (.laload, 1) := by decide +kernel
theorem dX7_added_57 : decode cX7_added 57 = .ok (.invokestatic 227, 3) := by decide +kernel
theorem dX7_added_60 : decode cX7_added 60 = .ok (.lstore 5, 2) := by decide +kernel
theorem dX7_added_62 : decode cX7_added 62 = .ok (.iconst 0, 1) := by decide +kernel
theorem dX7_added_63 : decode cX7_added 63 = .ok (.istore 7, 2) := by decide +kernel
theorem dX7_added_65 : decode cX7_added 65 = .ok (.iconst 3, 1) := by decide +kernel
theorem dX7_added_66 : decode cX7_added 66 = .ok (.istore 8, 2) := by decide +kernel
theorem dX7_added_68 : decode cX7_added 68 = .ok (.iload 8, 2) := by decide +kernel
theorem dX7_added_70 : decode cX7_added 70 = .ok (.bipush 30, 2) := by decide +kernel
theorem dX7_added_72 : decode cX7_added 72 = .ok (.if_icmp .gt 32, 3) := by decide +kernel
theorem dX7_added_75 : decode cX7_added 75 = .ok (.lload 5, 2) := by decide +kernel
theorem dX7_added_77 : decode cX7_added 77 = .ok (.iload 8, 2) := by decide +kernel
theorem dX7_added_79 : decode cX7_added 79 = .ok (.i2l, 1) := by decide +kernel
theorem dX7_added_80 : decode cX7_added 80 = .ok (.invokestatic 231, 3) := by decide +kernel
theorem dX7_added_83 : decode cX7_added 83 = .ok (.iload_n 2, 1) := by decide +kernel
theorem dX7_added_84 : decode cX7_added 84 = .ok (.i2l, 1) := by decide +kernel
theorem dX7_added_85 : decode cX7_added 85 = .ok (.lcmp, 1) := by decide +kernel
theorem dX7_added_86 : decode cX7_added 86 = .ok (.ifCond .ne 12, 3) := by decide +kernel
theorem dX7_added_89 : decode cX7_added 89 = .ok (.iload 7, 2) := by decide +kernel
theorem dX7_added_91 : decode cX7_added 91 = .ok (.iconst 1, 1) := by decide +kernel
theorem dX7_added_92 : decode cX7_added 92 = .ok (.iload 8, 2) := by decide +kernel
theorem dX7_added_94 : decode cX7_added 94 = .ok (.ishl, 1) := by decide +kernel
theorem dX7_added_95 : decode cX7_added 95 = .ok (.ior, 1) := by decide +kernel
theorem dX7_added_96 : decode cX7_added 96 = .ok (.istore 7, 2) := by decide +kernel
theorem dX7_added_98 : decode cX7_added 98 = .ok (.iinc 8 1, 3) := by decide +kernel
theorem dX7_added_101 : decode cX7_added 101 = .ok (.goto (-33), 3) := by decide +kernel
theorem dX7_added_104 : decode cX7_added 104 = .ok (.iload 7, 2) := by decide +kernel
theorem dX7_added_106 : decode cX7_added 106 = .ok (.iload 4, 2) := by decide +kernel
theorem dX7_added_108 : decode cX7_added 108 = .ok (.invokestatic 234, 3) := by decide +kernel
theorem dX7_added_111 : decode cX7_added 111 = .ok (.ireturn, 1) := by decide +kernel
theorem dX7_alike_0 : decode cX7_alike 0 = .ok (.aload_n 0, 1) := by decide +kernel
theorem dX7_alike_1 : decode cX7_alike 1 = .ok (.iload_n 1, 1) := by decide +kernel
theorem dX7_alike_2 : decode cX7_alike 2 = .ok (.iload_n 2, 1) := by decide +kernel
theorem dX7_alike_3 : decode cX7_alike 3 = .ok (.invokevirtual 237, 3) := by decide +kernel
theorem dX7_alike_6 : decode cX7_alike 6 = .ok (.ifCond .ne 6, 3) := by decide +kernel
theorem dX7_alike_9 : decode cX7_alike 9 = .ok (.ldc 146, 2) := by decide +kernel
theorem dX7_alike_11 : decode cX7_alike 11 = .ok (.ireturn, 1) := by decide +kernel
theorem dX7_alike_12 : decode cX7_alike 12 = .ok (.aload_n 0, 1) := by decide +kernel
theorem dX7_alike_13 : decode cX7_alike 13 = .ok (.getfield 29, 3) := by decide +kernel
theorem dX7_alike_16 : decode cX7_alike 16 = .ok (.iload_n 1, 1) := by decide +kernel
theorem dX7_alike_17 : decode cX7_alike 17 = .ok (.invokevirtual 240, 3) := by decide +kernel
theorem dX7_alike_20 : decode cX7_alike 20 = .ok (.ifCond .eq 14, 3) := by decide +kernel
theorem dX7_alike_23 : decode cX7_alike 23 = .ok (.aload_n 0, 1) := by decide +kernel
theorem dX7_alike_24 : decode cX7_alike 24 = .ok (.getfield 29, 3) := by decide +kernel
theorem dX7_alike_27 : decode cX7_alike 27 = .ok (.iload_n 2, 1) := by decide +kernel
theorem dX7_alike_28 : decode cX7_alike 28 = .ok (.invokevirtual 240, 3) := by decide +kernel
theorem dX7_alike_31 : decode cX7_alike 31 = .ok (.ifCond .ne 6, 3) := by decide +kernel
theorem dX7_alike_34 : decode cX7_alike 34 = .ok (.ldc 189, 2) := by decide +kernel
theorem dX7_alike_36 : decode cX7_alike 36 = .ok (.ireturn, 1) := by decide +kernel
theorem dX7_alike_37 : decode cX7_alike 37 = .ok (.aload_n 0, 1) := by decide +kernel
theorem dX7_alike_38 : decode cX7_alike 38 = .ok (.getfield 29, 3) := by decide +kernel
theorem dX7_alike_41 : decode cX7_alike 41 = .ok (.iload_n 1, 1) := by decide +kernel
theorem dX7_alike_42 : decode cX7_alike 42 = .ok (.iload_n 2, 1) := by decide +kernel
theorem dX7_alike_43 : decode cX7_alike 43 = .ok (.invokevirtual 243, 3) := by decide +kernel
theorem dX7_alike_46 : decode cX7_alike 46 = .ok (.ifCond .eq 7, 3) := by decide +kernel
theorem dX7_alike_49 : decode cX7_alike 49 = .ok (.iconst 1, 1) := by decide +kernel
theorem dX7_alike_50 : decode cX7_alike 50 = .ok (.goto 4, 3) := by decide +kernel
theorem dX7_alike_53 : decode cX7_alike 53 = .ok (.iconst 0, 1) := by decide +kernel
theorem dX7_alike_54 : decode cX7_alike 54 = .ok (.ireturn, 1) := by decide +kernel
theorem dX7_idlers_0 : decode cX7_idlers 0 = .ok (.aload_n 0, 1) := by decide +kernel
theorem dX7_idlers_1 : decode cX7_idlers 1 = .ok (.iload_n 1, 1) := by decide +kernel
theorem dX7_idlers_2 : decode cX7_idlers 2 = .ok (.iload_n 2, 1) := by decide +kernel
theorem dX7_idlers_3 : decode cX7_idlers 3 = .ok (.invokevirtual 237, 3) := by decide +kernel
theorem dX7_idlers_6 : decode cX7_idlers 6 = .ok (.ifCond .ne 6, 3) := by decide +kernel
theorem dX7_idlers_9 : decode cX7_idlers 9 = .ok (.ldc 146, 2) := by decide +kernel
theorem dX7_idlers_11 : decode cX7_idlers 11 = .ok (.ireturn, 1) := by decide +kernel
theorem dX7_idlers_12 : decode cX7_idlers 12 = .ok (.iload_n 3, 1) := by decide +kernel
theorem dX7_idlers_13 : decode cX7_idlers 13 = .ok (.ifCond .lt 8, 3) := by decide +kernel
theorem dX7_idlers_16 : decode cX7_idlers 16 = .ok (.iload_n 3, 1) := by decide +kernel
theorem dX7_idlers_17 : decode cX7_idlers 17 = .ok (.iconst 1, 1) := by decide +kernel
theorem dX7_idlers_18 : decode cX7_idlers 18 = .ok (.if_icmp .le 6, 3) := by decide +kernel
theorem dX7_idlers_21 : decode cX7_idlers 21 = .ok (.ldc 76, 2) := by decide +kernel
theorem dX7_idlers_23 : decode cX7_idlers 23 = .ok (.ireturn, 1) := by decide +kernel
theorem dX7_idlers_24 : decode cX7_idlers 24 = .ok (.aload_n 0, 1) := by decide +kernel
theorem dX7_idlers_25 : decode cX7_idlers 25 = .ok (.iload_n 1, 1) := by decide +kernel
theorem dX7_idlers_26 : decode cX7_idlers 26 = .ok (.iload_n 2, 1) := by decide +kernel
theorem dX7_idlers_27 : decode cX7_idlers 27 = .ok (.invokevirtual 246, 3) := by decide +kernel
theorem dX7_idlers_30 : decode cX7_idlers 30 = .ok (.iload_n 3, 1) := by decide +kernel
theorem dX7_idlers_31 : decode cX7_idlers 31 = .ok (.invokestatic 249, 3) := by decide +kernel
theorem dX7_idlers_34 : decode cX7_idlers 34 = .ok (.ireturn, 1) := by decide +kernel
theorem dX7_free_0 : decode cX7_free 0 = .ok (.iload_n 1, 1) := by decide +kernel
theorem dX7_free_1 : decode cX7_free 1 = .ok (.ifCond .lt 8, 3) := by decide +kernel
theorem dX7_free_4 : decode cX7_free 4 = .ok (.iload_n 1, 1) := by decide +kernel
theorem dX7_free_5 : decode cX7_free 5 = .ok (.iconst 1, 1) := by decide +kernel
theorem dX7_free_6 : decode cX7_free 6 = .ok (.if_icmp .le 6, 3) := by decide +kernel
theorem dX7_free_9 : decode cX7_free 9 = .ok (.ldc 76, 2) := by decide +kernel
theorem dX7_free_11 : decode cX7_free 11 = .ok (.ireturn, 1) := by decide +kernel
theorem dX7_free_12 : decode cX7_free 12 = .ok (.aload_n 0, 1) := by decide +kernel
theorem dX7_free_13 : decode cX7_free 13 = .ok (.iconst 0, 1) := by decide +kernel
theorem dX7_free_14 : decode cX7_free 14 = .ok (.invokevirtual 252, 3) := by decide +kernel
theorem dX7_free_17 : decode cX7_free 17 = .ok (.iload_n 1, 1) := by decide +kernel
theorem dX7_free_18 : decode cX7_free 18 = .ok (.invokestatic 249, 3) := by decide +kernel
theorem dX7_free_21 : decode cX7_free 21 = .ok (.ireturn, 1) := by decide +kernel
theorem dX7_rest_0 : decode cX7_rest 0 = .ok (.iload_n 1, 1) := by decide +kernel
theorem dX7_rest_1 : decode cX7_rest 1 = .ok (.aload_n 0, 1) := by decide +kernel
theorem dX7_rest_2 : decode cX7_rest 2 = .ok (.getfield 19, 3) := by decide +kernel
theorem dX7_rest_5 : decode cX7_rest 5 = .ok (.getfield 95, 3) := by decide +kernel
theorem dX7_rest_8 : decode cX7_rest 8 = .ok (.invokestatic 217, 3) := by decide +kernel
theorem dX7_rest_11 : decode cX7_rest 11 = .ok (.ifCond .eq 6, 3) := by decide +kernel
theorem dX7_rest_14 : decode cX7_rest 14 = .ok (.ldc 146, 2) := by decide +kernel
theorem dX7_rest_16 : decode cX7_rest 16 = .ok (.ireturn, 1) := by decide +kernel
theorem dX7_rest_17 : decode cX7_rest 17 = .ok (.iload_n 2, 1) := by decide +kernel
theorem dX7_rest_18 : decode cX7_rest 18 = .ok (.ifCond .lt 8, 3) := by decide +kernel
theorem dX7_rest_21 : decode cX7_rest 21 = .ok (.iload_n 2, 1) := by decide +kernel
theorem dX7_rest_22 : decode cX7_rest 22 = .ok (.iconst 1, 1) := by decide +kernel
theorem dX7_rest_23 : decode cX7_rest 23 = .ok (.if_icmp .le 6, 3) := by decide +kernel
theorem dX7_rest_26 : decode cX7_rest 26 = .ok (.ldc 76, 2) := by decide +kernel
theorem dX7_rest_28 : decode cX7_rest 28 = .ok (.ireturn, 1) := by decide +kernel
theorem dX7_rest_29 : decode cX7_rest 29 = .ok (.aload_n 0, 1) := by decide +kernel
theorem dX7_rest_30 : decode cX7_rest 30 = .ok (.iload_n 1, 1) := by decide +kernel
theorem dX7_rest_31 : decode cX7_rest 31 = .ok (.invokevirtual 252, 3) := by decide +kernel
theorem dX7_rest_34 : decode cX7_rest 34 = .ok (.iload_n 2, 1) := by decide +kernel
theorem dX7_rest_35 : decode cX7_rest 35 = .ok (.invokestatic 249, 3) := by decide +kernel
theorem dX7_rest_38 : decode cX7_rest 38 = .ok (.ireturn, 1) := by decide +kernel
theorem dX7_wear_0 : decode cX7_wear 0 = .ok (.aload_n 0, 1) := by decide +kernel
theorem dX7_wear_1 : decode cX7_wear 1 = .ok (.iload_n 1, 1) := by decide +kernel
theorem dX7_wear_2 : decode cX7_wear 2 = .ok (.invokevirtual 161, 3) := by decide +kernel
theorem dX7_wear_5 : decode cX7_wear 5 = .ok (.ifCond .ne 6, 3) := by decide +kernel
theorem dX7_wear_8 : decode cX7_wear 8 = .ok (.ldc 146, 2) := by decide +kernel
theorem dX7_wear_10 : decode cX7_wear 10 = .ok (.ireturn, 1) := by decide +kernel
theorem dX7_wear_11 : decode cX7_wear 11 = .ok (.iload_n 2, 1) := by decide +kernel
theorem dX7_wear_12 : decode cX7_wear 12 = .ok (.ifCond .lt 8, 3) := by decide +kernel
theorem dX7_wear_15 : decode cX7_wear 15 = .ok (.iload_n 2, 1) := by decide +kernel
theorem dX7_wear_16 : decode cX7_wear 16 = .ok (.iconst 1, 1) := by decide +kernel
theorem dX7_wear_17 : decode cX7_wear 17 = .ok (.if_icmp .le 6, 3) := by decide +kernel
theorem dX7_wear_20 : decode cX7_wear 20 = .ok (.ldc 76, 2) := by decide +kernel
theorem dX7_wear_22 : decode cX7_wear 22 = .ok (.ireturn, 1) := by decide +kernel
theorem dX7_wear_23 : decode cX7_wear 23 = .ok (.aload_n 0, 1) := by decide +kernel
theorem dX7_wear_24 : decode cX7_wear 24 = .ok (.getfield 19, 3) := by decide +kernel
theorem dX7_wear_27 : decode cX7_wear 27 = .ok (.getfield 164, 3) := by decide +kernel
theorem dX7_wear_30 : decode cX7_wear 30 = .ok (.iload_n 1, 1) := by decide +kernel
theorem dX7_wear_31 : decode cX7_wear 31 = .ok (.iaload, 1) := by decide +kernel
theorem dX7_wear_32 : decode cX7_wear 32 = .ok (.ifCond .eq 6, 3) := by decide +kernel
theorem dX7_wear_35 : decode cX7_wear 35 = .ok (.ldc 189, 2) := by decide +kernel
theorem dX7_wear_37 : decode cX7_wear 37 = .ok (.ireturn, 1) := by decide +kernel
theorem dX7_wear_38 : decode cX7_wear 38 = .ok (.iload_n 2, 1) := by decide +kernel
theorem dX7_wear_39 : decode cX7_wear 39 = .ok (.ifCond .ne 11, 3) := by decide +kernel
theorem dX7_wear_42 : decode cX7_wear 42 = .ok (.aload_n 0, 1) := by decide +kernel
theorem dX7_wear_43 : decode cX7_wear 43 = .ok (.iload_n 1, 1) := by decide +kernel
theorem dX7_wear_44 : decode cX7_wear 44 = .ok (.invokevirtual 255, 3) := by decide +kernel
theorem dX7_wear_47 : decode cX7_wear 47 = .ok (.goto 8, 3) := by decide +kernel
theorem dX7_wear_50 : decode cX7_wear 50 = .ok (.aload_n 0, 1) := by decide +kernel
theorem dX7_wear_51 : decode cX7_wear 51 = .ok (.iload_n 1, 1) := by decide +kernel
theorem dX7_wear_52 : decode cX7_wear 52 = .ok (.invokevirtual 258, 3) := by decide +kernel
theorem dX7_wear_55 : decode cX7_wear 55 = .ok (.ireturn, 1) := by decide +kernel
theorem dX7_slips_0 : decode cX7_slips 0 = .ok (.aload_n 0, 1) := by decide +kernel
theorem dX7_slips_1 : decode cX7_slips 1 = .ok (.iload_n 1, 1) := by decide +kernel
theorem dX7_slips_2 : decode cX7_slips 2 = .ok (.invokevirtual 142, 3) := by decide +kernel
theorem dX7_slips_5 : decode cX7_slips 5 = .ok (.ifCond .ne 6, 3) := by decide +kernel
theorem dX7_slips_8 : decode cX7_slips 8 = .ok (.ldc 146, 2) := by decide +kernel
theorem dX7_slips_10 : decode cX7_slips 10 = .ok (.ireturn, 1) := by decide +kernel
theorem dX7_slips_11 : decode cX7_slips 11 = .ok (.iload_n 2, 1) := by decide +kernel
theorem dX7_slips_12 : decode cX7_slips 12 = .ok (.ifCond .lt 9, 3) := by decide +kernel
theorem dX7_slips_15 : decode cX7_slips 15 = .ok (.iload_n 2, 1) := by decide +kernel
theorem dX7_slips_16 : decode cX7_slips 16 = .ok (.bipush 99, 2) := by decide +kernel
theorem dX7_slips_18 : decode cX7_slips 18 = .ok (.if_icmp .le 6, 3) := by decide +kernel
theorem dX7_slips_21 : decode cX7_slips 21 = .ok (.ldc 76, 2) := by decide +kernel
theorem dX7_slips_23 : decode cX7_slips 23 = .ok (.ireturn, 1) := by decide +kernel
theorem dX7_slips_24 : decode cX7_slips 24 = .ok (.aload_n 0, 1) := by decide +kernel
theorem dX7_slips_25 : decode cX7_slips 25 = .ok (.getfield 29, 3) := by decide +kernel
theorem dX7_slips_28 : decode cX7_slips 28 = .ok (.iload_n 1, 1) := by decide +kernel
theorem dX7_slips_29 : decode cX7_slips 29 = .ok (.invokevirtual 240, 3) := by decide +kernel
theorem dX7_slips_32 : decode cX7_slips 32 = .ok (.ifCond .eq 12, 3) := by decide +kernel
theorem dX7_slips_35 : decode cX7_slips 35 = .ok (.aload_n 0, 1) := by decide +kernel
theorem dX7_slips_36 : decode cX7_slips 36 = .ok (.iload_n 1, 1) := by decide +kernel
theorem dX7_slips_37 : decode cX7_slips 37 = .ok (.iload_n 2, 1) := by decide +kernel
theorem dX7_slips_38 : decode cX7_slips 38 = .ok (.invokevirtual 261, 3) := by decide +kernel
theorem dX7_slips_41 : decode cX7_slips 41 = .ok (.goto 4, 3) := by decide +kernel
theorem dX7_slips_44 : decode cX7_slips 44 = .ok (.iconst 0, 1) := by decide +kernel
theorem dX7_slips_45 : decode cX7_slips 45 = .ok (.ireturn, 1) := by decide +kernel
theorem dX7_hidden_0 : decode cX7_hidden 0 = .ok (.aload_n 0, 1) := by decide +kernel
theorem dX7_hidden_1 : decode cX7_hidden 1 = .ok (.iload_n 1, 1) := by decide +kernel
theorem dX7_hidden_2 : decode cX7_hidden 2 = .ok (.invokevirtual 142, 3) := by decide +kernel
theorem dX7_hidden_5 : decode cX7_hidden 5 = .ok (.ifCond .ne 6, 3) := by decide +kernel
theorem dX7_hidden_8 : decode cX7_hidden 8 = .ok (.ldc 146, 2) := by decide +kernel
theorem dX7_hidden_10 : decode cX7_hidden 10 = .ok (.ireturn, 1) := by decide +kernel
theorem dX7_hidden_11 : decode cX7_hidden 11 = .ok (.iload_n 2, 1) := by decide +kernel
theorem dX7_hidden_12 : decode cX7_hidden 12 = .ok (.ifCond .lt 24, 3) := by decide +kernel
theorem dX7_hidden_15 : decode cX7_hidden 15 = .ok (.iload_n 2, 1) := by decide +kernel
theorem dX7_hidden_16 : decode cX7_hidden 16 = .ok (.iconst 2, 1) := by decide +kernel
theorem dX7_hidden_17 : decode cX7_hidden 17 = .ok (.if_icmp .gt 19, 3) := by decide +kernel
theorem dX7_hidden_20 : decode cX7_hidden 20 = .ok (.iload_n 3, 1) := by decide +kernel
theorem dX7_hidden_21 : decode cX7_hidden 21 = .ok (.bipush (-30), 2) := by decide +kernel
theorem dX7_hidden_23 : decode cX7_hidden 23 = .ok (.if_icmp .lt 13, 3) := by decide +kernel
theorem dX7_hidden_26 : decode cX7_hidden 26 = .ok (.iload_n 3, 1) := by decide +kernel
theorem dX7_hidden_27 : decode cX7_hidden 27 = .ok (.bipush 30, 2) := by decide +kernel
theorem dX7_hidden_29 : decode cX7_hidden 29 = .ok (.if_icmp .gt 7, 3) := by decide +kernel
theorem dX7_hidden_32 : decode cX7_hidden 32 = .ok (.iload_n 3, 1) := by decide +kernel
theorem dX7_hidden_33 : decode cX7_hidden 33 = .ok (.ifCond .ne 6, 3) := by decide +kernel
theorem dX7_hidden_36 : decode cX7_hidden 36 = .ok (.ldc 76, 2) := by decide +kernel
theorem dX7_hidden_38 : decode cX7_hidden 38 = .ok (.ireturn, 1) := by decide +kernel
theorem dX7_hidden_39 : decode cX7_hidden 39 = .ok (.aload_n 0, 1) := by decide +kernel
theorem dX7_hidden_40 : decode cX7_hidden 40 = .ok (.getfield 29, 3) := by decide +kernel
theorem dX7_hidden_43 : decode cX7_hidden 43 = .ok (.iload_n 1, 1) := by decide +kernel
theorem dX7_hidden_44 : decode cX7_hidden 44 = .ok (.invokevirtual 240, 3) := by decide +kernel
theorem dX7_hidden_47 : decode cX7_hidden 47 = .ok (.ifCond .eq 6, 3) := by decide +kernel
theorem dX7_hidden_50 : decode cX7_hidden 50 = .ok (.ldc 189, 2) := by decide +kernel
theorem dX7_hidden_52 : decode cX7_hidden 52 = .ok (.ireturn, 1) := by decide +kernel
theorem dX7_hidden_53 : decode cX7_hidden 53 = .ok (.iconst 0, 1) := by decide +kernel
theorem dX7_hidden_54 : decode cX7_hidden 54 = .ok (.istore 5, 2) := by decide +kernel
theorem dX7_hidden_56 : decode cX7_hidden 56 = .ok (.iconst 0, 1) := by decide +kernel
theorem dX7_hidden_57 : decode cX7_hidden 57 = .ok (.istore 6, 2) := by decide +kernel
theorem dX7_hidden_59 : decode cX7_hidden 59 = .ok (.iload 6, 2) := by decide +kernel
theorem dX7_hidden_61 : decode cX7_hidden 61 = .ok (.aload_n 0, 1) := by decide +kernel
theorem dX7_hidden_62 : decode cX7_hidden 62 = .ok (.getfield 19, 3) := by decide +kernel
theorem dX7_hidden_65 : decode cX7_hidden 65 = .ok (.getfield 95, 3) := by decide +kernel
theorem dX7_hidden_68 : decode cX7_hidden 68 = .ok (.if_icmp .ge 90, 3) := by decide +kernel
theorem dX7_hidden_71 : decode cX7_hidden 71 = .ok (.iload 6, 2) := by decide +kernel
theorem dX7_hidden_73 : decode cX7_hidden 73 = .ok (.iconst 1, 1) := by decide +kernel
theorem dX7_hidden_74 : decode cX7_hidden 74 = .ok (.iadd, 1) := by decide +kernel
theorem dX7_hidden_75 : decode cX7_hidden 75 = .ok (.istore 7, 2) := by decide +kernel
theorem dX7_hidden_77 : decode cX7_hidden 77 = .ok (.iload 7, 2) := by decide +kernel
theorem dX7_hidden_79 : decode cX7_hidden 79 = .ok (.aload_n 0, 1) := by decide +kernel
theorem dX7_hidden_80 : decode cX7_hidden 80 = .ok (.getfield 19, 3) := by decide +kernel
theorem dX7_hidden_83 : decode cX7_hidden 83 = .ok (.getfield 95, 3) := by decide +kernel
theorem dX7_hidden_86 : decode cX7_hidden 86 = .ok (.if_icmp .ge 66, 3) := by decide +kernel
theorem dX7_hidden_89 : decode cX7_hidden 89 = .ok (.aload_n 0, 1) := by decide +kernel
theorem dX7_hidden_90 : decode cX7_hidden 90 = .ok (.getfield 29, 3) := by decide +kernel
theorem dX7_hidden_93 : decode cX7_hidden 93 = .ok (.iload 6, 2) := by decide +kernel
theorem dX7_hidden_95 : decode cX7_hidden 95 = .ok (.invokevirtual 240, 3) := by decide +kernel
theorem dX7_hidden_98 : decode cX7_hidden 98 = .ok (.aload_n 0, 1) := by decide +kernel
theorem dX7_hidden_99 : decode cX7_hidden 99 = .ok (.getfield 29, 3) := by decide +kernel
theorem dX7_hidden_102 : decode cX7_hidden 102 = .ok (.iload 7, 2) := by decide +kernel
theorem dX7_hidden_104 : decode cX7_hidden 104 = .ok (.invokevirtual 240, 3) := by decide +kernel
theorem dX7_hidden_107 : decode cX7_hidden 107 = .ok (.if_icmp .eq 39, 3) := by decide +kernel
theorem dX7_hidden_110 : decode cX7_hidden 110 = .ok (.aload_n 0, 1) := by decide +kernel
theorem dX7_hidden_111 : decode cX7_hidden 111 = .ok (.iload_n 1, 1) := by decide +kernel
theorem dX7_hidden_112 : decode cX7_hidden 112 = .ok (.iload_n 3, 1) := by decide +kernel
theorem dX7_hidden_113 : decode cX7_hidden 113 = .ok (.iload_n 2, 1) := by decide +kernel
theorem dX7_hidden_114 : decode cX7_hidden 114 = .ok (.iload 6, 2) := by decide +kernel
theorem dX7_hidden_116 : decode cX7_hidden 116 = .ok (.iload 7, 2) := by decide +kernel
theorem dX7_hidden_118 : decode cX7_hidden 118 = .ok (.invokevirtual 264, 3) := by decide +kernel
theorem dX7_hidden_121 : decode cX7_hidden 121 = .ok (.ifCond .ne 6, 3) := by decide +kernel
theorem dX7_hidden_124 : decode cX7_hidden 124 = .ok (.goto 22, 3) := by decide +kernel
theorem dX7_hidden_127 : decode cX7_hidden 127 = .ok (.iload 5, 2) := by decide +kernel
theorem dX7_hidden_129 : decode cX7_hidden 129 = .ok (.iload 4, 2) := by decide +kernel
theorem dX7_hidden_131 : decode cX7_hidden 131 = .ok (.if_icmp .ne 12, 3) := by decide +kernel
theorem dX7_hidden_134 : decode cX7_hidden 134 = .ok (.bipush 100, 2) := by decide +kernel
theorem dX7_hidden_136 : decode cX7_hidden 136 = .ok (.iload 6, 2) := by decide +kernel
theorem dX7_hidden_138 : decode cX7_hidden 138 = .ok (.imul, 1) := by decide +kernel
theorem dX7_hidden_139 : decode cX7_hidden 139 = .ok (.iload 7, 2) := by decide +kernel
theorem dX7_hidden_141 : decode cX7_hidden 141 = .ok (.iadd, 1) := by decide +kernel
theorem dX7_hidden_142 : decode cX7_hidden 142 = .ok (.ireturn, 1) := by decide +kernel
theorem dX7_hidden_143 : decode cX7_hidden 143 = .ok (.iinc 5 1, 3) := by decide +kernel
theorem dX7_hidden_146 : decode cX7_hidden 146 = .ok (.iinc 7 1, 3) := by decide +kernel
theorem dX7_hidden_149 : decode cX7_hidden 149 = .ok (.goto (-72), 3) := by decide +kernel
theorem dX7_hidden_152 : decode cX7_hidden 152 = .ok (.iinc 6 1, 3) := by decide +kernel
theorem dX7_hidden_155 : decode cX7_hidden 155 = .ok (.goto (-96), 3) := by decide +kernel
theorem dX7_hidden_158 : decode cX7_hidden 158 = .ok (.iload 4, 2) := by decide +kernel
theorem dX7_hidden_160 : decode cX7_hidden 160 = .ok (.iconst (-1), 1) := by decide +kernel
theorem dX7_hidden_161 : decode cX7_hidden 161 = .ok (.if_icmp .ne 8, 3) := by decide +kernel
theorem dX7_hidden_164 : decode cX7_hidden 164 = .ok (.iload 5, 2) := by decide +kernel
theorem dX7_hidden_166 : decode cX7_hidden 166 = .ok (.goto 4, 3) := by decide +kernel
theorem dX7_hidden_169 : decode cX7_hidden 169 = .ok (.iconst (-1), 1) := by decide +kernel
theorem dX7_hidden_170 : decode cX7_hidden 170 = .ok (.ireturn, 1) := by decide +kernel
theorem dX7_stood_0 : decode cX7_stood 0 = .ok (.aload_n 0, 1) := by decide +kernel
theorem dX7_stood_1 : decode cX7_stood 1 = .ok (.iload_n 1, 1) := by decide +kernel
theorem dX7_stood_2 : decode cX7_stood 2 = .ok (.invokevirtual 142, 3) := by decide +kernel
theorem dX7_stood_5 : decode cX7_stood 5 = .ok (.ifCond .ne 6, 3) := by decide +kernel
theorem dX7_stood_8 : decode cX7_stood 8 = .ok (.ldc 146, 2) := by decide +kernel
theorem dX7_stood_10 : decode cX7_stood 10 = .ok (.ireturn, 1) := by decide +kernel
theorem dX7_stood_11 : decode cX7_stood 11 = .ok (.iload_n 2, 1) := by decide +kernel
theorem dX7_stood_12 : decode cX7_stood 12 = .ok (.ifCond .lt 20, 3) := by decide +kernel
theorem dX7_stood_15 : decode cX7_stood 15 = .ok (.iload_n 2, 1) := by decide +kernel
theorem dX7_stood_16 : decode cX7_stood 16 = .ok (.sipush 999, 3) := by decide +kernel
theorem dX7_stood_19 : decode cX7_stood 19 = .ok (.if_icmp .gt 13, 3) := by decide +kernel
theorem dX7_stood_22 : decode cX7_stood 22 = .ok (.iload_n 3, 1) := by decide +kernel
theorem dX7_stood_23 : decode cX7_stood 23 = .ok (.ifCond .lt 9, 3) := by decide +kernel
theorem dX7_stood_26 : decode cX7_stood 26 = .ok (.iload_n 3, 1) := by decide +kernel
theorem dX7_stood_27 : decode cX7_stood 27 = .ok (.bipush 29, 2) := by decide +kernel
theorem dX7_stood_29 : decode cX7_stood 29 = .ok (.if_icmp .le 6, 3) := by decide +kernel
theorem dX7_stood_32 : decode cX7_stood 32 = .ok (.ldc 76, 2) := by decide +kernel
theorem dX7_stood_34 : decode cX7_stood 34 = .ok (.ireturn, 1) := by decide +kernel
theorem dX7_stood_35 : decode cX7_stood 35 = .ok (.aload_n 0, 1) := by decide +kernel
theorem dX7_stood_36 : decode cX7_stood 36 = .ok (.getfield 61, 3) := by decide +kernel
theorem dX7_stood_39 : decode cX7_stood 39 = .ok (.iload_n 1, 1) := by decide +kernel
theorem dX7_stood_40 : decode cX7_stood 40 = .ok (.iload_n 2, 1) := by decide +kernel
theorem dX7_stood_41 : decode cX7_stood 41 = .ok (.iload_n 3, 1) := by decide +kernel
theorem dX7_stood_42 : decode cX7_stood 42 = .ok (.invokevirtual 268, 3) := by decide +kernel
theorem dX7_stood_45 : decode cX7_stood 45 = .ok (.ireturn, 1) := by decide +kernel
theorem dX7_teeth_0 : decode cX7_teeth 0 = .ok (.aload_n 0, 1) := by decide +kernel
theorem dX7_teeth_1 : decode cX7_teeth 1 = .ok (.iload_n 1, 1) := by decide +kernel
theorem dX7_teeth_2 : decode cX7_teeth 2 = .ok (.invokevirtual 142, 3) := by decide +kernel
theorem dX7_teeth_5 : decode cX7_teeth 5 = .ok (.ifCond .ne 6, 3) := by decide +kernel
theorem dX7_teeth_8 : decode cX7_teeth 8 = .ok (.ldc 146, 2) := by decide +kernel
theorem dX7_teeth_10 : decode cX7_teeth 10 = .ok (.ireturn, 1) := by decide +kernel
theorem dX7_teeth_11 : decode cX7_teeth 11 = .ok (.aload_n 0, 1) := by decide +kernel
theorem dX7_teeth_12 : decode cX7_teeth 12 = .ok (.iload_n 1, 1) := by decide +kernel
theorem dX7_teeth_13 : decode cX7_teeth 13 = .ok (.invokevirtual 272, 3) := by decide +kernel
theorem dX7_teeth_16 : decode cX7_teeth 16 = .ok (.iload_n 2, 1) := by decide +kernel
theorem dX7_teeth_17 : decode cX7_teeth 17 = .ok (.invokestatic 234, 3) := by decide +kernel
theorem dX7_teeth_20 : decode cX7_teeth 20 = .ok (.ireturn, 1) := by decide +kernel
theorem dX7_look_0 : decode cX7_look 0 = .ok (.aload_n 0, 1) := by decide +kernel
theorem dX7_look_1 : decode cX7_look 1 = .ok (.iload_n 1, 1) := by decide +kernel
theorem dX7_look_2 : decode cX7_look 2 = .ok (.invokevirtual 142, 3) := by decide +kernel
theorem dX7_look_5 : decode cX7_look 5 = .ok (.ifCond .ne 6, 3) := by decide +kernel
theorem dX7_look_8 : decode cX7_look 8 = .ok (.ldc 146, 2) := by decide +kernel
theorem dX7_look_10 : decode cX7_look 10 = .ok (.ireturn, 1) := by decide +kernel
theorem dX7_look_11 : decode cX7_look 11 = .ok (.aload_n 0, 1) := by decide +kernel
theorem dX7_look_12 : decode cX7_look 12 = .ok (.iload_n 1, 1) := by decide +kernel
theorem dX7_look_13 : decode cX7_look 13 = .ok (.invokevirtual 272, 3) := by decide +kernel
theorem dX7_look_16 : decode cX7_look 16 = .ok (.istore_n 2, 1) := by decide +kernel
theorem dX7_look_17 : decode cX7_look 17 = .ok (.iload_n 2, 1) := by decide +kernel
theorem dX7_look_18 : decode cX7_look 18 = .ok (.invokestatic 275, 3) := by decide +kernel
theorem dX7_look_21 : decode cX7_look 21 = .ok (.istore_n 3, 1) := by decide +kernel
theorem dX7_look_22 : decode cX7_look 22 = .ok (.iconst (-1), 1) := by decide +kernel
theorem dX7_look_23 : decode cX7_look 23 = .ok (.istore 4, 2) := by decide +kernel
theorem dX7_look_25 : decode cX7_look 25 = .ok (.iconst 1, 1) := by decide +kernel
theorem dX7_look_26 : decode cX7_look 26 = .ok (.istore 5, 2) := by decide +kernel
theorem dX7_look_28 : decode cX7_look 28 = .ok (.iload 5, 2) := by decide +kernel
theorem dX7_look_30 : decode cX7_look 30 = .ok (.bipush 30, 2) := by decide +kernel
theorem dX7_look_32 : decode cX7_look 32 = .ok (.if_icmp .gt 32, 3) := by decide +kernel
theorem dX7_look_35 : decode cX7_look 35 = .ok (.aload_n 0, 1) := by decide +kernel
theorem dX7_look_36 : decode cX7_look 36 = .ok (.iload_n 1, 1) := by decide +kernel
theorem dX7_look_37 : decode cX7_look 37 = .ok (.iload 5, 2) := by decide +kernel
theorem dX7_look_39 : decode cX7_look 39 = .ok (.iload_n 2, 1) := by decide +kernel
theorem dX7_look_40 : decode cX7_look 40 = .ok (.invokevirtual 280, 3) := by decide +kernel
theorem dX7_look_43 : decode cX7_look 43 = .ok (.istore 6, 2) := by decide +kernel
theorem dX7_look_45 : decode cX7_look 45 = .ok (.iload 6, 2) := by decide +kernel
theorem dX7_look_47 : decode cX7_look 47 = .ok (.iload_n 3, 1) := by decide +kernel
theorem dX7_look_48 : decode cX7_look 48 = .ok (.if_icmp .ge 10, 3) := by decide +kernel
theorem dX7_look_51 : decode cX7_look 51 = .ok (.iload 6, 2) := by decide +kernel
theorem dX7_look_53 : decode cX7_look 53 = .ok (.istore_n 3, 1) := by decide +kernel
theorem dX7_look_54 : decode cX7_look 54 = .ok (.iload 5, 2) := by decide +kernel
theorem dX7_look_56 : decode cX7_look 56 = .ok (.istore 4, 2) := by decide +kernel
theorem dX7_look_58 : decode cX7_look 58 = .ok (.iinc 5 1, 3) := by decide +kernel
theorem dX7_look_61 : decode cX7_look 61 = .ok (.goto (-33), 3) := by decide +kernel
theorem dX7_look_64 : decode cX7_look 64 = .ok (.iload 4, 2) := by decide +kernel
theorem dX7_look_66 : decode cX7_look 66 = .ok (.ireturn, 1) := by decide +kernel
theorem dX7_write_0 : decode cX7_write 0 = .ok (.aload_n 0, 1) := by decide +kernel
theorem dX7_write_1 : decode cX7_write 1 = .ok (.iload_n 1, 1) := by decide +kernel
theorem dX7_write_2 : decode cX7_write 2 = .ok (.invokevirtual 142, 3) := by decide +kernel
theorem dX7_write_5 : decode cX7_write 5 = .ok (.ifCond .ne 6, 3) := by decide +kernel
theorem dX7_write_8 : decode cX7_write 8 = .ok (.ldc 146, 2) := by decide +kernel
theorem dX7_write_10 : decode cX7_write 10 = .ok (.ireturn, 1) := by decide +kernel
theorem dX7_write_11 : decode cX7_write 11 = .ok (.iload_n 2, 1) := by decide +kernel
theorem dX7_write_12 : decode cX7_write 12 = .ok (.ifCond .lt 19, 3) := by decide +kernel
theorem dX7_write_15 : decode cX7_write 15 = .ok (.iload_n 2, 1) := by decide +kernel
theorem dX7_write_16 : decode cX7_write 16 = .ok (.ldc 188, 2) := by decide +kernel
theorem dX7_write_18 : decode cX7_write 18 = .ok (.if_icmp .gt 13, 3) := by decide +kernel
theorem dX7_write_21 : decode cX7_write 21 = .ok (.iload_n 3, 1) := by decide +kernel
theorem dX7_write_22 : decode cX7_write 22 = .ok (.ifCond .lt 9, 3) := by decide +kernel
theorem dX7_write_25 : decode cX7_write 25 = .ok (.iload_n 3, 1) := by decide +kernel
theorem dX7_write_26 : decode cX7_write 26 = .ok (.bipush 29, 2) := by decide +kernel
theorem dX7_write_28 : decode cX7_write 28 = .ok (.if_icmp .le 6, 3) := by decide +kernel
theorem dX7_write_31 : decode cX7_write 31 = .ok (.ldc 76, 2) := by decide +kernel
theorem dX7_write_33 : decode cX7_write 33 = .ok (.ireturn, 1) := by decide +kernel
theorem dX7_write_34 : decode cX7_write 34 = .ok (.aload_n 0, 1) := by decide +kernel
theorem dX7_write_35 : decode cX7_write 35 = .ok (.getfield 65, 3) := by decide +kernel
theorem dX7_write_38 : decode cX7_write 38 = .ok (.iload_n 1, 1) := by decide +kernel
theorem dX7_write_39 : decode cX7_write 39 = .ok (.iload_n 2, 1) := by decide +kernel
theorem dX7_write_40 : decode cX7_write 40 = .ok (.iload_n 3, 1) := by decide +kernel
theorem dX7_write_41 : decode cX7_write 41 = .ok (.invokevirtual 268, 3) := by decide +kernel
theorem dX7_write_44 : decode cX7_write 44 = .ok (.ireturn, 1) := by decide +kernel
theorem dX7_judge_0 : decode cX7_judge 0 = .ok (.iconst 0, 1) := by decide +kernel
theorem dX7_judge_1 : decode cX7_judge 1 = .ok (.istore_n 1, 1) := by decide +kernel
theorem dX7_judge_2 : decode cX7_judge 2 = .ok (.iload_n 1, 1) := by decide +kernel
theorem dX7_judge_3 : decode cX7_judge 3 = .ok (.aload_n 0, 1) := by decide +kernel
theorem dX7_judge_4 : decode cX7_judge 4 = .ok (.getfield 65, 3) := by decide +kernel
theorem dX7_judge_7 : decode cX7_judge 7 = .ok (.getfield 132, 3) := by decide +kernel
theorem dX7_judge_10 : decode cX7_judge 10 = .ok (.if_icmp .ge 45, 3) := by decide +kernel
theorem dX7_judge_13 : decode cX7_judge 13 = .ok (.aload_n 0, 1) := by decide +kernel
theorem dX7_judge_14 : decode cX7_judge 14 = .ok (.aload_n 0, 1) := by decide +kernel
theorem dX7_judge_15 : decode cX7_judge 15 = .ok (.getfield 65, 3) := by decide +kernel
theorem dX7_judge_18 : decode cX7_judge 18 = .ok (.getfield 283, 3) := by decide +kernel
theorem dX7_judge_21 : decode cX7_judge 21 = .ok (.iload_n 1, 1) := by decide +kernel
theorem dX7_judge_22 : decode cX7_judge 22 = .ok (.iaload, 1) := by decide +kernel
theorem dX7_judge_23 : decode cX7_judge 23 = .ok (.aload_n 0, 1) := by decide +kernel
theorem dX7_judge_24 : decode cX7_judge 24 = .ok (.getfield 65, 3) := by decide +kernel
theorem dX7_judge_27 : decode cX7_judge 27 = .ok (.getfield 285, 3) := by decide +kernel
theorem dX7_judge_30 : decode cX7_judge 30 = .ok (.iload_n 1, 1) := by decide +kernel
theorem dX7_judge_31 : decode cX7_judge 31 = .ok (.iaload, 1) := by decide +kernel
theorem dX7_judge_32 : decode cX7_judge 32 = .ok (.invokevirtual 150, 3) := by decide +kernel
theorem dX7_judge_35 : decode cX7_judge 35 = .ok (.aload_n 0, 1) := by decide +kernel
theorem dX7_judge_36 : decode cX7_judge 36 = .ok (.getfield 65, 3) := by decide +kernel
theorem dX7_judge_39 : decode cX7_judge 39 = .ok (.getfield 288, 3) := by decide +kernel
theorem dX7_judge_42 : decode cX7_judge 42 = .ok (.iload_n 1, 1) := by decide +kernel
theorem dX7_judge_43 : decode cX7_judge 43 = .ok (.iaload, 1) := by decide +kernel
theorem dX7_judge_44 : decode cX7_judge 44 = .ok (.if_icmp .eq 5, 3) := by decide +kernel
theorem dX7_judge_47 : decode cX7_judge 47 = .ok (.iload_n 1, 1) := by decide +kernel
theorem dX7_judge_48 : decode cX7_judge 48 = .ok (.ireturn, 1) := by decide +kernel
theorem dX7_judge_49 : decode cX7_judge 49 = .ok (.iinc 1 1, 3) := by decide +kernel
theorem dX7_judge_52 : decode cX7_judge 52 = .ok (.goto (-50), 3) := by decide +kernel
theorem dX7_judge_55 : decode cX7_judge 55 = .ok (.iconst (-1), 1) := by decide +kernel
theorem dX7_judge_56 : decode cX7_judge 56 = .ok (.ireturn, 1) := by decide +kernel
theorem dX7_tear_0 : decode cX7_tear 0 = .ok (.aload_n 0, 1) := by decide +kernel
theorem dX7_tear_1 : decode cX7_tear 1 = .ok (.getfield 61, 3) := by decide +kernel
theorem dX7_tear_4 : decode cX7_tear 4 = .ok (.getfield 132, 3) := by decide +kernel
theorem dX7_tear_7 : decode cX7_tear 7 = .ok (.aload_n 0, 1) := by decide +kernel
theorem dX7_tear_8 : decode cX7_tear 8 = .ok (.getfield 65, 3) := by decide +kernel
theorem dX7_tear_11 : decode cX7_tear 11 = .ok (.getfield 132, 3) := by decide +kernel
theorem dX7_tear_14 : decode cX7_tear 14 = .ok (.iadd, 1) := by decide +kernel
theorem dX7_tear_15 : decode cX7_tear 15 = .ok (.istore_n 1, 1) := by decide +kernel
theorem dX7_tear_16 : decode cX7_tear 16 = .ok (.aload_n 0, 1) := by decide +kernel
theorem dX7_tear_17 : decode cX7_tear 17 = .ok (.getfield 61, 3) := by decide +kernel
theorem dX7_tear_20 : decode cX7_tear 20 = .ok (.iconst 0, 1) := by decide +kernel
theorem dX7_tear_21 : decode cX7_tear 21 = .ok (.putfield 132, 3) := by decide +kernel
theorem dX7_tear_24 : decode cX7_tear 24 = .ok (.aload_n 0, 1) := by decide +kernel
theorem dX7_tear_25 : decode cX7_tear 25 = .ok (.getfield 65, 3) := by decide +kernel
theorem dX7_tear_28 : decode cX7_tear 28 = .ok (.iconst 0, 1) := by decide +kernel
theorem dX7_tear_29 : decode cX7_tear 29 = .ok (.putfield 132, 3) := by decide +kernel
theorem dX7_tear_32 : decode cX7_tear 32 = .ok (.iload_n 1, 1) := by decide +kernel
theorem dX7_tear_33 : decode cX7_tear 33 = .ok (.ireturn, 1) := by decide +kernel
theorem dX7_seed_0 : decode cX7_seed 0 = .ok (.iload_n 1, 1) := by decide +kernel
theorem dX7_seed_1 : decode cX7_seed 1 = .ok (.ifCond .ge 6, 3) := by decide +kernel
theorem dX7_seed_4 : decode cX7_seed 4 = .ok (.ldc 76, 2) := by decide +kernel
theorem dX7_seed_6 : decode cX7_seed 6 = .ok (.ireturn, 1) := by decide +kernel
theorem dX7_seed_7 : decode cX7_seed 7 = .ok (.aload_n 0, 1) := by decide +kernel
theorem dX7_seed_8 : decode cX7_seed 8 = .ok (.getfield 289, 3) := by decide +kernel
theorem dX7_seed_11 : decode cX7_seed 11 = .ok (.istore_n 2, 1) := by decide +kernel
theorem dX7_seed_12 : decode cX7_seed 12 = .ok (.aload_n 0, 1) := by decide +kernel
theorem dX7_seed_13 : decode cX7_seed 13 = .ok (.iload_n 1, 1) := by decide +kernel
theorem dX7_seed_14 : decode cX7_seed 14 = .ok (.putfield 289, 3) := by decide +kernel
theorem dX7_seed_17 : decode cX7_seed 17 = .ok (.iload_n 2, 1) := by decide +kernel
theorem dX7_seed_18 : decode cX7_seed 18 = .ok (.ireturn, 1) := by decide +kernel
theorem dX7_keep_0 : decode cX7_keep 0 = .ok (.iload_n 1, 1) := by decide +kernel
theorem dX7_keep_1 : decode cX7_keep 1 = .ok (.ifCond .lt 8, 3) := by decide +kernel
theorem dX7_keep_4 : decode cX7_keep 4 = .ok (.iload_n 1, 1) := by decide +kernel
theorem dX7_keep_5 : decode cX7_keep 5 = .ok (.iconst 2, 1) := by decide +kernel
theorem dX7_keep_6 : decode cX7_keep 6 = .ok (.if_icmp .lt 6, 3) := by decide +kernel
theorem dX7_keep_9 : decode cX7_keep 9 = .ok (.ldc 146, 2) := by decide +kernel
theorem dX7_keep_11 : decode cX7_keep 11 = .ok (.ireturn, 1) := by decide +kernel
theorem dX7_keep_12 : decode cX7_keep 12 = .ok (.aload_n 0, 1) := by decide +kernel
theorem dX7_keep_13 : decode cX7_keep 13 = .ok (.getfield 52, 3) := by decide +kernel
theorem dX7_keep_16 : decode cX7_keep 16 = .ok (.iload_n 1, 1) := by decide +kernel
theorem dX7_keep_17 : decode cX7_keep 17 = .ok (.aaload, 1) := by decide +kernel
theorem dX7_keep_18 : decode cX7_keep 18 = .ok (.getfield 292, 3) := by decide +kernel
theorem dX7_keep_21 : decode cX7_keep 21 = .ok (.aload_n 0, 1) := by decide +kernel
theorem dX7_keep_22 : decode cX7_keep 22 = .ok (.getfield 39, 3) := by decide +kernel
theorem dX7_keep_25 : decode cX7_keep 25 = .ok (.invokevirtual 295, 3) := by decide +kernel
theorem dX7_keep_28 : decode cX7_keep 28 = .ok (.aload_n 0, 1) := by decide +kernel
theorem dX7_keep_29 : decode cX7_keep 29 = .ok (.getfield 52, 3) := by decide +kernel
theorem dX7_keep_32 : decode cX7_keep 32 = .ok (.iload_n 1, 1) := by decide +kernel
theorem dX7_keep_33 : decode cX7_keep 33 = .ok (.aaload, 1) := by decide +kernel
theorem dX7_keep_34 : decode cX7_keep 34 = .ok (.aload_n 0, 1) := by decide +kernel
theorem dX7_keep_35 : decode cX7_keep 35 = .ok (.getfield 289, 3) := by decide +kernel
theorem dX7_keep_38 : decode cX7_keep 38 = .ok (.putfield 298, 3) := by decide +kernel
theorem dX7_keep_41 : decode cX7_keep 41 = .ok (.aload_n 0, 1) := by decide +kernel
theorem dX7_keep_42 : decode cX7_keep 42 = .ok (.getfield 52, 3) := by decide +kernel
theorem dX7_keep_45 : decode cX7_keep 45 = .ok (.iload_n 1, 1) := by decide +kernel
theorem dX7_keep_46 : decode cX7_keep 46 = .ok (.aaload, 1) := by decide +kernel
theorem dX7_keep_47 : decode cX7_keep 47 = .ok (.iconst 1, 1) := by decide +kernel
theorem dX7_keep_48 : decode cX7_keep 48 = .ok (.putfield 299, 3) := by decide +kernel
theorem dX7_keep_51 : decode cX7_keep 51 = .ok (.aload_n 0, 1) := by decide +kernel
theorem dX7_keep_52 : decode cX7_keep 52 = .ok (.getfield 46, 3) := by decide +kernel
theorem dX7_keep_55 : decode cX7_keep 55 = .ok (.iconst 0, 1) := by decide +kernel
theorem dX7_keep_56 : decode cX7_keep 56 = .ok (.putfield 135, 3) := by decide +kernel
theorem dX7_keep_59 : decode cX7_keep 59 = .ok (.iconst 1, 1) := by decide +kernel
theorem dX7_keep_60 : decode cX7_keep 60 = .ok (.ireturn, 1) := by decide +kernel
theorem dX7_goBack_0 : decode cX7_goBack 0 = .ok (.iload_n 1, 1) := by decide +kernel
theorem dX7_goBack_1 : decode cX7_goBack 1 = .ok (.ifCond .lt 8, 3) := by decide +kernel
theorem dX7_goBack_4 : decode cX7_goBack 4 = .ok (.iload_n 1, 1) := by decide +kernel
theorem dX7_goBack_5 : decode cX7_goBack 5 = .ok (.iconst 2, 1) := by decide +kernel
theorem dX7_goBack_6 : decode cX7_goBack 6 = .ok (.if_icmp .lt 6, 3) := by decide +kernel
theorem dX7_goBack_9 : decode cX7_goBack 9 = .ok (.ldc 146, 2) := by decide +kernel
theorem dX7_goBack_11 : decode cX7_goBack 11 = .ok (.ireturn, 1) := by decide +kernel
theorem dX7_goBack_12 : decode cX7_goBack 12 = .ok (.aload_n 0, 1) := by decide +kernel
theorem dX7_goBack_13 : decode cX7_goBack 13 = .ok (.getfield 52, 3) := by decide +kernel
theorem dX7_goBack_16 : decode cX7_goBack 16 = .ok (.iload_n 1, 1) := by decide +kernel
theorem dX7_goBack_17 : decode cX7_goBack 17 = .ok (.aaload, 1) := by decide +kernel
theorem dX7_goBack_18 : decode cX7_goBack 18 = .ok (.getfield 299, 3) := by decide +kernel
theorem dX7_goBack_21 : decode cX7_goBack 21 = .ok (.ifCond .ne 6, 3) := by decide +kernel
theorem dX7_goBack_24 : decode cX7_goBack 24 = .ok (.ldc 189, 2) := by decide +kernel
theorem dX7_goBack_26 : decode cX7_goBack 26 = .ok (.ireturn, 1) := by decide +kernel
theorem dX7_goBack_27 : decode cX7_goBack 27 = .ok (.aload_n 0, 1) := by decide +kernel
theorem dX7_goBack_28 : decode cX7_goBack 28 = .ok (.getfield 39, 3) := by decide +kernel
theorem dX7_goBack_31 : decode cX7_goBack 31 = .ok (.aload_n 0, 1) := by decide +kernel
theorem dX7_goBack_32 : decode cX7_goBack 32 = .ok (.getfield 52, 3) := by decide +kernel
theorem dX7_goBack_35 : decode cX7_goBack 35 = .ok (.iload_n 1, 1) := by decide +kernel
theorem dX7_goBack_36 : decode cX7_goBack 36 = .ok (.aaload, 1) := by decide +kernel
theorem dX7_goBack_37 : decode cX7_goBack 37 = .ok (.getfield 292, 3) := by decide +kernel
theorem dX7_goBack_40 : decode cX7_goBack 40 = .ok (.invokevirtual 295, 3) := by decide +kernel
theorem dX7_goBack_43 : decode cX7_goBack 43 = .ok (.aload_n 0, 1) := by decide +kernel
theorem dX7_goBack_44 : decode cX7_goBack 44 = .ok (.aload_n 0, 1) := by decide +kernel
theorem dX7_goBack_45 : decode cX7_goBack 45 = .ok (.getfield 52, 3) := by decide +kernel
theorem dX7_goBack_48 : decode cX7_goBack 48 = .ok (.iload_n 1, 1) := by decide +kernel
theorem dX7_goBack_49 : decode cX7_goBack 49 = .ok (.aaload, 1) := by decide +kernel
theorem dX7_goBack_50 : decode cX7_goBack 50 = .ok (.getfield 298, 3) := by decide +kernel
theorem dX7_goBack_53 : decode cX7_goBack 53 = .ok (.putfield 289, 3) := by decide +kernel
theorem dX7_goBack_56 : decode cX7_goBack 56 = .ok (.aload_n 0, 1) := by decide +kernel
theorem dX7_goBack_57 : decode cX7_goBack 57 = .ok (.getfield 46, 3) := by decide +kernel
theorem dX7_goBack_60 : decode cX7_goBack 60 = .ok (.iconst 0, 1) := by decide +kernel
theorem dX7_goBack_61 : decode cX7_goBack 61 = .ok (.putfield 135, 3) := by decide +kernel
theorem dX7_goBack_64 : decode cX7_goBack 64 = .ok (.aload_n 0, 1) := by decide +kernel
theorem dX7_goBack_65 : decode cX7_goBack 65 = .ok (.invokevirtual 92, 3) := by decide +kernel
theorem dX7_goBack_68 : decode cX7_goBack 68 = .ok (.iconst 1, 1) := by decide +kernel
theorem dX7_goBack_69 : decode cX7_goBack 69 = .ok (.ireturn, 1) := by decide +kernel
theorem dX7_hasWheel_0 : decode cX7_hasWheel 0 = .ok (.iload_n 1, 1) := by decide +kernel
theorem dX7_hasWheel_1 : decode cX7_hasWheel 1 = .ok (.ifCond .lt 18, 3) := by decide +kernel
theorem dX7_hasWheel_4 : decode cX7_hasWheel 4 = .ok (.iload_n 1, 1) := by decide +kernel
theorem dX7_hasWheel_5 : decode cX7_hasWheel 5 = .ok (.aload_n 0, 1) := by decide +kernel
theorem dX7_hasWheel_6 : decode cX7_hasWheel 6 = .ok (.getfield 19, 3) := by decide +kernel
theorem dX7_hasWheel_9 : decode cX7_hasWheel 9 = .ok (.getfield 95, 3) := by decide +kernel
theorem dX7_hasWheel_12 : decode cX7_hasWheel 12 = .ok (.if_icmp .ge 7, 3) := by decide +kernel
theorem dX7_hasWheel_15 : decode cX7_hasWheel 15 = .ok (.iconst 1, 1) := by decide +kernel
theorem dX7_hasWheel_16 : decode cX7_hasWheel 16 = .ok (.goto 4, 3) := by decide +kernel
theorem dX7_hasWheel_19 : decode cX7_hasWheel 19 = .ok (.iconst 0, 1) := by decide +kernel
theorem dX7_hasWheel_20 : decode cX7_hasWheel 20 = .ok (.ireturn, 1) := by decide +kernel
theorem dX7_hasLink_0 : decode cX7_hasLink 0 = .ok (.iload_n 1, 1) := by decide +kernel
theorem dX7_hasLink_1 : decode cX7_hasLink 1 = .ok (.ifCond .lt 18, 3) := by decide +kernel
theorem dX7_hasLink_4 : decode cX7_hasLink 4 = .ok (.iload_n 1, 1) := by decide +kernel
theorem dX7_hasLink_5 : decode cX7_hasLink 5 = .ok (.aload_n 0, 1) := by decide +kernel
theorem dX7_hasLink_6 : decode cX7_hasLink 6 = .ok (.getfield 19, 3) := by decide +kernel
theorem dX7_hasLink_9 : decode cX7_hasLink 9 = .ok (.getfield 101, 3) := by decide +kernel
theorem dX7_hasLink_12 : decode cX7_hasLink 12 = .ok (.if_icmp .ge 7, 3) := by decide +kernel
theorem dX7_hasLink_15 : decode cX7_hasLink 15 = .ok (.iconst 1, 1) := by decide +kernel
theorem dX7_hasLink_16 : decode cX7_hasLink 16 = .ok (.goto 4, 3) := by decide +kernel
theorem dX7_hasLink_19 : decode cX7_hasLink 19 = .ok (.iconst 0, 1) := by decide +kernel
theorem dX7_hasLink_20 : decode cX7_hasLink 20 = .ok (.ireturn, 1) := by decide +kernel
theorem dX7_hasFeast_0 : decode cX7_hasFeast 0 = .ok (.iload_n 1, 1) := by decide +kernel
theorem dX7_hasFeast_1 : decode cX7_hasFeast 1 = .ok (.ifCond .lt 18, 3) := by decide +kernel
theorem dX7_hasFeast_4 : decode cX7_hasFeast 4 = .ok (.iload_n 1, 1) := by decide +kernel
theorem dX7_hasFeast_5 : decode cX7_hasFeast 5 = .ok (.aload_n 0, 1) := by decide +kernel
theorem dX7_hasFeast_6 : decode cX7_hasFeast 6 = .ok (.getfield 19, 3) := by decide +kernel
theorem dX7_hasFeast_9 : decode cX7_hasFeast 9 = .ok (.getfield 104, 3) := by decide +kernel
theorem dX7_hasFeast_12 : decode cX7_hasFeast 12 = .ok (.if_icmp .ge 7, 3) := by decide +kernel
theorem dX7_hasFeast_15 : decode cX7_hasFeast 15 = .ok (.iconst 1, 1) := by decide +kernel
theorem dX7_hasFeast_16 : decode cX7_hasFeast 16 = .ok (.goto 4, 3) := by decide +kernel
theorem dX7_hasFeast_19 : decode cX7_hasFeast 19 = .ok (.iconst 0, 1) := by decide +kernel
theorem dX7_hasFeast_20 : decode cX7_hasFeast 20 = .ok (.ireturn, 1) := by decide +kernel
theorem dX7_areTwoWheels_0 : decode cX7_areTwoWheels 0 = .ok (.aload_n 0, 1) := by decide +kernel
theorem dX7_areTwoWheels_1 : decode cX7_areTwoWheels 1 = .ok (.iload_n 1, 1) := by decide +kernel
theorem dX7_areTwoWheels_2 : decode cX7_areTwoWheels 2 = .ok (.invokevirtual 142, 3) := by decide +kernel
theorem dX7_areTwoWheels_5 : decode cX7_areTwoWheels 5 = .ok (.ifCond .eq 20, 3) := by decide +kernel
theorem dX7_areTwoWheels_8 : decode cX7_areTwoWheels 8 = .ok (.aload_n 0, 1) := by decide +kernel
theorem dX7_areTwoWheels_9 : decode cX7_areTwoWheels 9 = .ok (.iload_n 2, 1) := by decide +kernel
theorem dX7_areTwoWheels_10 : decode cX7_areTwoWheels 10 = .ok (.invokevirtual 142, 3) := by decide +kernel
theorem dX7_areTwoWheels_13 : decode cX7_areTwoWheels 13 = .ok (.ifCond .eq 12, 3) := by decide +kernel
theorem dX7_areTwoWheels_16 : decode cX7_areTwoWheels 16 = .ok (.iload_n 1, 1) := by decide +kernel
theorem dX7_areTwoWheels_17 : decode cX7_areTwoWheels 17 = .ok (.iload_n 2, 1) := by decide +kernel
theorem dX7_areTwoWheels_18 : decode cX7_areTwoWheels 18 = .ok (.if_icmp .eq 7, 3) := by decide +kernel
theorem dX7_areTwoWheels_21 : decode cX7_areTwoWheels 21 = .ok (.iconst 1, 1) := by decide +kernel
theorem dX7_areTwoWheels_22 : decode cX7_areTwoWheels 22 = .ok (.goto 4, 3) := by decide +kernel
theorem dX7_areTwoWheels_25 : decode cX7_areTwoWheels 25 = .ok (.iconst 0, 1) := by decide +kernel
theorem dX7_areTwoWheels_26 : decode cX7_areTwoWheels 26 = .ok (.ireturn, 1) := by decide +kernel
theorem dX7_hasBitsBeyond_0 : decode cX7_hasBitsBeyond 0 = .ok (.iload_n 0, 1) := by decide +kernel
theorem dX7_hasBitsBeyond_1 : decode cX7_hasBitsBeyond 1 = .ok (.iload_n 1, 1) := by decide +kernel
theorem dX7_hasBitsBeyond_2 : decode cX7_hasBitsBeyond 2 = .ok (.ishr, 1) := by decide +kernel
theorem dX7_hasBitsBeyond_3 : decode cX7_hasBitsBeyond 3 = .ok (.ifCond .eq 7, 3) := by decide +kernel
theorem dX7_hasBitsBeyond_6 : decode cX7_hasBitsBeyond 6 = .ok (.iconst 1, 1) := by decide +kernel
theorem dX7_hasBitsBeyond_7 : decode cX7_hasBitsBeyond 7 = .ok (.goto 4, 3) := by decide +kernel
theorem dX7_hasBitsBeyond_10 : decode cX7_hasBitsBeyond 10 = .ok (.iconst 0, 1) := by decide +kernel
theorem dX7_hasBitsBeyond_11 : decode cX7_hasBitsBeyond 11 = .ok (.ireturn, 1) := by decide +kernel
theorem dX7_isOn_0 : decode cX7_isOn 0 = .ok (.aload_n 0, 1) := by decide +kernel
theorem dX7_isOn_1 : decode cX7_isOn 1 = .ok (.getfield 39, 3) := by decide +kernel
theorem dX7_isOn_4 : decode cX7_isOn 4 = .ok (.getfield 126, 3) := by decide +kernel
theorem dX7_isOn_7 : decode cX7_isOn 7 = .ok (.iload_n 1, 1) := by decide +kernel
theorem dX7_isOn_8 : decode cX7_isOn 8 = .ok (.ishr, 1) := by decide +kernel
theorem dX7_isOn_9 : decode cX7_isOn 9 = .ok (.iconst 1, 1) := by decide +kernel
theorem dX7_isOn_10 : decode cX7_isOn 10 = .ok (.iand, 1) := by decide +kernel
theorem dX7_isOn_11 : decode cX7_isOn 11 = .ok (.ifCond .ne 7, 3) := by decide +kernel
theorem dX7_isOn_14 : decode cX7_isOn 14 = .ok (.iconst 1, 1) := by decide +kernel
theorem dX7_isOn_15 : decode cX7_isOn 15 = .ok (.goto 4, 3) := by decide +kernel
theorem dX7_isOn_18 : decode cX7_isOn 18 = .ok (.iconst 0, 1) := by decide +kernel
theorem dX7_isOn_19 : decode cX7_isOn 19 = .ok (.ireturn, 1) := by decide +kernel
theorem dX7_linksOn_0 : decode cX7_linksOn 0 = .ok (.iconst 1, 1) := by decide +kernel
theorem dX7_linksOn_1 : decode cX7_linksOn 1 = .ok (.aload_n 0, 1) := by decide +kernel
theorem dX7_linksOn_2 : decode cX7_linksOn 2 = .ok (.getfield 19, 3) := by decide +kernel
theorem dX7_linksOn_5 : decode cX7_linksOn 5 = .ok (.getfield 101, 3) := by decide +kernel
theorem dX7_linksOn_8 : decode cX7_linksOn 8 = .ok (.ishl, 1) := by decide +kernel
theorem dX7_linksOn_9 : decode cX7_linksOn 9 = .ok (.iconst 1, 1) := by decide +kernel
theorem dX7_linksOn_10 : decode cX7_linksOn 10 = .ok (.isub, 1) := by decide +kernel
theorem dX7_linksOn_11 : decode cX7_linksOn 11 = .ok (.aload_n 0, 1) := by decide +kernel
theorem dX7_linksOn_12 : decode cX7_linksOn 12 = .ok (.getfield 39, 3) := by decide +kernel
theorem dX7_linksOn_15 : decode cX7_linksOn 15 = .ok (.getfield 126, 3) := by decide +kernel
theorem dX7_linksOn_18 : decode cX7_linksOn 18 = .ok (.iconst (-1), 1) := by decide +kernel
theorem dX7_linksOn_19 : decode cX7_linksOn 19 = .ok (.ixor, 1) := by decide +kernel
theorem dX7_linksOn_20 : decode cX7_linksOn 20 = .ok (.iand, 1) := by decide +kernel
theorem dX7_linksOn_21 : decode cX7_linksOn 21 = .ok (.ireturn, 1) := by decide +kernel
theorem dX7_beginClock_0 : decode cX7_beginClock 0 = .ok (.aload_n 0, 1) := by decide +kernel
theorem dX7_beginClock_1 : decode cX7_beginClock 1 = .ok (.getfield 39, 3) := by decide +kernel
theorem dX7_beginClock_4 : decode cX7_beginClock 4 = .ok (.iconst 0, 1) := by decide +kernel
theorem dX7_beginClock_5 : decode cX7_beginClock 5 = .ok (.putfield 110, 3) := by decide +kernel
theorem dX7_beginClock_8 : decode cX7_beginClock 8 = .ok (.aload_n 0, 1) := by decide +kernel
theorem dX7_beginClock_9 : decode cX7_beginClock 9 = .ok (.getfield 39, 3) := by decide +kernel
theorem dX7_beginClock_12 : decode cX7_beginClock 12 = .ok (.iconst 0, 1) := by decide +kernel
theorem dX7_beginClock_13 : decode cX7_beginClock 13 = .ok (.putfield 113, 3) := by decide +kernel
theorem dX7_beginClock_16 : decode cX7_beginClock 16 = .ok (.aload_n 0, 1) := by decide +kernel
theorem dX7_beginClock_17 : decode cX7_beginClock 17 = .ok (.getfield 39, 3) := by decide +kernel
theorem dX7_beginClock_20 : decode cX7_beginClock 20 = .ok (.iconst 0, 1) := by decide +kernel
theorem dX7_beginClock_21 : decode cX7_beginClock 21 = .ok (.putfield 126, 3) := by decide +kernel
theorem dX7_beginClock_24 : decode cX7_beginClock 24 = .ok (.aload_n 0, 1) := by decide +kernel
theorem dX7_beginClock_25 : decode cX7_beginClock 25 = .ok (.getfield 19, 3) := by decide +kernel
theorem dX7_beginClock_28 : decode cX7_beginClock 28 = .ok (.getfield 301, 3) := by decide +kernel
theorem dX7_beginClock_31 : decode cX7_beginClock 31 = .ok (.iconst 0, 1) := by decide +kernel
theorem dX7_beginClock_32 : decode cX7_beginClock 32 = .ok (.aload_n 0, 1) := by decide +kernel
theorem dX7_beginClock_33 : decode cX7_beginClock 33 = .ok (.getfield 39, 3) := by decide +kernel
theorem dX7_beginClock_36 : decode cX7_beginClock 36 = .ok (.getfield 203, 3) := by decide +kernel
theorem dX7_beginClock_39 : decode cX7_beginClock 39 = .ok (.iconst 0, 1) := by decide +kernel
theorem dX7_beginClock_40 : decode cX7_beginClock 40 = .ok (.bipush 8, 2) := by decide +kernel
theorem dX7_beginClock_42 : decode cX7_beginClock 42 = .ok (.invokestatic 304, 3) := by decide +kernel
theorem dX7_beginClock_45 : decode cX7_beginClock 45 = .ok (.aload_n 0, 1) := by decide +kernel
theorem dX7_beginClock_46 : decode cX7_beginClock 46 = .ok (.getfield 61, 3) := by decide +kernel
theorem dX7_beginClock_49 : decode cX7_beginClock 49 = .ok (.iconst 0, 1) := by decide +kernel
theorem dX7_beginClock_50 : decode cX7_beginClock 50 = .ok (.putfield 132, 3) := by decide +kernel
theorem dX7_beginClock_53 : decode cX7_beginClock 53 = .ok (.aload_n 0, 1) := by decide +kernel
theorem dX7_beginClock_54 : decode cX7_beginClock 54 = .ok (.getfield 65, 3) := by decide +kernel
theorem dX7_beginClock_57 : decode cX7_beginClock 57 = .ok (.iconst 0, 1) := by decide +kernel
theorem dX7_beginClock_58 : decode cX7_beginClock 58 = .ok (.putfield 132, 3) := by decide +kernel
theorem dX7_beginClock_61 : decode cX7_beginClock 61 = .ok (.aload_n 0, 1) := by decide +kernel
theorem dX7_beginClock_62 : decode cX7_beginClock 62 = .ok (.getfield 46, 3) := by decide +kernel
theorem dX7_beginClock_65 : decode cX7_beginClock 65 = .ok (.iconst 0, 1) := by decide +kernel
theorem dX7_beginClock_66 : decode cX7_beginClock 66 = .ok (.putfield 135, 3) := by decide +kernel
theorem dX7_beginClock_69 : decode cX7_beginClock 69 = .ok (.iconst 0, 1) := by decide +kernel
theorem dX7_beginClock_70 : decode cX7_beginClock 70 = .ok (.istore_n 1, 1) := by decide +kernel
theorem dX7_beginClock_71 : decode cX7_beginClock 71 = .ok (.iload_n 1, 1) := by decide +kernel
theorem dX7_beginClock_72 : decode cX7_beginClock 72 = .ok (.iconst 2, 1) := by decide +kernel
theorem dX7_beginClock_73 : decode cX7_beginClock 73 = .ok (.if_icmp .ge 19, 3) := by decide +kernel
theorem dX7_beginClock_76 : decode cX7_beginClock 76 = .ok (.aload_n 0, 1) := by decide +kernel
theorem dX7_beginClock_77 : decode cX7_beginClock 77 = .ok (.getfield 52, 3) := by decide +kernel
theorem dX7_beginClock_80 : decode cX7_beginClock 80 = .ok (.iload_n 1, 1) := by decide +kernel
theorem dX7_beginClock_81 : decode cX7_beginClock 81 = .ok (.aaload, 1) := by decide +kernel
theorem dX7_beginClock_82 : decode cX7_beginClock 82 = .ok (.iconst 0, 1) := by decide +kernel
theorem dX7_beginClock_83 : decode cX7_beginClock 83 = .ok (.putfield 299, 3) := by decide +kernel
theorem dX7_beginClock_86 : decode cX7_beginClock 86 = .ok (.iinc 1 1, 3) := by decide +kernel
theorem dX7_beginClock_89 : decode cX7_beginClock 89 = .ok (.goto (-18), 3) := by decide +kernel
theorem dX7_beginClock_92 : decode cX7_beginClock 92 = .ok (.return_, 1) := by decide +kernel
theorem dX7_reckonNow_0 : decode cX7_reckonNow 0 = .ok (.aload_n 0, 1) := by decide +kernel
theorem dX7_reckonNow_1 : decode cX7_reckonNow 1 = .ok (.getfield 29, 3) := by decide +kernel
theorem dX7_reckonNow_4 : decode cX7_reckonNow 4 = .ok (.aload_n 0, 1) := by decide +kernel
theorem dX7_reckonNow_5 : decode cX7_reckonNow 5 = .ok (.getfield 19, 3) := by decide +kernel
theorem dX7_reckonNow_8 : decode cX7_reckonNow 8 = .ok (.aload_n 0, 1) := by decide +kernel
theorem dX7_reckonNow_9 : decode cX7_reckonNow 9 = .ok (.invokevirtual 310, 3) := by decide +kernel
theorem dX7_reckonNow_12 : decode cX7_reckonNow 12 = .ok (.iconst 0, 1) := by decide +kernel
theorem dX7_reckonNow_13 : decode cX7_reckonNow 13 = .ok (.invokevirtual 313, 3) := by decide +kernel
theorem dX7_reckonNow_16 : decode cX7_reckonNow 16 = .ok (.return_, 1) := by decide +kernel
theorem dX7_placeIn_0 : decode cX7_placeIn 0 = .ok (.aload_n 0, 1) := by decide +kernel
theorem dX7_placeIn_1 : decode cX7_placeIn 1 = .ok (.getfield 39, 3) := by decide +kernel
theorem dX7_placeIn_4 : decode cX7_placeIn 4 = .ok (.getfield 110, 3) := by decide +kernel
theorem dX7_placeIn_7 : decode cX7_placeIn 7 = .ok (.i2l, 1) := by decide +kernel
theorem dX7_placeIn_8 : decode cX7_placeIn 8 = .ok (.aload_n 0, 1) := by decide +kernel
theorem dX7_placeIn_9 : decode cX7_placeIn 9 = .ok (.getfield 39, 3) := by decide +kernel
theorem dX7_placeIn_12 : decode cX7_placeIn 12 = .ok (.getfield 113, 3) := by decide +kernel
theorem dX7_placeIn_15 : decode cX7_placeIn 15 = .ok (.i2l, 1) := by decide +kernel
theorem dX7_placeIn_16 : decode cX7_placeIn 16 = .ok (.lsub, 1) := by decide +kernel
theorem dX7_placeIn_17 : decode cX7_placeIn 17 = .ok (.iload_n 2, 1) := by decide +kernel
theorem dX7_placeIn_18 : decode cX7_placeIn 18 = .ok (.i2l, 1) := by decide +kernel
theorem dX7_placeIn_19 : decode cX7_placeIn 19 = .ok (.ladd, 1) := by decide +kernel
theorem dX7_placeIn_20 : decode cX7_placeIn 20 = .ok (.lstore_n 3, 1) := by decide +kernel
theorem dX7_placeIn_21 : decode cX7_placeIn 21 = .ok (.aload_n 0, 1) := by decide +kernel
theorem dX7_placeIn_22 : decode cX7_placeIn 22 = .ok (.getfield 39, 3) := by decide +kernel
theorem dX7_placeIn_25 : decode cX7_placeIn 25 = .ok (.getfield 203, 3) := by decide +kernel
theorem dX7_placeIn_28 : decode cX7_placeIn 28 = .ok (.iload_n 1, 1) := by decide +kernel
theorem dX7_placeIn_29 : decode cX7_placeIn 29 = .ok (.iaload, 1) := by decide +kernel
theorem dX7_placeIn_30 : decode cX7_placeIn 30 = .ok (.i2l, 1) := by decide +kernel
theorem dX7_placeIn_31 : decode cX7_placeIn 31 = .ok (.aload_n 0, 1) := by decide +kernel
theorem dX7_placeIn_32 : decode cX7_placeIn 32 = .ok (.iload_n 1, 1) := by decide +kernel
theorem dX7_placeIn_33 : decode cX7_placeIn 33 = .ok (.lload_n 3, 1) := by decide +kernel
theorem dX7_placeIn_34 : decode cX7_placeIn 34 = .ok (.invokevirtual 317, 3) := by decide +kernel
theorem dX7_placeIn_37 : decode cX7_placeIn 37 = .ok (.ladd, 1) := by decide +kernel
theorem dX7_placeIn_38 : decode cX7_placeIn 38 = .ok (.aload_n 0, 1) := by decide +kernel
theorem dX7_placeIn_39 : decode cX7_placeIn 39 = .ok (.getfield 19, 3) := by decide +kernel
theorem dX7_placeIn_42 : decode cX7_placeIn 42 = .ok (.getfield 147, 3) := by decide +kernel
theorem dX7_placeIn_45 : decode cX7_placeIn 45 = .ok (.iload_n 1, 1) := by decide +kernel
theorem dX7_placeIn_46 : decode cX7_placeIn 46 = .ok (.iaload, 1) := by decide +kernel
theorem dX7_placeIn_47 : decode cX7_placeIn 47 = .ok (.i2l, 1) := by decide +kernel
theorem dX7_placeIn_48 : decode cX7_placeIn 48 = .ok (.invokestatic 231, 3) := by decide +kernel
theorem dX7_placeIn_51 : decode cX7_placeIn 51 = .ok (.l2i, 1) := by decide +kernel
theorem dX7_placeIn_52 : decode cX7_placeIn 52 = .ok (.ireturn, 1) := by decide +kernel
theorem dX7_turnedIn_0 : decode cX7_turnedIn 0 = .ok (.aload_n 0, 1) := by decide +kernel
theorem dX7_turnedIn_1 : decode cX7_turnedIn 1 = .ok (.getfield 29, 3) := by decide +kernel
theorem dX7_turnedIn_4 : decode cX7_turnedIn 4 = .ok (.getfield 154, 3) := by decide +kernel
theorem dX7_turnedIn_7 : decode cX7_turnedIn 7 = .ok (.iload_n 1, 1) := by decide +kernel
theorem dX7_turnedIn_8 : decode cX7_turnedIn 8 = .ok (.laload, 1) := by decide +kernel
theorem dX7_turnedIn_9 : decode cX7_turnedIn 9 = .ok (.lload_n 2, 1) := by decide +kernel
theorem dX7_turnedIn_10 : decode cX7_turnedIn 10 = .ok (.lmul, 1) := by decide +kernel
theorem dX7_turnedIn_11 : decode cX7_turnedIn 11 = .ok (.aload_n 0, 1) := by decide +kernel
theorem dX7_turnedIn_12 : decode cX7_turnedIn 12 = .ok (.getfield 29, 3) := by decide +kernel
theorem dX7_turnedIn_15 : decode cX7_turnedIn 15 = .ok (.getfield 158, 3) := by decide +kernel
theorem dX7_turnedIn_18 : decode cX7_turnedIn 18 = .ok (.iload_n 1, 1) := by decide +kernel
theorem dX7_turnedIn_19 : decode cX7_turnedIn 19 = .ok (.laload, 1) := by decide +kernel
theorem dX7_turnedIn_20 : decode cX7_turnedIn 20 = .ok (.invokestatic 227, 3) := by decide +kernel
theorem dX7_turnedIn_23 : decode cX7_turnedIn 23 = .ok (.lreturn, 1) := by decide +kernel
theorem dX7_setMark_0 : decode cX7_setMark 0 = .ok (.iconst 0, 1) := by decide +kernel
theorem dX7_setMark_1 : decode cX7_setMark 1 = .ok (.istore_n 1, 1) := by decide +kernel
theorem dX7_setMark_2 : decode cX7_setMark 2 = .ok (.iload_n 1, 1) := by decide +kernel
theorem dX7_setMark_3 : decode cX7_setMark 3 = .ok (.aload_n 0, 1) := by decide +kernel
theorem dX7_setMark_4 : decode cX7_setMark 4 = .ok (.getfield 19, 3) := by decide +kernel
theorem dX7_setMark_7 : decode cX7_setMark 7 = .ok (.getfield 95, 3) := by decide +kernel
theorem dX7_setMark_10 : decode cX7_setMark 10 = .ok (.if_icmp .ge 24, 3) := by decide +kernel
theorem dX7_setMark_13 : decode cX7_setMark 13 = .ok (.aload_n 0, 1) := by decide +kernel
theorem dX7_setMark_14 : decode cX7_setMark 14 = .ok (.getfield 39, 3) := by decide +kernel
theorem dX7_setMark_17 : decode cX7_setMark 17 = .ok (.getfield 203, 3) := by decide +kernel
theorem dX7_setMark_20 : decode cX7_setMark 20 = .ok (.iload_n 1, 1) := by decide +kernel
theorem dX7_setMark_21 : decode cX7_setMark 21 = .ok (.aload_n 0, 1) := by decide +kernel
theorem dX7_setMark_22 : decode cX7_setMark 22 = .ok (.iload_n 1, 1) := by decide +kernel
theorem dX7_setMark_23 : decode cX7_setMark 23 = .ok (.iconst 0, 1) := by decide +kernel
theorem dX7_setMark_24 : decode cX7_setMark 24 = .ok (.invokevirtual 150, 3) := by decide +kernel
theorem dX7_setMark_27 : decode cX7_setMark 27 = .ok (.iastore, 1) := by decide +kernel
theorem dX7_setMark_28 : decode cX7_setMark 28 = .ok (.iinc 1 1, 3) := by decide +kernel
theorem dX7_setMark_31 : decode cX7_setMark 31 = .ok (.goto (-29), 3) := by decide +kernel
theorem dX7_setMark_34 : decode cX7_setMark 34 = .ok (.aload_n 0, 1) := by decide +kernel
theorem dX7_setMark_35 : decode cX7_setMark 35 = .ok (.getfield 39, 3) := by decide +kernel
theorem dX7_setMark_38 : decode cX7_setMark 38 = .ok (.aload_n 0, 1) := by decide +kernel
theorem dX7_setMark_39 : decode cX7_setMark 39 = .ok (.getfield 39, 3) := by decide +kernel
theorem dX7_setMark_42 : decode cX7_setMark 42 = .ok (.getfield 110, 3) := by decide +kernel
theorem dX7_setMark_45 : decode cX7_setMark 45 = .ok (.putfield 113, 3) := by decide +kernel
theorem dX7_setMark_48 : decode cX7_setMark 48 = .ok (.return_, 1) := by decide +kernel
theorem dX7_push_0 : decode cX7_push 0 = .ok (.aload_n 0, 1) := by decide +kernel
theorem dX7_push_1 : decode cX7_push 1 = .ok (.invokevirtual 196, 3) := by decide +kernel
theorem dX7_push_4 : decode cX7_push 4 = .ok (.aload_n 0, 1) := by decide +kernel
theorem dX7_push_5 : decode cX7_push 5 = .ok (.getfield 39, 3) := by decide +kernel
theorem dX7_push_8 : decode cX7_push 8 = .ok (.getfield 203, 3) := by decide +kernel
theorem dX7_push_11 : decode cX7_push 11 = .ok (.iload_n 1, 1) := by decide +kernel
theorem dX7_push_12 : decode cX7_push 12 = .ok (.aload_n 0, 1) := by decide +kernel
theorem dX7_push_13 : decode cX7_push 13 = .ok (.getfield 39, 3) := by decide +kernel
theorem dX7_push_16 : decode cX7_push 16 = .ok (.getfield 203, 3) := by decide +kernel
theorem dX7_push_19 : decode cX7_push 19 = .ok (.iload_n 1, 1) := by decide +kernel
theorem dX7_push_20 : decode cX7_push 20 = .ok (.iaload, 1) := by decide +kernel
theorem dX7_push_21 : decode cX7_push 21 = .ok (.iload_n 2, 1) := by decide +kernel
theorem dX7_push_22 : decode cX7_push 22 = .ok (.iadd, 1) := by decide +kernel
theorem dX7_push_23 : decode cX7_push 23 = .ok (.i2l, 1) := by decide +kernel
theorem dX7_push_24 : decode cX7_push 24 = .ok (.aload_n 0, 1) := by decide +kernel
theorem dX7_push_25 : decode cX7_push 25 = .ok (.getfield 19, 3) := by decide +kernel
theorem dX7_push_28 : decode cX7_push 28 = .ok (.getfield 147, 3) := by decide +kernel
theorem dX7_push_31 : decode cX7_push 31 = .ok (.iload_n 1, 1) := by decide +kernel
theorem dX7_push_32 : decode cX7_push 32 = .ok (.iaload, 1) := by decide +kernel
theorem dX7_push_33 : decode cX7_push 33 = .ok (.i2l, 1) := by decide +kernel
theorem dX7_push_34 : decode cX7_push 34 = .ok (.invokestatic 231, 3) := by decide +kernel
theorem dX7_push_37 : decode cX7_push 37 = .ok (.l2i, 1) := by decide +kernel
theorem dX7_push_38 : decode cX7_push 38 = .ok (.iastore, 1) := by decide +kernel
theorem dX7_push_39 : decode cX7_push 39 = .ok (.return_, 1) := by decide +kernel
theorem dX7_draw_0 : decode cX7_draw 0 = .ok (.aload_n 0, 1) := by decide +kernel
theorem dX7_draw_1 : decode cX7_draw 1 = .ok (.aload_n 0, 1) := by decide +kernel
theorem dX7_draw_2 : decode cX7_draw 2 = .ok (.getfield 289, 3) := by decide +kernel
theorem dX7_draw_5 : decode cX7_draw 5 = .ok (.ldc_w 321, 3) := by decide +kernel
theorem dX7_draw_8 : decode cX7_draw 8 = .ok (.imul, 1) := by decide +kernel
theorem dX7_draw_9 : decode cX7_draw 9 = .ok (.sipush 12345, 3) := by decide +kernel
theorem dX7_draw_12 : decode cX7_draw 12 = .ok (.iadd, 1) := by decide +kernel
theorem dX7_draw_13 : decode cX7_draw 13 = .ok (.ldc_w 322, 3) := by decide +kernel
theorem dX7_draw_16 : decode cX7_draw 16 = .ok (.iand, 1) := by decide +kernel
theorem dX7_draw_17 : decode cX7_draw 17 = .ok (.putfield 289, 3) := by decide +kernel
theorem dX7_draw_20 : decode cX7_draw 20 = .ok (.aload_n 0, 1) := by decide +kernel
theorem dX7_draw_21 : decode cX7_draw 21 = .ok (.getfield 289, 3) := by decide +kernel
theorem dX7_draw_24 : decode cX7_draw 24 = .ok (.ldc_w 323, 3) := by decide +kernel
theorem dX7_draw_27 : decode cX7_draw 27 = .ok (.idiv, 1) := by decide +kernel
theorem dX7_draw_28 : decode cX7_draw 28 = .ok (.i2l, 1) := by decide +kernel
theorem dX7_draw_29 : decode cX7_draw 29 = .ok (.iload_n 1, 1) := by decide +kernel
theorem dX7_draw_30 : decode cX7_draw 30 = .ok (.i2l, 1) := by decide +kernel
theorem dX7_draw_31 : decode cX7_draw 31 = .ok (.invokestatic 231, 3) := by decide +kernel
theorem dX7_draw_34 : decode cX7_draw 34 = .ok (.l2i, 1) := by decide +kernel
theorem dX7_draw_35 : decode cX7_draw 35 = .ok (.ireturn, 1) := by decide +kernel
theorem dX7_feastsToday_0 : decode cX7_feastsToday 0 = .ok (.iconst 0, 1) := by decide +kernel
theorem dX7_feastsToday_1 : decode cX7_feastsToday 1 = .ok (.istore_n 1, 1) := by decide +kernel
theorem dX7_feastsToday_2 : decode cX7_feastsToday 2 = .ok (.iconst 0, 1) := by decide +kernel
theorem dX7_feastsToday_3 : decode cX7_feastsToday 3 = .ok (.istore_n 2, 1) := by decide +kernel
theorem dX7_feastsToday_4 : decode cX7_feastsToday 4 = .ok (.iload_n 2, 1) := by decide +kernel
theorem dX7_feastsToday_5 : decode cX7_feastsToday 5 = .ok (.aload_n 0, 1) := by decide +kernel
theorem dX7_feastsToday_6 : decode cX7_feastsToday 6 = .ok (.getfield 19, 3) := by decide +kernel
theorem dX7_feastsToday_9 : decode cX7_feastsToday 9 = .ok (.getfield 104, 3) := by decide +kernel
theorem dX7_feastsToday_12 : decode cX7_feastsToday 12 = .ok (.if_icmp .ge 26, 3) := by decide +kernel
theorem dX7_feastsToday_15 : decode cX7_feastsToday 15 = .ok (.aload_n 0, 1) := by decide +kernel
theorem dX7_feastsToday_16 : decode cX7_feastsToday 16 = .ok (.iconst 0, 1) := by decide +kernel
theorem dX7_feastsToday_17 : decode cX7_feastsToday 17 = .ok (.iconst 1, 1) := by decide +kernel
theorem dX7_feastsToday_18 : decode cX7_feastsToday 18 = .ok (.iload_n 2, 1) := by decide +kernel
theorem dX7_feastsToday_19 : decode cX7_feastsToday 19 = .ok (.ishl, 1) := by decide +kernel
theorem dX7_feastsToday_20 : decode cX7_feastsToday 20 = .ok (.invokevirtual 324, 3) := by decide +kernel
theorem dX7_feastsToday_23 : decode cX7_feastsToday 23 = .ok (.ifCond .eq 9, 3) := by decide +kernel
theorem dX7_feastsToday_26 : decode cX7_feastsToday 26 = .ok (.iload_n 1, 1) := by decide +kernel
theorem dX7_feastsToday_27 : decode cX7_feastsToday 27 = .ok (.iconst 1, 1) := by decide +kernel
theorem dX7_feastsToday_28 : decode cX7_feastsToday 28 = .ok (.iload_n 2, 1) := by decide +kernel
theorem dX7_feastsToday_29 : decode cX7_feastsToday 29 = .ok (.ishl, 1) := by decide +kernel
theorem dX7_feastsToday_30 : decode cX7_feastsToday 30 = .ok (.ior, 1) := by decide +kernel
theorem dX7_feastsToday_31 : decode cX7_feastsToday 31 = .ok (.istore_n 1, 1) := by decide +kernel
theorem dX7_feastsToday_32 : decode cX7_feastsToday 32 = .ok (.iinc 2 1, 3) := by decide +kernel
theorem dX7_feastsToday_35 : decode cX7_feastsToday 35 = .ok (.goto (-31), 3) := by decide +kernel
theorem dX7_feastsToday_38 : decode cX7_feastsToday 38 = .ok (.iload_n 1, 1) := by decide +kernel
theorem dX7_feastsToday_39 : decode cX7_feastsToday 39 = .ok (.ireturn, 1) := by decide +kernel
theorem dX7_areAllIn_0 : decode cX7_areAllIn 0 = .ok (.iconst 0, 1) := by decide +kernel
theorem dX7_areAllIn_1 : decode cX7_areAllIn 1 = .ok (.istore_n 3, 1) := by decide +kernel
theorem dX7_areAllIn_2 : decode cX7_areAllIn 2 = .ok (.iload_n 3, 1) := by decide +kernel
theorem dX7_areAllIn_3 : decode cX7_areAllIn 3 = .ok (.aload_n 0, 1) := by decide +kernel
theorem dX7_areAllIn_4 : decode cX7_areAllIn 4 = .ok (.getfield 19, 3) := by decide +kernel
theorem dX7_areAllIn_7 : decode cX7_areAllIn 7 = .ok (.getfield 104, 3) := by decide +kernel
theorem dX7_areAllIn_10 : decode cX7_areAllIn 10 = .ok (.if_icmp .ge 46, 3) := by decide +kernel
theorem dX7_areAllIn_13 : decode cX7_areAllIn 13 = .ok (.iload_n 2, 1) := by decide +kernel
theorem dX7_areAllIn_14 : decode cX7_areAllIn 14 = .ok (.iload_n 3, 1) := by decide +kernel
theorem dX7_areAllIn_15 : decode cX7_areAllIn 15 = .ok (.ishr, 1) := by decide +kernel
theorem dX7_areAllIn_16 : decode cX7_areAllIn 16 = .ok (.iconst 1, 1) := by decide +kernel
theorem dX7_areAllIn_17 : decode cX7_areAllIn 17 = .ok (.iand, 1) := by decide +kernel
theorem dX7_areAllIn_18 : decode cX7_areAllIn 18 = .ok (.iconst 1, 1) := by decide +kernel
theorem dX7_areAllIn_19 : decode cX7_areAllIn 19 = .ok (.if_icmp .ne 31, 3) := by decide +kernel
theorem dX7_areAllIn_22 : decode cX7_areAllIn 22 = .ok (.aload_n 0, 1) := by decide +kernel
theorem dX7_areAllIn_23 : decode cX7_areAllIn 23 = .ok (.aload_n 0, 1) := by decide +kernel
theorem dX7_areAllIn_24 : decode cX7_areAllIn 24 = .ok (.getfield 19, 3) := by decide +kernel
theorem dX7_areAllIn_27 : decode cX7_areAllIn 27 = .ok (.getfield 182, 3) := by decide +kernel
theorem dX7_areAllIn_30 : decode cX7_areAllIn 30 = .ok (.iload_n 3, 1) := by decide +kernel
theorem dX7_areAllIn_31 : decode cX7_areAllIn 31 = .ok (.iaload, 1) := by decide +kernel
theorem dX7_areAllIn_32 : decode cX7_areAllIn 32 = .ok (.iload_n 1, 1) := by decide +kernel
theorem dX7_areAllIn_33 : decode cX7_areAllIn 33 = .ok (.invokevirtual 150, 3) := by decide +kernel
theorem dX7_areAllIn_36 : decode cX7_areAllIn 36 = .ok (.aload_n 0, 1) := by decide +kernel
theorem dX7_areAllIn_37 : decode cX7_areAllIn 37 = .ok (.getfield 19, 3) := by decide +kernel
theorem dX7_areAllIn_40 : decode cX7_areAllIn 40 = .ok (.getfield 185, 3) := by decide +kernel
theorem dX7_areAllIn_43 : decode cX7_areAllIn 43 = .ok (.iload_n 3, 1) := by decide +kernel
theorem dX7_areAllIn_44 : decode cX7_areAllIn 44 = .ok (.iaload, 1) := by decide +kernel
theorem dX7_areAllIn_45 : decode cX7_areAllIn 45 = .ok (.if_icmp .eq 5, 3) := by decide +kernel
theorem dX7_areAllIn_48 : decode cX7_areAllIn 48 = .ok (.iconst 0, 1) := by decide +kernel
theorem dX7_areAllIn_49 : decode cX7_areAllIn 49 = .ok (.ireturn, 1) := by decide +kernel
theorem dX7_areAllIn_50 : decode cX7_areAllIn 50 = .ok (.iinc 3 1, 3) := by decide +kernel
theorem dX7_areAllIn_53 : decode cX7_areAllIn 53 = .ok (.goto (-51), 3) := by decide +kernel
theorem dX7_areAllIn_56 : decode cX7_areAllIn 56 = .ok (.iconst 1, 1) := by decide +kernel
theorem dX7_areAllIn_57 : decode cX7_areAllIn 57 = .ok (.ireturn, 1) := by decide +kernel
theorem dX7_dayOfAll_0 : decode cX7_dayOfAll 0 = .ok (.aload_n 0, 1) := by decide +kernel
theorem dX7_dayOfAll_1 : decode cX7_dayOfAll 1 = .ok (.iload_n 1, 1) := by decide +kernel
theorem dX7_dayOfAll_2 : decode cX7_dayOfAll 2 = .ok (.invokevirtual 327, 3) := by decide +kernel
theorem dX7_dayOfAll_5 : decode cX7_dayOfAll 5 = .ok (.istore_n 3, 1) := by decide +kernel
theorem dX7_dayOfAll_6 : decode cX7_dayOfAll 6 = .ok (.iload_n 3, 1) := by decide +kernel
theorem dX7_dayOfAll_7 : decode cX7_dayOfAll 7 = .ok (.iconst (-1), 1) := by decide +kernel
theorem dX7_dayOfAll_8 : decode cX7_dayOfAll 8 = .ok (.if_icmp .ne 18, 3) := by decide +kernel
theorem dX7_dayOfAll_11 : decode cX7_dayOfAll 11 = .ok (.aload_n 0, 1) := by decide +kernel
theorem dX7_dayOfAll_12 : decode cX7_dayOfAll 12 = .ok (.iconst 0, 1) := by decide +kernel
theorem dX7_dayOfAll_13 : decode cX7_dayOfAll 13 = .ok (.iload_n 1, 1) := by decide +kernel
theorem dX7_dayOfAll_14 : decode cX7_dayOfAll 14 = .ok (.invokevirtual 324, 3) := by decide +kernel
theorem dX7_dayOfAll_17 : decode cX7_dayOfAll 17 = .ok (.ifCond .eq 7, 3) := by decide +kernel
theorem dX7_dayOfAll_20 : decode cX7_dayOfAll 20 = .ok (.iconst 0, 1) := by decide +kernel
theorem dX7_dayOfAll_21 : decode cX7_dayOfAll 21 = .ok (.goto 4, 3) := by decide +kernel
theorem dX7_dayOfAll_24 : decode cX7_dayOfAll 24 = .ok (.iconst (-1), 1) := by decide +kernel
theorem dX7_dayOfAll_25 : decode cX7_dayOfAll 25 = .ok (.ireturn, 1) := by decide +kernel
theorem dX7_dayOfAll_26 : decode cX7_dayOfAll 26 = .ok (.iload_n 2, 1) := by decide +kernel
theorem dX7_dayOfAll_27 : decode cX7_dayOfAll 27 = .ok (.i2l, 1) := by decide +kernel
theorem dX7_dayOfAll_28 : decode cX7_dayOfAll 28 = .ok (.aload_n 0, 1) := by decide +kernel
theorem dX7_dayOfAll_29 : decode cX7_dayOfAll 29 = .ok (.aload_n 0, 1) := by decide +kernel
theorem dX7_dayOfAll_30 : decode cX7_dayOfAll 30 = .ok (.iload_n 1, 1) := by decide +kernel
theorem dX7_dayOfAll_31 : decode cX7_dayOfAll 31 = .ok (.invokevirtual 330, 3) := by decide +kernel
theorem dX7_dayOfAll_34 : decode cX7_dayOfAll 34 = .ok (.invokevirtual 221, 3) := by decide +kernel
theorem dX7_dayOfAll_37 : decode cX7_dayOfAll 37 = .ok (.lconst 1, 1) := by decide +kernel
theorem dX7_dayOfAll_38 : decode cX7_dayOfAll 38 = .ok (.lsub, 1) := by decide +kernel
theorem dX7_dayOfAll_39 : decode cX7_dayOfAll 39 = .ok (.invokestatic 333, 3) := by decide +kernel
theorem dX7_dayOfAll_42 : decode cX7_dayOfAll 42 = .ok (.lstore 4, 2) := by decide +kernel
theorem dX7_dayOfAll_44 : decode cX7_dayOfAll 44 = .ok (.aload_n 0, 1) := by decide +kernel
theorem dX7_dayOfAll_45 : decode cX7_dayOfAll 45 = .ok (.getfield 19, 3) := by decide +kernel
theorem dX7_dayOfAll_48 : decode cX7_dayOfAll 48 = .ok (.getfield 182, 3) := by decide +kernel
theorem dX7_dayOfAll_51 : decode cX7_dayOfAll 51 = .ok (.iload_n 3, 1) := by decide +kernel
theorem dX7_dayOfAll_52 : decode cX7_dayOfAll 52 = .ok (.iaload, 1) := by decide +kernel
theorem dX7_dayOfAll_53 : decode cX7_dayOfAll 53 = .ok (.istore 6, 2) := by decide +kernel
theorem dX7_dayOfAll_55 : decode cX7_dayOfAll 55 = .ok (.aload_n 0, 1) := by decide +kernel
theorem dX7_dayOfAll_56 : decode cX7_dayOfAll 56 = .ok (.getfield 29, 3) := by decide +kernel
theorem dX7_dayOfAll_59 : decode cX7_dayOfAll 59 = .ok (.getfield 158, 3) := by decide +kernel
theorem dX7_dayOfAll_62 : decode cX7_dayOfAll 62 = .ok (.iload 6, 2) := by decide +kernel
theorem dX7_dayOfAll_64 : decode cX7_dayOfAll 64 = .ok (.laload, 1) := by decide +kernel
theorem dX7_dayOfAll_65 : decode cX7_dayOfAll 65 = .ok (.lstore 7, 2) := by decide +kernel
theorem dX7_dayOfAll_67 : decode cX7_dayOfAll 67 = .ok (.lload 7, 2) := by decide +kernel
theorem dX7_dayOfAll_69 : decode cX7_dayOfAll 69 = .ok (.aload_n 0, 1) := by decide +kernel
theorem dX7_dayOfAll_70 : decode cX7_dayOfAll 70 = .ok (.getfield 19, 3) := by decide +kernel
theorem dX7_dayOfAll_73 : decode cX7_dayOfAll 73 = .ok (.getfield 147, 3) := by decide +kernel
theorem dX7_dayOfAll_76 : decode cX7_dayOfAll 76 = .ok (.iload 6, 2) := by decide +kernel
theorem dX7_dayOfAll_78 : decode cX7_dayOfAll 78 = .ok (.iaload, 1) := by decide +kernel
theorem dX7_dayOfAll_79 : decode cX7_dayOfAll 79 = .ok (.i2l, 1) := by decide +kernel
theorem dX7_dayOfAll_80 : decode cX7_dayOfAll 80 = .ok (.lmul, 1) := by decide +kernel
theorem dX7_dayOfAll_81 : decode cX7_dayOfAll 81 = .ok (.lstore 9, 2) := by decide +kernel
theorem dX7_dayOfAll_83 : decode cX7_dayOfAll 83 = .ok (.aload_n 0, 1) := by decide +kernel
theorem dX7_dayOfAll_84 : decode cX7_dayOfAll 84 = .ok (.getfield 29, 3) := by decide +kernel
theorem dX7_dayOfAll_87 : decode cX7_dayOfAll 87 = .ok (.getfield 154, 3) := by decide +kernel
theorem dX7_dayOfAll_90 : decode cX7_dayOfAll 90 = .ok (.iload 6, 2) := by decide +kernel
theorem dX7_dayOfAll_92 : decode cX7_dayOfAll 92 = .ok (.laload, 1) := by decide +kernel
theorem dX7_dayOfAll_93 : decode cX7_dayOfAll 93 = .ok (.lload 9, 2) := by decide +kernel
theorem dX7_dayOfAll_95 : decode cX7_dayOfAll 95 = .ok (.invokestatic 231, 3) := by decide +kernel
theorem dX7_dayOfAll_98 : decode cX7_dayOfAll 98 = .ok (.lstore 11, 2) := by decide +kernel
theorem dX7_dayOfAll_100 : decode cX7_dayOfAll 100 = .ok (.aload_n 0, 1) := by decide +kernel
theorem dX7_dayOfAll_101 : decode cX7_dayOfAll 101 = .ok (.getfield 39, 3) := by decide +kernel
theorem dX7_dayOfAll_104 : decode cX7_dayOfAll 104 = .ok (.getfield 203, 3) := by decide +kernel
theorem dX7_dayOfAll_107 : decode cX7_dayOfAll 107 = .ok (.iload 6, 2) := by decide +kernel
theorem dX7_dayOfAll_109 : decode cX7_dayOfAll 109 = .ok (.iaload, 1) := by decide +kernel
theorem dX7_dayOfAll_110 : decode cX7_dayOfAll 110 = .ok (.i2l, 1) := by decide +kernel
theorem dX7_dayOfAll_111 : decode cX7_dayOfAll 111 = .ok (.lload 7, 2) := by decide +kernel
theorem dX7_dayOfAll_113 : decode cX7_dayOfAll 113 = .ok (.lmul, 1) := by decide +kernel
theorem dX7_dayOfAll_114 : decode cX7_dayOfAll 114 = .ok (.aload_n 0, 1) := by decide +kernel
theorem dX7_dayOfAll_115 : decode cX7_dayOfAll 115 = .ok (.getfield 29, 3) := by decide +kernel
theorem dX7_dayOfAll_118 : decode cX7_dayOfAll 118 = .ok (.getfield 154, 3) := by decide +kernel
theorem dX7_dayOfAll_121 : decode cX7_dayOfAll 121 = .ok (.iload 6, 2) := by decide +kernel
theorem dX7_dayOfAll_123 : decode cX7_dayOfAll 123 = .ok (.laload, 1) := by decide +kernel
theorem dX7_dayOfAll_124 : decode cX7_dayOfAll 124 = .ok (.aload_n 0, 1) := by decide +kernel
theorem dX7_dayOfAll_125 : decode cX7_dayOfAll 125 = .ok (.getfield 39, 3) := by decide +kernel
theorem dX7_dayOfAll_128 : decode cX7_dayOfAll 128 = .ok (.getfield 110, 3) := by decide +kernel
theorem dX7_dayOfAll_131 : decode cX7_dayOfAll 131 = .ok (.i2l, 1) := by decide +kernel
theorem dX7_dayOfAll_132 : decode cX7_dayOfAll 132 = .ok (.aload_n 0, 1) := by decide +kernel
theorem dX7_dayOfAll_133 : decode cX7_dayOfAll 133 = .ok (.getfield 39, 3) := by decide +kernel
theorem dX7_dayOfAll_136 : decode cX7_dayOfAll 136 = .ok (.getfield 113, 3) := by decide +kernel
theorem dX7_dayOfAll_139 : decode cX7_dayOfAll 139 = .ok (.i2l, 1) := by decide +kernel
theorem dX7_dayOfAll_140 : decode cX7_dayOfAll 140 = .ok (.lsub, 1) := by decide +kernel
theorem dX7_dayOfAll_141 : decode cX7_dayOfAll 141 = .ok (.lmul, 1) := by decide +kernel
theorem dX7_dayOfAll_142 : decode cX7_dayOfAll 142 = .ok (.ladd, 1) := by decide +kernel
theorem dX7_dayOfAll_143 : decode cX7_dayOfAll 143 = .ok (.lload 9, 2) := by decide +kernel
theorem dX7_dayOfAll_145 : decode cX7_dayOfAll 145 = .ok (.invokestatic 231, 3) := by decide +kernel
theorem dX7_dayOfAll_148 : decode cX7_dayOfAll 148 = .ok (.lstore 13, 2) := by decide +kernel
theorem dX7_dayOfAll_150 : decode cX7_dayOfAll 150 = .ok (.aload_n 0, 1) := by decide +kernel
theorem dX7_dayOfAll_151 : decode cX7_dayOfAll 151 = .ok (.getfield 19, 3) := by decide +kernel
theorem dX7_dayOfAll_154 : decode cX7_dayOfAll 154 = .ok (.getfield 185, 3) := by decide +kernel
theorem dX7_dayOfAll_157 : decode cX7_dayOfAll 157 = .ok (.iload_n 3, 1) := by decide +kernel
theorem dX7_dayOfAll_158 : decode cX7_dayOfAll 158 = .ok (.iaload, 1) := by decide +kernel
theorem dX7_dayOfAll_159 : decode cX7_dayOfAll 159 = .ok (.i2l, 1) := by decide +kernel
theorem dX7_dayOfAll_160 : decode cX7_dayOfAll 160 = .ok (.lload 7, 2) := by decide +kernel
theorem dX7_dayOfAll_162 : decode cX7_dayOfAll 162 = .ok (.lmul, 1) := by decide +kernel
theorem dX7_dayOfAll_163 : decode cX7_dayOfAll 163 = .ok (.lstore 15, 2) := by decide +kernel
theorem dX7_dayOfAll_165 : decode cX7_dayOfAll 165 = .ok (.iconst 0, 1) := by decide +kernel
theorem dX7_dayOfAll_166 : decode cX7_dayOfAll 166 = .ok (.istore 17, 2) := by decide +kernel
theorem dX7_dayOfAll_168 : decode cX7_dayOfAll 168 = .ok (.iload 17, 2) := by decide +kernel
theorem dX7_dayOfAll_170 : decode cX7_dayOfAll 170 = .ok (.i2l, 1) := by decide +kernel
theorem dX7_dayOfAll_171 : decode cX7_dayOfAll 171 = .ok (.lload 4, 2) := by decide +kernel
theorem dX7_dayOfAll_173 : decode cX7_dayOfAll 173 = .ok (.lcmp, 1) := by decide +kernel
theorem dX7_dayOfAll_174 : decode cX7_dayOfAll 174 = .ok (.ifCond .gt 63, 3) := by decide +kernel
theorem dX7_dayOfAll_177 : decode cX7_dayOfAll 177 = .ok (.lload 13, 2) := by decide +kernel
theorem dX7_dayOfAll_179 : decode cX7_dayOfAll 179 = .ok (.lload 15, 2) := by decide +kernel
theorem dX7_dayOfAll_181 : decode cX7_dayOfAll 181 = .ok (.lcmp, 1) := by decide +kernel
theorem dX7_dayOfAll_182 : decode cX7_dayOfAll 182 = .ok (.ifCond .lt 27, 3) := by decide +kernel
theorem dX7_dayOfAll_185 : decode cX7_dayOfAll 185 = .ok (.lload 13, 2) := by decide +kernel
theorem dX7_dayOfAll_187 : decode cX7_dayOfAll 187 = .ok (.lload 15, 2) := by decide +kernel
theorem dX7_dayOfAll_189 : decode cX7_dayOfAll 189 = .ok (.lload 7, 2) := by decide +kernel
theorem dX7_dayOfAll_191 : decode cX7_dayOfAll 191 = .ok (.ladd, 1) := by decide +kernel
theorem dX7_dayOfAll_192 : decode cX7_dayOfAll 192 = .ok (.lcmp, 1) := by decide +kernel
theorem dX7_dayOfAll_193 : decode cX7_dayOfAll 193 = .ok (.ifCond .ge 16, 3) := by decide +kernel
theorem dX7_dayOfAll_196 : decode cX7_dayOfAll 196 = .ok (.aload_n 0, 1) := by decide +kernel
theorem dX7_dayOfAll_197 : decode cX7_dayOfAll 197 = .ok (.iload 17, 2) := by decide +kernel
theorem dX7_dayOfAll_199 : decode cX7_dayOfAll 199 = .ok (.iload_n 1, 1) := by decide +kernel
theorem dX7_dayOfAll_200 : decode cX7_dayOfAll 200 = .ok (.invokevirtual 324, 3) := by decide +kernel
theorem dX7_dayOfAll_203 : decode cX7_dayOfAll 203 = .ok (.ifCond .eq 6, 3) := by decide +kernel
theorem dX7_dayOfAll_206 : decode cX7_dayOfAll 206 = .ok (.iload 17, 2) := by decide +kernel
theorem dX7_dayOfAll_208 : decode cX7_dayOfAll 208 = .ok (.ireturn, 1) := by decide +kernel
theorem dX7_dayOfAll_209 : decode cX7_dayOfAll 209 = .ok (.lload 13, 2) := by decide +kernel
theorem dX7_dayOfAll_211 : decode cX7_dayOfAll 211 = .ok (.lload 11, 2) := by decide +kernel
theorem dX7_dayOfAll_213 : decode cX7_dayOfAll 213 = .ok (.ladd, 1) := by decide +kernel
theorem dX7_dayOfAll_214 : decode cX7_dayOfAll 214 = .ok (.lstore 13, 2) := by decide +kernel
theorem dX7_dayOfAll_216 : decode cX7_dayOfAll 216 = .ok (.lload 13, 2) := by decide +kernel
theorem dX7_dayOfAll_218 : decode cX7_dayOfAll 218 = .ok (.lload 9, 2) := by decide +kernel
theorem dX7_dayOfAll_220 : decode cX7_dayOfAll 220 = .ok (.lcmp, 1) := by decide +kernel
theorem dX7_dayOfAll_221 : decode cX7_dayOfAll 221 = .ok (.ifCond .lt 10, 3) := by decide +kernel
theorem dX7_dayOfAll_224 : decode cX7_dayOfAll 224 = .ok (.lload 13, 2) := by decide +kernel
theorem dX7_dayOfAll_226 : decode cX7_dayOfAll 226 = .ok (.lload 9, 2) := by decide +kernel
theorem dX7_dayOfAll_228 : decode cX7_dayOfAll 228 = .ok (.lsub, 1) := by decide +kernel
theorem dX7_dayOfAll_229 : decode cX7_dayOfAll 229 = .ok (.lstore 13, 2) := by decide +kernel
theorem dX7_dayOfAll_231 : decode cX7_dayOfAll 231 = .ok (.iinc 17 1, 3) := by decide +kernel
theorem dX7_dayOfAll_234 : decode cX7_dayOfAll 234 = .ok (.goto (-66), 3) := by decide +kernel
theorem dX7_dayOfAll_237 : decode cX7_dayOfAll 237 = .ok (.iconst (-1), 1) := by decide +kernel
theorem dX7_dayOfAll_238 : decode cX7_dayOfAll 238 = .ok (.ireturn, 1) := by decide +kernel
theorem dX7_leaderOf_0 : decode cX7_leaderOf 0 = .ok (.iconst (-1), 1) := by decide +kernel
theorem dX7_leaderOf_1 : decode cX7_leaderOf 1 = .ok (.istore_n 2, 1) := by decide +kernel
theorem dX7_leaderOf_2 : decode cX7_leaderOf 2 = .ok (.iconst 0, 1) := by decide +kernel
theorem dX7_leaderOf_3 : decode cX7_leaderOf 3 = .ok (.istore_n 3, 1) := by decide +kernel
theorem dX7_leaderOf_4 : decode cX7_leaderOf 4 = .ok (.iconst 0, 1) := by decide +kernel
theorem dX7_leaderOf_5 : decode cX7_leaderOf 5 = .ok (.istore 4, 2) := by decide +kernel
theorem dX7_leaderOf_7 : decode cX7_leaderOf 7 = .ok (.iload 4, 2) := by decide +kernel
theorem dX7_leaderOf_9 : decode cX7_leaderOf 9 = .ok (.aload_n 0, 1) := by decide +kernel
theorem dX7_leaderOf_10 : decode cX7_leaderOf 10 = .ok (.getfield 19, 3) := by decide +kernel
theorem dX7_leaderOf_13 : decode cX7_leaderOf 13 = .ok (.getfield 104, 3) := by decide +kernel
theorem dX7_leaderOf_16 : decode cX7_leaderOf 16 = .ok (.if_icmp .ge 71, 3) := by decide +kernel
theorem dX7_leaderOf_19 : decode cX7_leaderOf 19 = .ok (.aload_n 0, 1) := by decide +kernel
theorem dX7_leaderOf_20 : decode cX7_leaderOf 20 = .ok (.getfield 19, 3) := by decide +kernel
theorem dX7_leaderOf_23 : decode cX7_leaderOf 23 = .ok (.getfield 182, 3) := by decide +kernel
theorem dX7_leaderOf_26 : decode cX7_leaderOf 26 = .ok (.iload 4, 2) := by decide +kernel
theorem dX7_leaderOf_28 : decode cX7_leaderOf 28 = .ok (.iaload, 1) := by decide +kernel
theorem dX7_leaderOf_29 : decode cX7_leaderOf 29 = .ok (.istore 5, 2) := by decide +kernel
theorem dX7_leaderOf_31 : decode cX7_leaderOf 31 = .ok (.iload_n 1, 1) := by decide +kernel
theorem dX7_leaderOf_32 : decode cX7_leaderOf 32 = .ok (.iload 4, 2) := by decide +kernel
theorem dX7_leaderOf_34 : decode cX7_leaderOf 34 = .ok (.ishr, 1) := by decide +kernel
theorem dX7_leaderOf_35 : decode cX7_leaderOf 35 = .ok (.iconst 1, 1) := by decide +kernel
theorem dX7_leaderOf_36 : decode cX7_leaderOf 36 = .ok (.iand, 1) := by decide +kernel
theorem dX7_leaderOf_37 : decode cX7_leaderOf 37 = .ok (.iconst 1, 1) := by decide +kernel
theorem dX7_leaderOf_38 : decode cX7_leaderOf 38 = .ok (.if_icmp .ne 43, 3) := by decide +kernel
theorem dX7_leaderOf_41 : decode cX7_leaderOf 41 = .ok (.aload_n 0, 1) := by decide +kernel
theorem dX7_leaderOf_42 : decode cX7_leaderOf 42 = .ok (.getfield 29, 3) := by decide +kernel
theorem dX7_leaderOf_45 : decode cX7_leaderOf 45 = .ok (.iload 5, 2) := by decide +kernel
theorem dX7_leaderOf_47 : decode cX7_leaderOf 47 = .ok (.invokevirtual 240, 3) := by decide +kernel
theorem dX7_leaderOf_50 : decode cX7_leaderOf 50 = .ok (.ifCond .eq 31, 3) := by decide +kernel
theorem dX7_leaderOf_53 : decode cX7_leaderOf 53 = .ok (.aload_n 0, 1) := by decide +kernel
theorem dX7_leaderOf_54 : decode cX7_leaderOf 54 = .ok (.getfield 19, 3) := by decide +kernel
theorem dX7_leaderOf_57 : decode cX7_leaderOf 57 = .ok (.getfield 147, 3) := by decide +kernel
theorem dX7_leaderOf_60 : decode cX7_leaderOf 60 = .ok (.iload 5, 2) := by decide +kernel
theorem dX7_leaderOf_62 : decode cX7_leaderOf 62 = .ok (.iaload, 1) := by decide +kernel
theorem dX7_leaderOf_63 : decode cX7_leaderOf 63 = .ok (.iload_n 3, 1) := by decide +kernel
theorem dX7_leaderOf_64 : decode cX7_leaderOf 64 = .ok (.if_icmp .le 17, 3) := by decide +kernel
theorem dX7_leaderOf_67 : decode cX7_leaderOf 67 = .ok (.iload 4, 2) := by decide +kernel
theorem dX7_leaderOf_69 : decode cX7_leaderOf 69 = .ok (.istore_n 2, 1) := by decide +kernel
theorem dX7_leaderOf_70 : decode cX7_leaderOf 70 = .ok (.aload_n 0, 1) := by decide +kernel
theorem dX7_leaderOf_71 : decode cX7_leaderOf 71 = .ok (.getfield 19, 3) := by decide +kernel
theorem dX7_leaderOf_74 : decode cX7_leaderOf 74 = .ok (.getfield 147, 3) := by decide +kernel
theorem dX7_leaderOf_77 : decode cX7_leaderOf 77 = .ok (.iload 5, 2) := by decide +kernel
theorem dX7_leaderOf_79 : decode cX7_leaderOf 79 = .ok (.iaload, 1) := by decide +kernel
theorem dX7_leaderOf_80 : decode cX7_leaderOf 80 = .ok (.istore_n 3, 1) := by decide +kernel
theorem dX7_leaderOf_81 : decode cX7_leaderOf 81 = .ok (.iinc 4 1, 3) := by decide +kernel
theorem dX7_leaderOf_84 : decode cX7_leaderOf 84 = .ok (.goto (-77), 3) := by decide +kernel
theorem dX7_leaderOf_87 : decode cX7_leaderOf 87 = .ok (.iload_n 2, 1) := by decide +kernel
theorem dX7_leaderOf_88 : decode cX7_leaderOf 88 = .ok (.ireturn, 1) := by decide +kernel
theorem dX7_wheelsOf_0 : decode cX7_wheelsOf 0 = .ok (.iconst 0, 1) := by decide +kernel
theorem dX7_wheelsOf_1 : decode cX7_wheelsOf 1 = .ok (.istore_n 2, 1) := by decide +kernel
theorem dX7_wheelsOf_2 : decode cX7_wheelsOf 2 = .ok (.iconst 0, 1) := by decide +kernel
theorem dX7_wheelsOf_3 : decode cX7_wheelsOf 3 = .ok (.istore_n 3, 1) := by decide +kernel
theorem dX7_wheelsOf_4 : decode cX7_wheelsOf 4 = .ok (.iload_n 3, 1) := by decide +kernel
theorem dX7_wheelsOf_5 : decode cX7_wheelsOf 5 = .ok (.aload_n 0, 1) := by decide +kernel
theorem dX7_wheelsOf_6 : decode cX7_wheelsOf 6 = .ok (.getfield 19, 3) := by decide +kernel
theorem dX7_wheelsOf_9 : decode cX7_wheelsOf 9 = .ok (.getfield 104, 3) := by decide +kernel
theorem dX7_wheelsOf_12 : decode cX7_wheelsOf 12 = .ok (.if_icmp .ge 32, 3) := by decide +kernel
theorem dX7_wheelsOf_15 : decode cX7_wheelsOf 15 = .ok (.iload_n 1, 1) := by decide +kernel
theorem dX7_wheelsOf_16 : decode cX7_wheelsOf 16 = .ok (.iload_n 3, 1) := by decide +kernel
theorem dX7_wheelsOf_17 : decode cX7_wheelsOf 17 = .ok (.ishr, 1) := by decide +kernel
theorem dX7_wheelsOf_18 : decode cX7_wheelsOf 18 = .ok (.iconst 1, 1) := by decide +kernel
theorem dX7_wheelsOf_19 : decode cX7_wheelsOf 19 = .ok (.iand, 1) := by decide +kernel
theorem dX7_wheelsOf_20 : decode cX7_wheelsOf 20 = .ok (.iconst 1, 1) := by decide +kernel
theorem dX7_wheelsOf_21 : decode cX7_wheelsOf 21 = .ok (.if_icmp .ne 17, 3) := by decide +kernel
theorem dX7_wheelsOf_24 : decode cX7_wheelsOf 24 = .ok (.iload_n 2, 1) := by decide +kernel
theorem dX7_wheelsOf_25 : decode cX7_wheelsOf 25 = .ok (.iconst 1, 1) := by decide +kernel
theorem dX7_wheelsOf_26 : decode cX7_wheelsOf 26 = .ok (.aload_n 0, 1) := by decide +kernel
theorem dX7_wheelsOf_27 : decode cX7_wheelsOf 27 = .ok (.getfield 19, 3) := by decide +kernel
theorem dX7_wheelsOf_30 : decode cX7_wheelsOf 30 = .ok (.getfield 182, 3) := by decide +kernel
theorem dX7_wheelsOf_33 : decode cX7_wheelsOf 33 = .ok (.iload_n 3, 1) := by decide +kernel
theorem dX7_wheelsOf_34 : decode cX7_wheelsOf 34 = .ok (.iaload, 1) := by decide +kernel
theorem dX7_wheelsOf_35 : decode cX7_wheelsOf 35 = .ok (.ishl, 1) := by decide +kernel
theorem dX7_wheelsOf_36 : decode cX7_wheelsOf 36 = .ok (.ior, 1) := by decide +kernel
theorem dX7_wheelsOf_37 : decode cX7_wheelsOf 37 = .ok (.istore_n 2, 1) := by decide +kernel
theorem dX7_wheelsOf_38 : decode cX7_wheelsOf 38 = .ok (.iinc 3 1, 3) := by decide +kernel
theorem dX7_wheelsOf_41 : decode cX7_wheelsOf 41 = .ok (.goto (-37), 3) := by decide +kernel
theorem dX7_wheelsOf_44 : decode cX7_wheelsOf 44 = .ok (.iload_n 2, 1) := by decide +kernel
theorem dX7_wheelsOf_45 : decode cX7_wheelsOf 45 = .ok (.ireturn, 1) := by decide +kernel
theorem dX7_roundOf_0 : decode cX7_roundOf 0 = .ok (.iload_n 1, 1) := by decide +kernel
theorem dX7_roundOf_1 : decode cX7_roundOf 1 = .ok (.aload_n 0, 1) := by decide +kernel
theorem dX7_roundOf_2 : decode cX7_roundOf 2 = .ok (.getfield 29, 3) := by decide +kernel
theorem dX7_roundOf_5 : decode cX7_roundOf 5 = .ok (.getfield 129, 3) := by decide +kernel
theorem dX7_roundOf_8 : decode cX7_roundOf 8 = .ok (.iand, 1) := by decide +kernel
theorem dX7_roundOf_9 : decode cX7_roundOf 9 = .ok (.istore_n 2, 1) := by decide +kernel
theorem dX7_roundOf_10 : decode cX7_roundOf 10 = .ok (.iload_n 2, 1) := by decide +kernel
theorem dX7_roundOf_11 : decode cX7_roundOf 11 = .ok (.ifCond .ne 7, 3) := by decide +kernel
theorem dX7_roundOf_14 : decode cX7_roundOf 14 = .ok (.lconst 0, 1) := by decide +kernel
theorem dX7_roundOf_15 : decode cX7_roundOf 15 = .ok (.goto 4, 3) := by decide +kernel
theorem dX7_roundOf_18 : decode cX7_roundOf 18 = .ok (.lconst 1, 1) := by decide +kernel
theorem dX7_roundOf_19 : decode cX7_roundOf 19 = .ok (.lstore_n 3, 1) := by decide +kernel
theorem dX7_roundOf_20 : decode cX7_roundOf 20 = .ok (.iconst 0, 1) := by decide +kernel
theorem dX7_roundOf_21 : decode cX7_roundOf 21 = .ok (.istore 5, 2) := by decide +kernel
theorem dX7_roundOf_23 : decode cX7_roundOf 23 = .ok (.iload 5, 2) := by decide +kernel
theorem dX7_roundOf_25 : decode cX7_roundOf 25 = .ok (.aload_n 0, 1) := by decide +kernel
theorem dX7_roundOf_26 : decode cX7_roundOf 26 = .ok (.getfield 19, 3) := by decide +kernel
theorem dX7_roundOf_29 : decode cX7_roundOf 29 = .ok (.getfield 95, 3) := by decide +kernel
theorem dX7_roundOf_32 : decode cX7_roundOf 32 = .ok (.if_icmp .ge 84, 3) := by decide +kernel
theorem dX7_roundOf_35 : decode cX7_roundOf 35 = .ok (.lload_n 3, 1) := by decide +kernel
theorem dX7_roundOf_36 : decode cX7_roundOf 36 = .ok (.ldc2_w 225, 3) := by decide +kernel
theorem dX7_roundOf_39 : decode cX7_roundOf 39 = .ok (.lcmp, 1) := by decide +kernel
theorem dX7_roundOf_40 : decode cX7_roundOf 40 = .ok (.ifCond .gt 76, 3) := by decide +kernel
theorem dX7_roundOf_43 : decode cX7_roundOf 43 = .ok (.iload_n 2, 1) := by decide +kernel
theorem dX7_roundOf_44 : decode cX7_roundOf 44 = .ok (.iload 5, 2) := by decide +kernel
theorem dX7_roundOf_46 : decode cX7_roundOf 46 = .ok (.ishr, 1) := by decide +kernel
theorem dX7_roundOf_47 : decode cX7_roundOf 47 = .ok (.iconst 1, 1) := by decide +kernel
theorem dX7_roundOf_48 : decode cX7_roundOf 48 = .ok (.iand, 1) := by decide +kernel
theorem dX7_roundOf_49 : decode cX7_roundOf 49 = .ok (.iconst 1, 1) := by decide +kernel
theorem dX7_roundOf_50 : decode cX7_roundOf 50 = .ok (.if_icmp .ne 60, 3) := by decide +kernel
theorem dX7_roundOf_53 : decode cX7_roundOf 53 = .ok (.aload_n 0, 1) := by decide +kernel
theorem dX7_roundOf_54 : decode cX7_roundOf 54 = .ok (.getfield 19, 3) := by decide +kernel
theorem dX7_roundOf_57 : decode cX7_roundOf 57 = .ok (.getfield 147, 3) := by decide +kernel
theorem dX7_roundOf_60 : decode cX7_roundOf 60 = .ok (.iload 5, 2) := by decide +kernel
theorem dX7_roundOf_62 : decode cX7_roundOf 62 = .ok (.iaload, 1) := by decide +kernel
theorem dX7_roundOf_63 : decode cX7_roundOf 63 = .ok (.istore 6, 2) := by decide +kernel
theorem dX7_roundOf_65 : decode cX7_roundOf 65 = .ok (.aload_n 0, 1) := by decide +kernel
theorem dX7_roundOf_66 : decode cX7_roundOf 66 = .ok (.getfield 29, 3) := by decide +kernel
theorem dX7_roundOf_69 : decode cX7_roundOf 69 = .ok (.getfield 158, 3) := by decide +kernel
theorem dX7_roundOf_72 : decode cX7_roundOf 72 = .ok (.iload 5, 2) := by decide +kernel
theorem dX7_roundOf_74 : decode cX7_roundOf 74 = .ok (.laload, 1) := by decide +kernel
theorem dX7_roundOf_75 : decode cX7_roundOf 75 = .ok (.iload 6, 2) := by decide +kernel
theorem dX7_roundOf_77 : decode cX7_roundOf 77 = .ok (.i2l, 1) := by decide +kernel
theorem dX7_roundOf_78 : decode cX7_roundOf 78 = .ok (.lmul, 1) := by decide +kernel
theorem dX7_roundOf_79 : decode cX7_roundOf 79 = .ok (.aload_n 0, 1) := by decide +kernel
theorem dX7_roundOf_80 : decode cX7_roundOf 80 = .ok (.getfield 29, 3) := by decide +kernel
theorem dX7_roundOf_83 : decode cX7_roundOf 83 = .ok (.getfield 154, 3) := by decide +kernel
theorem dX7_roundOf_86 : decode cX7_roundOf 86 = .ok (.iload 5, 2) := by decide +kernel
theorem dX7_roundOf_88 : decode cX7_roundOf 88 = .ok (.laload, 1) := by decide +kernel
theorem dX7_roundOf_89 : decode cX7_roundOf 89 = .ok (.iload 6, 2) := by decide +kernel
theorem dX7_roundOf_91 : decode cX7_roundOf 91 = .ok (.i2l, 1) := by decide +kernel
theorem dX7_roundOf_92 : decode cX7_roundOf 92 = .ok (.invokestatic 338, 3) := by decide +kernel
theorem dX7_roundOf_95 : decode cX7_roundOf 95 = .ok (.ldiv, 1) := by decide +kernel
theorem dX7_roundOf_96 : decode cX7_roundOf 96 = .ok (.lstore 7, 2) := by decide +kernel
theorem dX7_roundOf_98 : decode cX7_roundOf 98 = .ok (.lload_n 3, 1) := by decide +kernel
theorem dX7_roundOf_99 : decode cX7_roundOf 99 = .ok (.lload_n 3, 1) := by decide +kernel
theorem dX7_roundOf_100 : decode cX7_roundOf 100 = .ok (.lload 7, 2) := by decide +kernel
theorem dX7_roundOf_102 : decode cX7_roundOf 102 = .ok (.invokestatic 338, 3) := by decide +kernel
theorem dX7_roundOf_105 : decode cX7_roundOf 105 = .ok (.ldiv, 1) := by decide +kernel
theorem dX7_roundOf_106 : decode cX7_roundOf 106 = .ok (.lload 7, 2) := by decide +kernel
theorem dX7_roundOf_108 : decode cX7_roundOf 108 = .ok (.lmul, 1) := by decide +kernel
theorem dX7_roundOf_109 : decode cX7_roundOf 109 = .ok (.lstore_n 3, 1) := by decide +kernel
theorem dX7_roundOf_110 : decode cX7_roundOf 110 = .ok (.iinc 5 1, 3) := by decide +kernel
theorem dX7_roundOf_113 : decode cX7_roundOf 113 = .ok (.goto (-90), 3) := by decide +kernel
theorem dX7_roundOf_116 : decode cX7_roundOf 116 = .ok (.lload_n 3, 1) := by decide +kernel
theorem dX7_roundOf_117 : decode cX7_roundOf 117 = .ok (.lreturn, 1) := by decide +kernel
theorem dX7_fewestIdlers_0 : decode cX7_fewestIdlers 0 = .ok (.aload_n 0, 1) := by decide +kernel
theorem dX7_fewestIdlers_1 : decode cX7_fewestIdlers 1 = .ok (.invokevirtual 310, 3) := by decide +kernel
theorem dX7_fewestIdlers_4 : decode cX7_fewestIdlers 4 = .ok (.aload_n 0, 1) := by decide +kernel
theorem dX7_fewestIdlers_5 : decode cX7_fewestIdlers 5 = .ok (.getfield 19, 3) := by decide +kernel
theorem dX7_fewestIdlers_8 : decode cX7_fewestIdlers 8 = .ok (.invokevirtual 341, 3) := by decide +kernel
theorem dX7_fewestIdlers_11 : decode cX7_fewestIdlers 11 = .ok (.iand, 1) := by decide +kernel
theorem dX7_fewestIdlers_12 : decode cX7_fewestIdlers 12 = .ok (.istore_n 3, 1) := by decide +kernel
theorem dX7_fewestIdlers_13 : decode cX7_fewestIdlers 13 = .ok (.iload_n 3, 1) := by decide +kernel
theorem dX7_fewestIdlers_14 : decode cX7_fewestIdlers 14 = .ok (.istore 4, 2) := by decide +kernel
theorem dX7_fewestIdlers_16 : decode cX7_fewestIdlers 16 = .ok (.aload_n 0, 1) := by decide +kernel
theorem dX7_fewestIdlers_17 : decode cX7_fewestIdlers 17 = .ok (.iload_n 1, 1) := by decide +kernel
theorem dX7_fewestIdlers_18 : decode cX7_fewestIdlers 18 = .ok (.iload_n 2, 1) := by decide +kernel
theorem dX7_fewestIdlers_19 : decode cX7_fewestIdlers 19 = .ok (.iload_n 3, 1) := by decide +kernel
theorem dX7_fewestIdlers_20 : decode cX7_fewestIdlers 20 = .ok (.invokevirtual 344, 3) := by decide +kernel
theorem dX7_fewestIdlers_23 : decode cX7_fewestIdlers 23 = .ok (.ifCond .ne 5, 3) := by decide +kernel
theorem dX7_fewestIdlers_26 : decode cX7_fewestIdlers 26 = .ok (.iconst (-1), 1) := by decide +kernel
theorem dX7_fewestIdlers_27 : decode cX7_fewestIdlers 27 = .ok (.ireturn, 1) := by decide +kernel
theorem dX7_fewestIdlers_28 : decode cX7_fewestIdlers 28 = .ok (.iconst 0, 1) := by decide +kernel
theorem dX7_fewestIdlers_29 : decode cX7_fewestIdlers 29 = .ok (.istore 5, 2) := by decide +kernel
theorem dX7_fewestIdlers_31 : decode cX7_fewestIdlers 31 = .ok (.iload 5, 2) := by decide +kernel
theorem dX7_fewestIdlers_33 : decode cX7_fewestIdlers 33 = .ok (.iload_n 3, 1) := by decide +kernel
theorem dX7_fewestIdlers_34 : decode cX7_fewestIdlers 34 = .ok (.if_icmp .ge 35, 3) := by decide +kernel
theorem dX7_fewestIdlers_37 : decode cX7_fewestIdlers 37 = .ok (.iload 5, 2) := by decide +kernel
theorem dX7_fewestIdlers_39 : decode cX7_fewestIdlers 39 = .ok (.iload 4, 2) := by decide +kernel
theorem dX7_fewestIdlers_41 : decode cX7_fewestIdlers 41 = .ok (.iload_n 3, 1) := by decide +kernel
theorem dX7_fewestIdlers_42 : decode cX7_fewestIdlers 42 = .ok (.invokestatic 348, 3) := by decide +kernel
theorem dX7_fewestIdlers_45 : decode cX7_fewestIdlers 45 = .ok (.ifCond .eq 18, 3) := by decide +kernel
theorem dX7_fewestIdlers_48 : decode cX7_fewestIdlers 48 = .ok (.aload_n 0, 1) := by decide +kernel
theorem dX7_fewestIdlers_49 : decode cX7_fewestIdlers 49 = .ok (.iload_n 1, 1) := by decide +kernel
theorem dX7_fewestIdlers_50 : decode cX7_fewestIdlers 50 = .ok (.iload_n 2, 1) := by decide +kernel
theorem dX7_fewestIdlers_51 : decode cX7_fewestIdlers 51 = .ok (.iload 5, 2) := by decide +kernel
theorem dX7_fewestIdlers_53 : decode cX7_fewestIdlers 53 = .ok (.invokevirtual 344, 3) := by decide +kernel
theorem dX7_fewestIdlers_56 : decode cX7_fewestIdlers 56 = .ok (.ifCond .eq 7, 3) := by decide +kernel
theorem dX7_fewestIdlers_59 : decode cX7_fewestIdlers 59 = .ok (.iload 5, 2) := by decide +kernel
theorem dX7_fewestIdlers_61 : decode cX7_fewestIdlers 61 = .ok (.istore 4, 2) := by decide +kernel
theorem dX7_fewestIdlers_63 : decode cX7_fewestIdlers 63 = .ok (.iinc 5 1, 3) := by decide +kernel
theorem dX7_fewestIdlers_66 : decode cX7_fewestIdlers 66 = .ok (.goto (-35), 3) := by decide +kernel
theorem dX7_fewestIdlers_69 : decode cX7_fewestIdlers 69 = .ok (.iload 4, 2) := by decide +kernel
theorem dX7_fewestIdlers_71 : decode cX7_fewestIdlers 71 = .ok (.ireturn, 1) := by decide +kernel
theorem dX7_wouldTurnAlike_0 : decode cX7_wouldTurnAlike 0 = .ok (.aload_n 0, 1) := by decide +kernel
theorem dX7_wouldTurnAlike_1 : decode cX7_wouldTurnAlike 1 = .ok (.getfield 33, 3) := by decide +kernel
theorem dX7_wouldTurnAlike_4 : decode cX7_wouldTurnAlike 4 = .ok (.aload_n 0, 1) := by decide +kernel
theorem dX7_wouldTurnAlike_5 : decode cX7_wouldTurnAlike 5 = .ok (.getfield 19, 3) := by decide +kernel
theorem dX7_wouldTurnAlike_8 : decode cX7_wouldTurnAlike 8 = .ok (.aload_n 0, 1) := by decide +kernel
theorem dX7_wouldTurnAlike_9 : decode cX7_wouldTurnAlike 9 = .ok (.invokevirtual 310, 3) := by decide +kernel
theorem dX7_wouldTurnAlike_12 : decode cX7_wouldTurnAlike 12 = .ok (.iload_n 3, 1) := by decide +kernel
theorem dX7_wouldTurnAlike_13 : decode cX7_wouldTurnAlike 13 = .ok (.invokevirtual 313, 3) := by decide +kernel
theorem dX7_wouldTurnAlike_16 : decode cX7_wouldTurnAlike 16 = .ok (.aload_n 0, 1) := by decide +kernel
theorem dX7_wouldTurnAlike_17 : decode cX7_wouldTurnAlike 17 = .ok (.getfield 33, 3) := by decide +kernel
theorem dX7_wouldTurnAlike_20 : decode cX7_wouldTurnAlike 20 = .ok (.iload_n 1, 1) := by decide +kernel
theorem dX7_wouldTurnAlike_21 : decode cX7_wouldTurnAlike 21 = .ok (.invokevirtual 240, 3) := by decide +kernel
theorem dX7_wouldTurnAlike_24 : decode cX7_wouldTurnAlike 24 = .ok (.ifCond .eq 30, 3) := by decide +kernel
theorem dX7_wouldTurnAlike_27 : decode cX7_wouldTurnAlike 27 = .ok (.aload_n 0, 1) := by decide +kernel
theorem dX7_wouldTurnAlike_28 : decode cX7_wouldTurnAlike 28 = .ok (.getfield 33, 3) := by decide +kernel
theorem dX7_wouldTurnAlike_31 : decode cX7_wouldTurnAlike 31 = .ok (.iload_n 2, 1) := by decide +kernel
theorem dX7_wouldTurnAlike_32 : decode cX7_wouldTurnAlike 32 = .ok (.invokevirtual 240, 3) := by decide +kernel
theorem dX7_wouldTurnAlike_35 : decode cX7_wouldTurnAlike 35 = .ok (.ifCond .eq 19, 3) := by decide +kernel
theorem dX7_wouldTurnAlike_38 : decode cX7_wouldTurnAlike 38 = .ok (.aload_n 0, 1) := by decide +kernel
theorem dX7_wouldTurnAlike_39 : decode cX7_wouldTurnAlike 39 = .ok (.getfield 33, 3) := by decide +kernel
theorem dX7_wouldTurnAlike_42 : decode cX7_wouldTurnAlike 42 = .ok (.iload_n 1, 1) := by decide +kernel
theorem dX7_wouldTurnAlike_43 : decode cX7_wouldTurnAlike 43 = .ok (.iload_n 2, 1) := by decide +kernel
theorem dX7_wouldTurnAlike_44 : decode cX7_wouldTurnAlike 44 = .ok (.invokevirtual 243, 3) := by decide +kernel
theorem dX7_wouldTurnAlike_47 : decode cX7_wouldTurnAlike 47 = .ok (.ifCond .eq 7, 3) := by decide +kernel
theorem dX7_wouldTurnAlike_50 : decode cX7_wouldTurnAlike 50 = .ok (.iconst 1, 1) := by decide +kernel
theorem dX7_wouldTurnAlike_51 : decode cX7_wouldTurnAlike 51 = .ok (.goto 4, 3) := by decide +kernel
theorem dX7_wouldTurnAlike_54 : decode cX7_wouldTurnAlike 54 = .ok (.iconst 0, 1) := by decide +kernel
theorem dX7_wouldTurnAlike_55 : decode cX7_wouldTurnAlike 55 = .ok (.ireturn, 1) := by decide +kernel
theorem dX7_fewestCuts_0 : decode cX7_fewestCuts 0 = .ok (.aload_n 0, 1) := by decide +kernel
theorem dX7_fewestCuts_1 : decode cX7_fewestCuts 1 = .ok (.invokevirtual 310, 3) := by decide +kernel
theorem dX7_fewestCuts_4 : decode cX7_fewestCuts 4 = .ok (.istore_n 2, 1) := by decide +kernel
theorem dX7_fewestCuts_5 : decode cX7_fewestCuts 5 = .ok (.iload_n 2, 1) := by decide +kernel
theorem dX7_fewestCuts_6 : decode cX7_fewestCuts 6 = .ok (.istore_n 3, 1) := by decide +kernel
theorem dX7_fewestCuts_7 : decode cX7_fewestCuts 7 = .ok (.iload_n 1, 1) := by decide +kernel
theorem dX7_fewestCuts_8 : decode cX7_fewestCuts 8 = .ok (.aload_n 0, 1) := by decide +kernel
theorem dX7_fewestCuts_9 : decode cX7_fewestCuts 9 = .ok (.getfield 19, 3) := by decide +kernel
theorem dX7_fewestCuts_12 : decode cX7_fewestCuts 12 = .ok (.getfield 116, 3) := by decide +kernel
theorem dX7_fewestCuts_15 : decode cX7_fewestCuts 15 = .ok (.ishr, 1) := by decide +kernel
theorem dX7_fewestCuts_16 : decode cX7_fewestCuts 16 = .ok (.iconst 1, 1) := by decide +kernel
theorem dX7_fewestCuts_17 : decode cX7_fewestCuts 17 = .ok (.iand, 1) := by decide +kernel
theorem dX7_fewestCuts_18 : decode cX7_fewestCuts 18 = .ok (.iconst 1, 1) := by decide +kernel
theorem dX7_fewestCuts_19 : decode cX7_fewestCuts 19 = .ok (.if_icmp .ne 5, 3) := by decide +kernel
theorem dX7_fewestCuts_22 : decode cX7_fewestCuts 22 = .ok (.iconst (-1), 1) := by decide +kernel
theorem dX7_fewestCuts_23 : decode cX7_fewestCuts 23 = .ok (.ireturn, 1) := by decide +kernel
theorem dX7_fewestCuts_24 : decode cX7_fewestCuts 24 = .ok (.iconst 0, 1) := by decide +kernel
theorem dX7_fewestCuts_25 : decode cX7_fewestCuts 25 = .ok (.istore 4, 2) := by decide +kernel
theorem dX7_fewestCuts_27 : decode cX7_fewestCuts 27 = .ok (.iload 4, 2) := by decide +kernel
theorem dX7_fewestCuts_29 : decode cX7_fewestCuts 29 = .ok (.iload_n 2, 1) := by decide +kernel
theorem dX7_fewestCuts_30 : decode cX7_fewestCuts 30 = .ok (.if_icmp .ge 32, 3) := by decide +kernel
theorem dX7_fewestCuts_33 : decode cX7_fewestCuts 33 = .ok (.iload 4, 2) := by decide +kernel
theorem dX7_fewestCuts_35 : decode cX7_fewestCuts 35 = .ok (.iload_n 3, 1) := by decide +kernel
theorem dX7_fewestCuts_36 : decode cX7_fewestCuts 36 = .ok (.iload_n 2, 1) := by decide +kernel
theorem dX7_fewestCuts_37 : decode cX7_fewestCuts 37 = .ok (.invokestatic 348, 3) := by decide +kernel
theorem dX7_fewestCuts_40 : decode cX7_fewestCuts 40 = .ok (.ifCond .eq 16, 3) := by decide +kernel
theorem dX7_fewestCuts_43 : decode cX7_fewestCuts 43 = .ok (.aload_n 0, 1) := by decide +kernel
theorem dX7_fewestCuts_44 : decode cX7_fewestCuts 44 = .ok (.iload_n 1, 1) := by decide +kernel
theorem dX7_fewestCuts_45 : decode cX7_fewestCuts 45 = .ok (.iload 4, 2) := by decide +kernel
theorem dX7_fewestCuts_47 : decode cX7_fewestCuts 47 = .ok (.invokevirtual 351, 3) := by decide +kernel
theorem dX7_fewestCuts_50 : decode cX7_fewestCuts 50 = .ok (.ifCond .eq 6, 3) := by decide +kernel
theorem dX7_fewestCuts_53 : decode cX7_fewestCuts 53 = .ok (.iload 4, 2) := by decide +kernel
theorem dX7_fewestCuts_55 : decode cX7_fewestCuts 55 = .ok (.istore_n 3, 1) := by decide +kernel
theorem dX7_fewestCuts_56 : decode cX7_fewestCuts 56 = .ok (.iinc 4 1, 3) := by decide +kernel
theorem dX7_fewestCuts_59 : decode cX7_fewestCuts 59 = .ok (.goto (-32), 3) := by decide +kernel
theorem dX7_fewestCuts_62 : decode cX7_fewestCuts 62 = .ok (.iload_n 3, 1) := by decide +kernel
theorem dX7_fewestCuts_63 : decode cX7_fewestCuts 63 = .ok (.ireturn, 1) := by decide +kernel
theorem dX7_wouldRest_0 : decode cX7_wouldRest 0 = .ok (.aload_n 0, 1) := by decide +kernel
theorem dX7_wouldRest_1 : decode cX7_wouldRest 1 = .ok (.getfield 33, 3) := by decide +kernel
theorem dX7_wouldRest_4 : decode cX7_wouldRest 4 = .ok (.aload_n 0, 1) := by decide +kernel
theorem dX7_wouldRest_5 : decode cX7_wouldRest 5 = .ok (.getfield 19, 3) := by decide +kernel
theorem dX7_wouldRest_8 : decode cX7_wouldRest 8 = .ok (.aload_n 0, 1) := by decide +kernel
theorem dX7_wouldRest_9 : decode cX7_wouldRest 9 = .ok (.invokevirtual 310, 3) := by decide +kernel
theorem dX7_wouldRest_12 : decode cX7_wouldRest 12 = .ok (.iload_n 2, 1) := by decide +kernel
theorem dX7_wouldRest_13 : decode cX7_wouldRest 13 = .ok (.iconst (-1), 1) := by decide +kernel
theorem dX7_wouldRest_14 : decode cX7_wouldRest 14 = .ok (.ixor, 1) := by decide +kernel
theorem dX7_wouldRest_15 : decode cX7_wouldRest 15 = .ok (.iand, 1) := by decide +kernel
theorem dX7_wouldRest_16 : decode cX7_wouldRest 16 = .ok (.iconst 0, 1) := by decide +kernel
theorem dX7_wouldRest_17 : decode cX7_wouldRest 17 = .ok (.invokevirtual 313, 3) := by decide +kernel
theorem dX7_wouldRest_20 : decode cX7_wouldRest 20 = .ok (.aload_n 0, 1) := by decide +kernel
theorem dX7_wouldRest_21 : decode cX7_wouldRest 21 = .ok (.getfield 33, 3) := by decide +kernel
theorem dX7_wouldRest_24 : decode cX7_wouldRest 24 = .ok (.getfield 122, 3) := by decide +kernel
theorem dX7_wouldRest_27 : decode cX7_wouldRest 27 = .ok (.ifCond .ne 19, 3) := by decide +kernel
theorem dX7_wouldRest_30 : decode cX7_wouldRest 30 = .ok (.aload_n 0, 1) := by decide +kernel
theorem dX7_wouldRest_31 : decode cX7_wouldRest 31 = .ok (.getfield 33, 3) := by decide +kernel
theorem dX7_wouldRest_34 : decode cX7_wouldRest 34 = .ok (.getfield 129, 3) := by decide +kernel
theorem dX7_wouldRest_37 : decode cX7_wouldRest 37 = .ok (.iload_n 1, 1) := by decide +kernel
theorem dX7_wouldRest_38 : decode cX7_wouldRest 38 = .ok (.iand, 1) := by decide +kernel
theorem dX7_wouldRest_39 : decode cX7_wouldRest 39 = .ok (.ifCond .ne 7, 3) := by decide +kernel
theorem dX7_wouldRest_42 : decode cX7_wouldRest 42 = .ok (.iconst 1, 1) := by decide +kernel
theorem dX7_wouldRest_43 : decode cX7_wouldRest 43 = .ok (.goto 4, 3) := by decide +kernel
theorem dX7_wouldRest_46 : decode cX7_wouldRest 46 = .ok (.iconst 0, 1) := by decide +kernel
theorem dX7_wouldRest_47 : decode cX7_wouldRest 47 = .ok (.ireturn, 1) := by decide +kernel
theorem dX7_isFewer_0 : decode cX7_isFewer 0 = .ok (.iload_n 0, 1) := by decide +kernel
theorem dX7_isFewer_1 : decode cX7_isFewer 1 = .ok (.iload_n 2, 1) := by decide +kernel
theorem dX7_isFewer_2 : decode cX7_isFewer 2 = .ok (.iconst (-1), 1) := by decide +kernel
theorem dX7_isFewer_3 : decode cX7_isFewer 3 = .ok (.ixor, 1) := by decide +kernel
theorem dX7_isFewer_4 : decode cX7_isFewer 4 = .ok (.iand, 1) := by decide +kernel
theorem dX7_isFewer_5 : decode cX7_isFewer 5 = .ok (.ifCond .ne 18, 3) := by decide +kernel
theorem dX7_isFewer_8 : decode cX7_isFewer 8 = .ok (.iload_n 0, 1) := by decide +kernel
theorem dX7_isFewer_9 : decode cX7_isFewer 9 = .ok (.invokestatic 275, 3) := by decide +kernel
theorem dX7_isFewer_12 : decode cX7_isFewer 12 = .ok (.iload_n 1, 1) := by decide +kernel
theorem dX7_isFewer_13 : decode cX7_isFewer 13 = .ok (.invokestatic 275, 3) := by decide +kernel
theorem dX7_isFewer_16 : decode cX7_isFewer 16 = .ok (.if_icmp .ge 7, 3) := by decide +kernel
theorem dX7_isFewer_19 : decode cX7_isFewer 19 = .ok (.iconst 1, 1) := by decide +kernel
theorem dX7_isFewer_20 : decode cX7_isFewer 20 = .ok (.goto 4, 3) := by decide +kernel
theorem dX7_isFewer_23 : decode cX7_isFewer 23 = .ok (.iconst 0, 1) := by decide +kernel
theorem dX7_isFewer_24 : decode cX7_isFewer 24 = .ok (.ireturn, 1) := by decide +kernel
theorem dX7_howManyOrWhich_0 : decode cX7_howManyOrWhich 0 = .ok (.iload_n 0, 1) := by decide +kernel
theorem dX7_howManyOrWhich_1 : decode cX7_howManyOrWhich 1 = .ok (.iconst (-1), 1) := by decide +kernel
theorem dX7_howManyOrWhich_2 : decode cX7_howManyOrWhich 2 = .ok (.if_icmp .ne 5, 3) := by decide +kernel
theorem dX7_howManyOrWhich_5 : decode cX7_howManyOrWhich 5 = .ok (.iconst (-1), 1) := by decide +kernel
theorem dX7_howManyOrWhich_6 : decode cX7_howManyOrWhich 6 = .ok (.ireturn, 1) := by decide +kernel
theorem dX7_howManyOrWhich_7 : decode cX7_howManyOrWhich 7 = .ok (.iload_n 1, 1) := by decide +kernel
theorem dX7_howManyOrWhich_8 : decode cX7_howManyOrWhich 8 = .ok (.ifCond .ne 10, 3) := by decide +kernel
theorem dX7_howManyOrWhich_11 : decode cX7_howManyOrWhich 11 = .ok (.iload_n 0, 1) := by decide +kernel
theorem dX7_howManyOrWhich_12 : decode cX7_howManyOrWhich 12 = .ok (.invokestatic 275, 3) := by decide +kernel
theorem dX7_howManyOrWhich_15 : decode cX7_howManyOrWhich 15 = .ok (.goto 4, 3) := by decide +kernel
theorem dX7_howManyOrWhich_18 : decode cX7_howManyOrWhich 18 = .ok (.iload_n 0, 1) := by decide +kernel
theorem dX7_howManyOrWhich_19 : decode cX7_howManyOrWhich 19 = .ok (.ireturn, 1) := by decide +kernel
theorem dX7_howManyOrOne_0 : decode cX7_howManyOrOne 0 = .ok (.iload_n 1, 1) := by decide +kernel
theorem dX7_howManyOrOne_1 : decode cX7_howManyOrOne 1 = .ok (.iconst (-1), 1) := by decide +kernel
theorem dX7_howManyOrOne_2 : decode cX7_howManyOrOne 2 = .ok (.if_icmp .ne 8, 3) := by decide +kernel
theorem dX7_howManyOrOne_5 : decode cX7_howManyOrOne 5 = .ok (.iload_n 0, 1) := by decide +kernel
theorem dX7_howManyOrOne_6 : decode cX7_howManyOrOne 6 = .ok (.invokestatic 275, 3) := by decide +kernel
theorem dX7_howManyOrOne_9 : decode cX7_howManyOrOne 9 = .ok (.ireturn, 1) := by decide +kernel
theorem dX7_howManyOrOne_10 : decode cX7_howManyOrOne 10 = .ok (.iconst 0, 1) := by decide +kernel
theorem dX7_howManyOrOne_11 : decode cX7_howManyOrOne 11 = .ok (.istore_n 2, 1) := by decide +kernel
theorem dX7_howManyOrOne_12 : decode cX7_howManyOrOne 12 = .ok (.iconst 0, 1) := by decide +kernel
theorem dX7_howManyOrOne_13 : decode cX7_howManyOrOne 13 = .ok (.istore_n 3, 1) := by decide +kernel
theorem dX7_howManyOrOne_14 : decode cX7_howManyOrOne 14 = .ok (.iload_n 3, 1) := by decide +kernel
theorem dX7_howManyOrOne_15 : decode cX7_howManyOrOne 15 = .ok (.bipush 30, 2) := by decide +kernel
theorem dX7_howManyOrOne_17 : decode cX7_howManyOrOne 17 = .ok (.if_icmp .gt 28, 3) := by decide +kernel
theorem dX7_howManyOrOne_20 : decode cX7_howManyOrOne 20 = .ok (.iload_n 0, 1) := by decide +kernel
theorem dX7_howManyOrOne_21 : decode cX7_howManyOrOne 21 = .ok (.iload_n 3, 1) := by decide +kernel
theorem dX7_howManyOrOne_22 : decode cX7_howManyOrOne 22 = .ok (.ishr, 1) := by decide +kernel
theorem dX7_howManyOrOne_23 : decode cX7_howManyOrOne 23 = .ok (.iconst 1, 1) := by decide +kernel
theorem dX7_howManyOrOne_24 : decode cX7_howManyOrOne 24 = .ok (.iand, 1) := by decide +kernel
theorem dX7_howManyOrOne_25 : decode cX7_howManyOrOne 25 = .ok (.iconst 1, 1) := by decide +kernel
theorem dX7_howManyOrOne_26 : decode cX7_howManyOrOne 26 = .ok (.if_icmp .ne 13, 3) := by decide +kernel
theorem dX7_howManyOrOne_29 : decode cX7_howManyOrOne 29 = .ok (.iload_n 2, 1) := by decide +kernel
theorem dX7_howManyOrOne_30 : decode cX7_howManyOrOne 30 = .ok (.iload_n 1, 1) := by decide +kernel
theorem dX7_howManyOrOne_31 : decode cX7_howManyOrOne 31 = .ok (.if_icmp .ne 5, 3) := by decide +kernel
theorem dX7_howManyOrOne_34 : decode cX7_howManyOrOne 34 = .ok (.iload_n 3, 1) := by decide +kernel
theorem dX7_howManyOrOne_35 : decode cX7_howManyOrOne 35 = .ok (.ireturn, 1) := by decide +kernel
theorem dX7_howManyOrOne_36 : decode cX7_howManyOrOne 36 = .ok (.iinc 2 1, 3) := by decide +kernel
theorem dX7_howManyOrOne_39 : decode cX7_howManyOrOne 39 = .ok (.iinc 3 1, 3) := by decide +kernel
theorem dX7_howManyOrOne_42 : decode cX7_howManyOrOne 42 = .ok (.goto (-28), 3) := by decide +kernel
theorem dX7_howManyOrOne_45 : decode cX7_howManyOrOne 45 = .ok (.iconst (-1), 1) := by decide +kernel
theorem dX7_howManyOrOne_46 : decode cX7_howManyOrOne 46 = .ok (.ireturn, 1) := by decide +kernel
theorem dX7_teethMet_0 : decode cX7_teethMet 0 = .ok (.aload_n 0, 1) := by decide +kernel
theorem dX7_teethMet_1 : decode cX7_teethMet 1 = .ok (.getfield 19, 3) := by decide +kernel
theorem dX7_teethMet_4 : decode cX7_teethMet 4 = .ok (.getfield 147, 3) := by decide +kernel
theorem dX7_teethMet_7 : decode cX7_teethMet 7 = .ok (.aload_n 0, 1) := by decide +kernel
theorem dX7_teethMet_8 : decode cX7_teethMet 8 = .ok (.getfield 19, 3) := by decide +kernel
theorem dX7_teethMet_11 : decode cX7_teethMet 11 = .ok (.getfield 167, 3) := by decide +kernel
theorem dX7_teethMet_14 : decode cX7_teethMet 14 = .ok (.iload_n 1, 1) := by decide +kernel
theorem dX7_teethMet_15 : decode cX7_teethMet 15 = .ok (.iaload, 1) := by decide +kernel
theorem dX7_teethMet_16 : decode cX7_teethMet 16 = .ok (.iaload, 1) := by decide +kernel
theorem dX7_teethMet_17 : decode cX7_teethMet 17 = .ok (.istore_n 2, 1) := by decide +kernel
theorem dX7_teethMet_18 : decode cX7_teethMet 18 = .ok (.aload_n 0, 1) := by decide +kernel
theorem dX7_teethMet_19 : decode cX7_teethMet 19 = .ok (.getfield 19, 3) := by decide +kernel
theorem dX7_teethMet_22 : decode cX7_teethMet 22 = .ok (.getfield 147, 3) := by decide +kernel
theorem dX7_teethMet_25 : decode cX7_teethMet 25 = .ok (.aload_n 0, 1) := by decide +kernel
theorem dX7_teethMet_26 : decode cX7_teethMet 26 = .ok (.getfield 19, 3) := by decide +kernel
theorem dX7_teethMet_29 : decode cX7_teethMet 29 = .ok (.getfield 170, 3) := by decide +kernel
theorem dX7_teethMet_32 : decode cX7_teethMet 32 = .ok (.iload_n 1, 1) := by decide +kernel
theorem dX7_teethMet_33 : decode cX7_teethMet 33 = .ok (.iaload, 1) := by decide +kernel
theorem dX7_teethMet_34 : decode cX7_teethMet 34 = .ok (.iaload, 1) := by decide +kernel
theorem dX7_teethMet_35 : decode cX7_teethMet 35 = .ok (.istore_n 3, 1) := by decide +kernel
theorem dX7_teethMet_36 : decode cX7_teethMet 36 = .ok (.iload_n 3, 1) := by decide +kernel
theorem dX7_teethMet_37 : decode cX7_teethMet 37 = .ok (.i2l, 1) := by decide +kernel
theorem dX7_teethMet_38 : decode cX7_teethMet 38 = .ok (.iload_n 2, 1) := by decide +kernel
theorem dX7_teethMet_39 : decode cX7_teethMet 39 = .ok (.i2l, 1) := by decide +kernel
theorem dX7_teethMet_40 : decode cX7_teethMet 40 = .ok (.iload_n 3, 1) := by decide +kernel
theorem dX7_teethMet_41 : decode cX7_teethMet 41 = .ok (.i2l, 1) := by decide +kernel
theorem dX7_teethMet_42 : decode cX7_teethMet 42 = .ok (.invokestatic 338, 3) := by decide +kernel
theorem dX7_teethMet_45 : decode cX7_teethMet 45 = .ok (.ldiv, 1) := by decide +kernel
theorem dX7_teethMet_46 : decode cX7_teethMet 46 = .ok (.l2i, 1) := by decide +kernel
theorem dX7_teethMet_47 : decode cX7_teethMet 47 = .ok (.ireturn, 1) := by decide +kernel
theorem dX7_daysToMeet_0 : decode cX7_daysToMeet 0 = .ok (.aload_n 0, 1) := by decide +kernel
theorem dX7_daysToMeet_1 : decode cX7_daysToMeet 1 = .ok (.getfield 19, 3) := by decide +kernel
theorem dX7_daysToMeet_4 : decode cX7_daysToMeet 4 = .ok (.getfield 167, 3) := by decide +kernel
theorem dX7_daysToMeet_7 : decode cX7_daysToMeet 7 = .ok (.iload_n 1, 1) := by decide +kernel
theorem dX7_daysToMeet_8 : decode cX7_daysToMeet 8 = .ok (.iaload, 1) := by decide +kernel
theorem dX7_daysToMeet_9 : decode cX7_daysToMeet 9 = .ok (.istore_n 2, 1) := by decide +kernel
theorem dX7_daysToMeet_10 : decode cX7_daysToMeet 10 = .ok (.aload_n 0, 1) := by decide +kernel
theorem dX7_daysToMeet_11 : decode cX7_daysToMeet 11 = .ok (.iload_n 1, 1) := by decide +kernel
theorem dX7_daysToMeet_12 : decode cX7_daysToMeet 12 = .ok (.invokevirtual 176, 3) := by decide +kernel
theorem dX7_daysToMeet_15 : decode cX7_daysToMeet 15 = .ok (.ifCond .eq 14, 3) := by decide +kernel
theorem dX7_daysToMeet_18 : decode cX7_daysToMeet 18 = .ok (.aload_n 0, 1) := by decide +kernel
theorem dX7_daysToMeet_19 : decode cX7_daysToMeet 19 = .ok (.getfield 29, 3) := by decide +kernel
theorem dX7_daysToMeet_22 : decode cX7_daysToMeet 22 = .ok (.iload_n 2, 1) := by decide +kernel
theorem dX7_daysToMeet_23 : decode cX7_daysToMeet 23 = .ok (.invokevirtual 240, 3) := by decide +kernel
theorem dX7_daysToMeet_26 : decode cX7_daysToMeet 26 = .ok (.ifCond .ne 5, 3) := by decide +kernel
theorem dX7_daysToMeet_29 : decode cX7_daysToMeet 29 = .ok (.iconst (-1), 1) := by decide +kernel
theorem dX7_daysToMeet_30 : decode cX7_daysToMeet 30 = .ok (.ireturn, 1) := by decide +kernel
theorem dX7_daysToMeet_31 : decode cX7_daysToMeet 31 = .ok (.aload_n 0, 1) := by decide +kernel
theorem dX7_daysToMeet_32 : decode cX7_daysToMeet 32 = .ok (.getfield 19, 3) := by decide +kernel
theorem dX7_daysToMeet_35 : decode cX7_daysToMeet 35 = .ok (.getfield 147, 3) := by decide +kernel
theorem dX7_daysToMeet_38 : decode cX7_daysToMeet 38 = .ok (.iload_n 2, 1) := by decide +kernel
theorem dX7_daysToMeet_39 : decode cX7_daysToMeet 39 = .ok (.iaload, 1) := by decide +kernel
theorem dX7_daysToMeet_40 : decode cX7_daysToMeet 40 = .ok (.i2l, 1) := by decide +kernel
theorem dX7_daysToMeet_41 : decode cX7_daysToMeet 41 = .ok (.aload_n 0, 1) := by decide +kernel
theorem dX7_daysToMeet_42 : decode cX7_daysToMeet 42 = .ok (.iload_n 1, 1) := by decide +kernel
theorem dX7_daysToMeet_43 : decode cX7_daysToMeet 43 = .ok (.invokevirtual 255, 3) := by decide +kernel
theorem dX7_daysToMeet_46 : decode cX7_daysToMeet 46 = .ok (.i2l, 1) := by decide +kernel
theorem dX7_daysToMeet_47 : decode cX7_daysToMeet 47 = .ok (.lmul, 1) := by decide +kernel
theorem dX7_daysToMeet_48 : decode cX7_daysToMeet 48 = .ok (.lstore_n 3, 1) := by decide +kernel
theorem dX7_daysToMeet_49 : decode cX7_daysToMeet 49 = .ok (.aload_n 0, 1) := by decide +kernel
theorem dX7_daysToMeet_50 : decode cX7_daysToMeet 50 = .ok (.getfield 29, 3) := by decide +kernel
theorem dX7_daysToMeet_53 : decode cX7_daysToMeet 53 = .ok (.getfield 154, 3) := by decide +kernel
theorem dX7_daysToMeet_56 : decode cX7_daysToMeet 56 = .ok (.iload_n 2, 1) := by decide +kernel
theorem dX7_daysToMeet_57 : decode cX7_daysToMeet 57 = .ok (.laload, 1) := by decide +kernel
theorem dX7_daysToMeet_58 : decode cX7_daysToMeet 58 = .ok (.invokestatic 354, 3) := by decide +kernel
theorem dX7_daysToMeet_61 : decode cX7_daysToMeet 61 = .ok (.lstore 5, 2) := by decide +kernel
theorem dX7_daysToMeet_63 : decode cX7_daysToMeet 63 = .ok (.lload_n 3, 1) := by decide +kernel
theorem dX7_daysToMeet_64 : decode cX7_daysToMeet 64 = .ok (.aload_n 0, 1) := by decide +kernel
theorem dX7_daysToMeet_65 : decode cX7_daysToMeet 65 = .ok (.getfield 29, 3) := by decide +kernel
theorem dX7_daysToMeet_68 : decode cX7_daysToMeet 68 = .ok (.getfield 158, 3) := by decide +kernel
theorem dX7_daysToMeet_71 : decode cX7_daysToMeet 71 = .ok (.iload_n 2, 1) := by decide +kernel
theorem dX7_daysToMeet_72 : decode cX7_daysToMeet 72 = .ok (.laload, 1) := by decide +kernel
theorem dX7_daysToMeet_73 : decode cX7_daysToMeet 73 = .ok (.lmul, 1) := by decide +kernel
theorem dX7_daysToMeet_74 : decode cX7_daysToMeet 74 = .ok (.lload 5, 2) := by decide +kernel
theorem dX7_daysToMeet_76 : decode cX7_daysToMeet 76 = .ok (.ladd, 1) := by decide +kernel
theorem dX7_daysToMeet_77 : decode cX7_daysToMeet 77 = .ok (.lconst 1, 1) := by decide +kernel
theorem dX7_daysToMeet_78 : decode cX7_daysToMeet 78 = .ok (.lsub, 1) := by decide +kernel
theorem dX7_daysToMeet_79 : decode cX7_daysToMeet 79 = .ok (.lload 5, 2) := by decide +kernel
theorem dX7_daysToMeet_81 : decode cX7_daysToMeet 81 = .ok (.invokestatic 227, 3) := by decide +kernel
theorem dX7_daysToMeet_84 : decode cX7_daysToMeet 84 = .ok (.l2i, 1) := by decide +kernel
theorem dX7_daysToMeet_85 : decode cX7_daysToMeet 85 = .ok (.ireturn, 1) := by decide +kernel
theorem dX7_oddsOfNoSlip_0 : decode cX7_oddsOfNoSlip 0 = .ok (.aload_n 0, 1) := by decide +kernel
theorem dX7_oddsOfNoSlip_1 : decode cX7_oddsOfNoSlip 1 = .ok (.iload_n 1, 1) := by decide +kernel
theorem dX7_oddsOfNoSlip_2 : decode cX7_oddsOfNoSlip 2 = .ok (.invokevirtual 358, 3) := by decide +kernel
theorem dX7_oddsOfNoSlip_5 : decode cX7_oddsOfNoSlip 5 = .ok (.aload_n 0, 1) := by decide +kernel
theorem dX7_oddsOfNoSlip_6 : decode cX7_oddsOfNoSlip 6 = .ok (.getfield 19, 3) := by decide +kernel
theorem dX7_oddsOfNoSlip_9 : decode cX7_oddsOfNoSlip 9 = .ok (.getfield 116, 3) := by decide +kernel
theorem dX7_oddsOfNoSlip_12 : decode cX7_oddsOfNoSlip 12 = .ok (.istore_n 3, 1) := by decide +kernel
theorem dX7_oddsOfNoSlip_13 : decode cX7_oddsOfNoSlip 13 = .ok (.ldc2_w 361, 3) := by decide +kernel
theorem dX7_oddsOfNoSlip_16 : decode cX7_oddsOfNoSlip 16 = .ok (.lstore 4, 2) := by decide +kernel
theorem dX7_oddsOfNoSlip_18 : decode cX7_oddsOfNoSlip 18 = .ok (.iconst 0, 1) := by decide +kernel
theorem dX7_oddsOfNoSlip_19 : decode cX7_oddsOfNoSlip 19 = .ok (.istore 6, 2) := by decide +kernel
theorem dX7_oddsOfNoSlip_21 : decode cX7_oddsOfNoSlip 21 = .ok (.iload 6, 2) := by decide +kernel
theorem dX7_oddsOfNoSlip_23 : decode cX7_oddsOfNoSlip 23 = .ok (.bipush 8, 2) := by decide +kernel
theorem dX7_oddsOfNoSlip_25 : decode cX7_oddsOfNoSlip 25 = .ok (.if_icmp .ge 79, 3) := by decide +kernel
theorem dX7_oddsOfNoSlip_28 : decode cX7_oddsOfNoSlip 28 = .ok (.iload_n 3, 1) := by decide +kernel
theorem dX7_oddsOfNoSlip_29 : decode cX7_oddsOfNoSlip 29 = .ok (.iload_n 1, 1) := by decide +kernel
theorem dX7_oddsOfNoSlip_30 : decode cX7_oddsOfNoSlip 30 = .ok (.if_icmp .eq 74, 3) := by decide +kernel
theorem dX7_oddsOfNoSlip_33 : decode cX7_oddsOfNoSlip 33 = .ok (.aload_n 0, 1) := by decide +kernel
theorem dX7_oddsOfNoSlip_34 : decode cX7_oddsOfNoSlip 34 = .ok (.iload_n 3, 1) := by decide +kernel
theorem dX7_oddsOfNoSlip_35 : decode cX7_oddsOfNoSlip 35 = .ok (.invokevirtual 363, 3) := by decide +kernel
theorem dX7_oddsOfNoSlip_38 : decode cX7_oddsOfNoSlip 38 = .ok (.istore 7, 2) := by decide +kernel
theorem dX7_oddsOfNoSlip_40 : decode cX7_oddsOfNoSlip 40 = .ok (.iload 7, 2) := by decide +kernel
theorem dX7_oddsOfNoSlip_42 : decode cX7_oddsOfNoSlip 42 = .ok (.iconst (-1), 1) := by decide +kernel
theorem dX7_oddsOfNoSlip_43 : decode cX7_oddsOfNoSlip 43 = .ok (.if_icmp .ne 5, 3) := by decide +kernel
theorem dX7_oddsOfNoSlip_46 : decode cX7_oddsOfNoSlip 46 = .ok (.iconst 0, 1) := by decide +kernel
theorem dX7_oddsOfNoSlip_47 : decode cX7_oddsOfNoSlip 47 = .ok (.ireturn, 1) := by decide +kernel
theorem dX7_oddsOfNoSlip_48 : decode cX7_oddsOfNoSlip 48 = .ok (.iconst 0, 1) := by decide +kernel
theorem dX7_oddsOfNoSlip_49 : decode cX7_oddsOfNoSlip 49 = .ok (.istore 8, 2) := by decide +kernel
theorem dX7_oddsOfNoSlip_51 : decode cX7_oddsOfNoSlip 51 = .ok (.iload 8, 2) := by decide +kernel
theorem dX7_oddsOfNoSlip_53 : decode cX7_oddsOfNoSlip 53 = .ok (.iload_n 2, 1) := by decide +kernel
theorem dX7_oddsOfNoSlip_54 : decode cX7_oddsOfNoSlip 54 = .ok (.if_icmp .ge 33, 3) := by decide +kernel
theorem dX7_oddsOfNoSlip_57 : decode cX7_oddsOfNoSlip 57 = .ok (.lload 4, 2) := by decide +kernel
theorem dX7_oddsOfNoSlip_59 : decode cX7_oddsOfNoSlip 59 = .ok (.sipush 1000, 3) := by decide +kernel
theorem dX7_oddsOfNoSlip_62 : decode cX7_oddsOfNoSlip 62 = .ok (.aload_n 0, 1) := by decide +kernel
theorem dX7_oddsOfNoSlip_63 : decode cX7_oddsOfNoSlip 63 = .ok (.getfield 19, 3) := by decide +kernel
theorem dX7_oddsOfNoSlip_66 : decode cX7_oddsOfNoSlip 66 = .ok (.getfield 173, 3) := by decide +kernel
theorem dX7_oddsOfNoSlip_69 : decode cX7_oddsOfNoSlip 69 = .ok (.iload 7, 2) := by decide +kernel
theorem dX7_oddsOfNoSlip_71 : decode cX7_oddsOfNoSlip 71 = .ok (.iaload, 1) := by decide +kernel
theorem dX7_oddsOfNoSlip_72 : decode cX7_oddsOfNoSlip 72 = .ok (.isub, 1) := by decide +kernel
theorem dX7_oddsOfNoSlip_73 : decode cX7_oddsOfNoSlip 73 = .ok (.i2l, 1) := by decide +kernel
theorem dX7_oddsOfNoSlip_74 : decode cX7_oddsOfNoSlip 74 = .ok (.lmul, 1) := by decide +kernel
theorem dX7_oddsOfNoSlip_75 : decode cX7_oddsOfNoSlip 75 = .ok (.ldc2_w 366, 3) := by decide +kernel
theorem dX7_oddsOfNoSlip_78 : decode cX7_oddsOfNoSlip 78 = .ok (.ldiv, 1) := by decide +kernel
theorem dX7_oddsOfNoSlip_79 : decode cX7_oddsOfNoSlip 79 = .ok (.lstore 4, 2) := by decide +kernel
theorem dX7_oddsOfNoSlip_81 : decode cX7_oddsOfNoSlip 81 = .ok (.iinc 8 1, 3) := by decide +kernel
theorem dX7_oddsOfNoSlip_84 : decode cX7_oddsOfNoSlip 84 = .ok (.goto (-33), 3) := by decide +kernel
theorem dX7_oddsOfNoSlip_87 : decode cX7_oddsOfNoSlip 87 = .ok (.aload_n 0, 1) := by decide +kernel
theorem dX7_oddsOfNoSlip_88 : decode cX7_oddsOfNoSlip 88 = .ok (.getfield 19, 3) := by decide +kernel
theorem dX7_oddsOfNoSlip_91 : decode cX7_oddsOfNoSlip 91 = .ok (.iload 7, 2) := by decide +kernel
theorem dX7_oddsOfNoSlip_93 : decode cX7_oddsOfNoSlip 93 = .ok (.iload_n 3, 1) := by decide +kernel
theorem dX7_oddsOfNoSlip_94 : decode cX7_oddsOfNoSlip 94 = .ok (.invokevirtual 368, 3) := by decide +kernel
theorem dX7_oddsOfNoSlip_97 : decode cX7_oddsOfNoSlip 97 = .ok (.istore_n 3, 1) := by decide +kernel
theorem dX7_oddsOfNoSlip_98 : decode cX7_oddsOfNoSlip 98 = .ok (.iinc 6 1, 3) := by decide +kernel
theorem dX7_oddsOfNoSlip_101 : decode cX7_oddsOfNoSlip 101 = .ok (.goto (-80), 3) := by decide +kernel
theorem dX7_oddsOfNoSlip_104 : decode cX7_oddsOfNoSlip 104 = .ok (.lload 4, 2) := by decide +kernel
theorem dX7_oddsOfNoSlip_106 : decode cX7_oddsOfNoSlip 106 = .ok (.l2i, 1) := by decide +kernel
theorem dX7_oddsOfNoSlip_107 : decode cX7_oddsOfNoSlip 107 = .ok (.ireturn, 1) := by decide +kernel
theorem dX7_countLinksAway_0 : decode cX7_countLinksAway 0 = .ok (.aload_n 0, 1) := by decide +kernel
theorem dX7_countLinksAway_1 : decode cX7_countLinksAway 1 = .ok (.getfield 68, 3) := by decide +kernel
theorem dX7_countLinksAway_4 : decode cX7_countLinksAway 4 = .ok (.iconst (-1), 1) := by decide +kernel
theorem dX7_countLinksAway_5 : decode cX7_countLinksAway 5 = .ok (.invokestatic 371, 3) := by decide +kernel
theorem dX7_countLinksAway_8 : decode cX7_countLinksAway 8 = .ok (.aload_n 0, 1) := by decide +kernel
theorem dX7_countLinksAway_9 : decode cX7_countLinksAway 9 = .ok (.getfield 68, 3) := by decide +kernel
theorem dX7_countLinksAway_12 : decode cX7_countLinksAway 12 = .ok (.iload_n 1, 1) := by decide +kernel
theorem dX7_countLinksAway_13 : decode cX7_countLinksAway 13 = .ok (.iconst 0, 1) := by decide +kernel
theorem dX7_countLinksAway_14 : decode cX7_countLinksAway 14 = .ok (.iastore, 1) := by decide +kernel
theorem dX7_countLinksAway_15 : decode cX7_countLinksAway 15 = .ok (.iconst 0, 1) := by decide +kernel
theorem dX7_countLinksAway_16 : decode cX7_countLinksAway 16 = .ok (.istore_n 2, 1) := by decide +kernel
theorem dX7_countLinksAway_17 : decode cX7_countLinksAway 17 = .ok (.iload_n 2, 1) := by decide +kernel
theorem dX7_countLinksAway_18 : decode cX7_countLinksAway 18 = .ok (.bipush 8, 2) := by decide +kernel
theorem dX7_countLinksAway_20 : decode cX7_countLinksAway 20 = .ok (.if_icmp .ge 82, 3) := by decide +kernel
theorem dX7_countLinksAway_23 : decode cX7_countLinksAway 23 = .ok (.iconst 0, 1) := by decide +kernel
theorem dX7_countLinksAway_24 : decode cX7_countLinksAway 24 = .ok (.istore_n 3, 1) := by decide +kernel
theorem dX7_countLinksAway_25 : decode cX7_countLinksAway 25 = .ok (.iload_n 3, 1) := by decide +kernel
theorem dX7_countLinksAway_26 : decode cX7_countLinksAway 26 = .ok (.aload_n 0, 1) := by decide +kernel
theorem dX7_countLinksAway_27 : decode cX7_countLinksAway 27 = .ok (.getfield 19, 3) := by decide +kernel
theorem dX7_countLinksAway_30 : decode cX7_countLinksAway 30 = .ok (.getfield 101, 3) := by decide +kernel
theorem dX7_countLinksAway_33 : decode cX7_countLinksAway 33 = .ok (.if_icmp .ge 63, 3) := by decide +kernel
theorem dX7_countLinksAway_36 : decode cX7_countLinksAway 36 = .ok (.aload_n 0, 1) := by decide +kernel
theorem dX7_countLinksAway_37 : decode cX7_countLinksAway 37 = .ok (.iload_n 3, 1) := by decide +kernel
theorem dX7_countLinksAway_38 : decode cX7_countLinksAway 38 = .ok (.invokevirtual 176, 3) := by decide +kernel
theorem dX7_countLinksAway_41 : decode cX7_countLinksAway 41 = .ok (.ifCond .eq 49, 3) := by decide +kernel
theorem dX7_countLinksAway_44 : decode cX7_countLinksAway 44 = .ok (.aload_n 0, 1) := by decide +kernel
theorem dX7_countLinksAway_45 : decode cX7_countLinksAway 45 = .ok (.aload_n 0, 1) := by decide +kernel
theorem dX7_countLinksAway_46 : decode cX7_countLinksAway 46 = .ok (.getfield 19, 3) := by decide +kernel
theorem dX7_countLinksAway_49 : decode cX7_countLinksAway 49 = .ok (.getfield 167, 3) := by decide +kernel
theorem dX7_countLinksAway_52 : decode cX7_countLinksAway 52 = .ok (.iload_n 3, 1) := by decide +kernel
theorem dX7_countLinksAway_53 : decode cX7_countLinksAway 53 = .ok (.iaload, 1) := by decide +kernel
theorem dX7_countLinksAway_54 : decode cX7_countLinksAway 54 = .ok (.aload_n 0, 1) := by decide +kernel
theorem dX7_countLinksAway_55 : decode cX7_countLinksAway 55 = .ok (.getfield 19, 3) := by decide +kernel
theorem dX7_countLinksAway_58 : decode cX7_countLinksAway 58 = .ok (.getfield 170, 3) := by decide +kernel
theorem dX7_countLinksAway_61 : decode cX7_countLinksAway 61 = .ok (.iload_n 3, 1) := by decide +kernel
theorem dX7_countLinksAway_62 : decode cX7_countLinksAway 62 = .ok (.iaload, 1) := by decide +kernel
theorem dX7_countLinksAway_63 : decode cX7_countLinksAway 63 = .ok (.iload_n 2, 1) := by decide +kernel
theorem dX7_countLinksAway_64 : decode cX7_countLinksAway 64 = .ok (.invokevirtual 377, 3) := by decide +kernel
theorem dX7_countLinksAway_67 : decode cX7_countLinksAway 67 = .ok (.aload_n 0, 1) := by decide +kernel
theorem dX7_countLinksAway_68 : decode cX7_countLinksAway 68 = .ok (.aload_n 0, 1) := by decide +kernel
theorem dX7_countLinksAway_69 : decode cX7_countLinksAway 69 = .ok (.getfield 19, 3) := by decide +kernel
theorem dX7_countLinksAway_72 : decode cX7_countLinksAway 72 = .ok (.getfield 170, 3) := by decide +kernel
theorem dX7_countLinksAway_75 : decode cX7_countLinksAway 75 = .ok (.iload_n 3, 1) := by decide +kernel
theorem dX7_countLinksAway_76 : decode cX7_countLinksAway 76 = .ok (.iaload, 1) := by decide +kernel
theorem dX7_countLinksAway_77 : decode cX7_countLinksAway 77 = .ok (.aload_n 0, 1) := by decide +kernel
theorem dX7_countLinksAway_78 : decode cX7_countLinksAway 78 = .ok (.getfield 19, 3) := by decide +kernel
theorem dX7_countLinksAway_81 : decode cX7_countLinksAway 81 = .ok (.getfield 167, 3) := by decide +kernel
theorem dX7_countLinksAway_84 : decode cX7_countLinksAway 84 = .ok (.iload_n 3, 1) := by decide +kernel
theorem dX7_countLinksAway_85 : decode cX7_countLinksAway 85 = .ok (.iaload, 1) := by decide +kernel
theorem dX7_countLinksAway_86 : decode cX7_countLinksAway 86 = .ok (.iload_n 2, 1) := by decide +kernel
theorem dX7_countLinksAway_87 : decode cX7_countLinksAway 87 = .ok (.invokevirtual 377, 3) := by decide +kernel
theorem dX7_countLinksAway_90 : decode cX7_countLinksAway 90 = .ok (.iinc 3 1, 3) := by decide +kernel
theorem dX7_countLinksAway_93 : decode cX7_countLinksAway 93 = .ok (.goto (-68), 3) := by decide +kernel
theorem dX7_countLinksAway_96 : decode cX7_countLinksAway 96 = .ok (.iinc 2 1, 3) := by decide +kernel
theorem dX7_countLinksAway_99 : decode cX7_countLinksAway 99 = .ok (.goto (-82), 3) := by decide +kernel
theorem dX7_countLinksAway_102 : decode cX7_countLinksAway 102 = .ok (.return_, 1) := by decide +kernel
theorem dX7_countAcross_0 : decode cX7_countAcross 0 = .ok (.aload_n 0, 1) := by decide +kernel
theorem dX7_countAcross_1 : decode cX7_countAcross 1 = .ok (.getfield 68, 3) := by decide +kernel
theorem dX7_countAcross_4 : decode cX7_countAcross 4 = .ok (.iload_n 1, 1) := by decide +kernel
theorem dX7_countAcross_5 : decode cX7_countAcross 5 = .ok (.iaload, 1) := by decide +kernel
theorem dX7_countAcross_6 : decode cX7_countAcross 6 = .ok (.iload_n 3, 1) := by decide +kernel
theorem dX7_countAcross_7 : decode cX7_countAcross 7 = .ok (.if_icmp .ne 22, 3) := by decide +kernel
theorem dX7_countAcross_10 : decode cX7_countAcross 10 = .ok (.aload_n 0, 1) := by decide +kernel
theorem dX7_countAcross_11 : decode cX7_countAcross 11 = .ok (.getfield 68, 3) := by decide +kernel
theorem dX7_countAcross_14 : decode cX7_countAcross 14 = .ok (.iload_n 2, 1) := by decide +kernel
theorem dX7_countAcross_15 : decode cX7_countAcross 15 = .ok (.iaload, 1) := by decide +kernel
theorem dX7_countAcross_16 : decode cX7_countAcross 16 = .ok (.iconst (-1), 1) := by decide +kernel
theorem dX7_countAcross_17 : decode cX7_countAcross 17 = .ok (.if_icmp .ne 12, 3) := by decide +kernel
theorem dX7_countAcross_20 : decode cX7_countAcross 20 = .ok (.aload_n 0, 1) := by decide +kernel
theorem dX7_countAcross_21 : decode cX7_countAcross 21 = .ok (.getfield 68, 3) := by decide +kernel
theorem dX7_countAcross_24 : decode cX7_countAcross 24 = .ok (.iload_n 2, 1) := by decide +kernel
theorem dX7_countAcross_25 : decode cX7_countAcross 25 = .ok (.iload_n 3, 1) := by decide +kernel
theorem dX7_countAcross_26 : decode cX7_countAcross 26 = .ok (.iconst 1, 1) := by decide +kernel
theorem dX7_countAcross_27 : decode cX7_countAcross 27 = .ok (.iadd, 1) := by decide +kernel
theorem dX7_countAcross_28 : decode cX7_countAcross 28 = .ok (.iastore, 1) := by decide +kernel
theorem dX7_countAcross_29 : decode cX7_countAcross 29 = .ok (.return_, 1) := by decide +kernel
theorem dX7_nextLinkTo_0 : decode cX7_nextLinkTo 0 = .ok (.iconst 0, 1) := by decide +kernel
theorem dX7_nextLinkTo_1 : decode cX7_nextLinkTo 1 = .ok (.istore_n 2, 1) := by decide +kernel
theorem dX7_nextLinkTo_2 : decode cX7_nextLinkTo 2 = .ok (.iload_n 2, 1) := by decide +kernel
theorem dX7_nextLinkTo_3 : decode cX7_nextLinkTo 3 = .ok (.aload_n 0, 1) := by decide +kernel
theorem dX7_nextLinkTo_4 : decode cX7_nextLinkTo 4 = .ok (.getfield 19, 3) := by decide +kernel
theorem dX7_nextLinkTo_7 : decode cX7_nextLinkTo 7 = .ok (.getfield 101, 3) := by decide +kernel
theorem dX7_nextLinkTo_10 : decode cX7_nextLinkTo 10 = .ok (.if_icmp .ge 51, 3) := by decide +kernel
theorem dX7_nextLinkTo_13 : decode cX7_nextLinkTo 13 = .ok (.aload_n 0, 1) := by decide +kernel
theorem dX7_nextLinkTo_14 : decode cX7_nextLinkTo 14 = .ok (.getfield 19, 3) := by decide +kernel
theorem dX7_nextLinkTo_17 : decode cX7_nextLinkTo 17 = .ok (.iload_n 2, 1) := by decide +kernel
theorem dX7_nextLinkTo_18 : decode cX7_nextLinkTo 18 = .ok (.iload_n 1, 1) := by decide +kernel
theorem dX7_nextLinkTo_19 : decode cX7_nextLinkTo 19 = .ok (.invokevirtual 368, 3) := by decide +kernel
theorem dX7_nextLinkTo_22 : decode cX7_nextLinkTo 22 = .ok (.istore_n 3, 1) := by decide +kernel
theorem dX7_nextLinkTo_23 : decode cX7_nextLinkTo 23 = .ok (.aload_n 0, 1) := by decide +kernel
theorem dX7_nextLinkTo_24 : decode cX7_nextLinkTo 24 = .ok (.iload_n 2, 1) := by decide +kernel
theorem dX7_nextLinkTo_25 : decode cX7_nextLinkTo 25 = .ok (.invokevirtual 176, 3) := by decide +kernel
theorem dX7_nextLinkTo_28 : decode cX7_nextLinkTo 28 = .ok (.ifCond .eq 27, 3) := by decide +kernel
theorem dX7_nextLinkTo_31 : decode cX7_nextLinkTo 31 = .ok (.iload_n 3, 1) := by decide +kernel
theorem dX7_nextLinkTo_32 : decode cX7_nextLinkTo 32 = .ok (.iconst (-1), 1) := by decide +kernel
theorem dX7_nextLinkTo_33 : decode cX7_nextLinkTo 33 = .ok (.if_icmp .eq 22, 3) := by decide +kernel
theorem dX7_nextLinkTo_36 : decode cX7_nextLinkTo 36 = .ok (.aload_n 0, 1) := by decide +kernel
theorem dX7_nextLinkTo_37 : decode cX7_nextLinkTo 37 = .ok (.getfield 68, 3) := by decide +kernel
theorem dX7_nextLinkTo_40 : decode cX7_nextLinkTo 40 = .ok (.iload_n 3, 1) := by decide +kernel
theorem dX7_nextLinkTo_41 : decode cX7_nextLinkTo 41 = .ok (.iaload, 1) := by decide +kernel
theorem dX7_nextLinkTo_42 : decode cX7_nextLinkTo 42 = .ok (.aload_n 0, 1) := by decide +kernel
theorem dX7_nextLinkTo_43 : decode cX7_nextLinkTo 43 = .ok (.getfield 68, 3) := by decide +kernel
theorem dX7_nextLinkTo_46 : decode cX7_nextLinkTo 46 = .ok (.iload_n 1, 1) := by decide +kernel
theorem dX7_nextLinkTo_47 : decode cX7_nextLinkTo 47 = .ok (.iaload, 1) := by decide +kernel
theorem dX7_nextLinkTo_48 : decode cX7_nextLinkTo 48 = .ok (.iconst 1, 1) := by decide +kernel
theorem dX7_nextLinkTo_49 : decode cX7_nextLinkTo 49 = .ok (.isub, 1) := by decide +kernel
theorem dX7_nextLinkTo_50 : decode cX7_nextLinkTo 50 = .ok (.if_icmp .ne 5, 3) := by decide +kernel
theorem dX7_nextLinkTo_53 : decode cX7_nextLinkTo 53 = .ok (.iload_n 2, 1) := by decide +kernel
theorem dX7_nextLinkTo_54 : decode cX7_nextLinkTo 54 = .ok (.ireturn, 1) := by decide +kernel
theorem dX7_nextLinkTo_55 : decode cX7_nextLinkTo 55 = .ok (.iinc 2 1, 3) := by decide +kernel
theorem dX7_nextLinkTo_58 : decode cX7_nextLinkTo 58 = .ok (.goto (-56), 3) := by decide +kernel
theorem dX7_nextLinkTo_61 : decode cX7_nextLinkTo 61 = .ok (.iconst (-1), 1) := by decide +kernel
theorem dX7_nextLinkTo_62 : decode cX7_nextLinkTo 62 = .ok (.ireturn, 1) := by decide +kernel
theorem dX7_wouldTurn_0 : decode cX7_wouldTurn 0 = .ok (.aload_n 0, 1) := by decide +kernel
theorem dX7_wouldTurn_1 : decode cX7_wouldTurn 1 = .ok (.getfield 19, 3) := by decide +kernel
theorem dX7_wouldTurn_4 : decode cX7_wouldTurn 4 = .ok (.getfield 101, 3) := by decide +kernel
theorem dX7_wouldTurn_7 : decode cX7_wouldTurn 7 = .ok (.istore 6, 2) := by decide +kernel
theorem dX7_wouldTurn_9 : decode cX7_wouldTurn 9 = .ok (.aload_n 0, 1) := by decide +kernel
theorem dX7_wouldTurn_10 : decode cX7_wouldTurn 10 = .ok (.getfield 19, 3) := by decide +kernel
theorem dX7_wouldTurn_13 : decode cX7_wouldTurn 13 = .ok (.iload 6, 2) := by decide +kernel
theorem dX7_wouldTurn_15 : decode cX7_wouldTurn 15 = .ok (.iload_n 3, 1) := by decide +kernel
theorem dX7_wouldTurn_16 : decode cX7_wouldTurn 16 = .ok (.iload 4, 2) := by decide +kernel
theorem dX7_wouldTurn_18 : decode cX7_wouldTurn 18 = .ok (.iload 5, 2) := by decide +kernel
theorem dX7_wouldTurn_20 : decode cX7_wouldTurn 20 = .ok (.invokevirtual 381, 3) := by decide +kernel
theorem dX7_wouldTurn_23 : decode cX7_wouldTurn 23 = .ok (.aload_n 0, 1) := by decide +kernel
theorem dX7_wouldTurn_24 : decode cX7_wouldTurn 24 = .ok (.getfield 33, 3) := by decide +kernel
theorem dX7_wouldTurn_27 : decode cX7_wouldTurn 27 = .ok (.aload_n 0, 1) := by decide +kernel
theorem dX7_wouldTurn_28 : decode cX7_wouldTurn 28 = .ok (.getfield 19, 3) := by decide +kernel
theorem dX7_wouldTurn_31 : decode cX7_wouldTurn 31 = .ok (.aload_n 0, 1) := by decide +kernel
theorem dX7_wouldTurn_32 : decode cX7_wouldTurn 32 = .ok (.invokevirtual 310, 3) := by decide +kernel
theorem dX7_wouldTurn_35 : decode cX7_wouldTurn 35 = .ok (.iconst 1, 1) := by decide +kernel
theorem dX7_wouldTurn_36 : decode cX7_wouldTurn 36 = .ok (.iload 6, 2) := by decide +kernel
theorem dX7_wouldTurn_38 : decode cX7_wouldTurn 38 = .ok (.ishl, 1) := by decide +kernel
theorem dX7_wouldTurn_39 : decode cX7_wouldTurn 39 = .ok (.ior, 1) := by decide +kernel
theorem dX7_wouldTurn_40 : decode cX7_wouldTurn 40 = .ok (.iconst 0, 1) := by decide +kernel
theorem dX7_wouldTurn_41 : decode cX7_wouldTurn 41 = .ok (.invokevirtual 313, 3) := by decide +kernel
theorem dX7_wouldTurn_44 : decode cX7_wouldTurn 44 = .ok (.aload_n 0, 1) := by decide +kernel
theorem dX7_wouldTurn_45 : decode cX7_wouldTurn 45 = .ok (.getfield 33, 3) := by decide +kernel
theorem dX7_wouldTurn_48 : decode cX7_wouldTurn 48 = .ok (.getfield 154, 3) := by decide +kernel
theorem dX7_wouldTurn_51 : decode cX7_wouldTurn 51 = .ok (.iload_n 1, 1) := by decide +kernel
theorem dX7_wouldTurn_52 : decode cX7_wouldTurn 52 = .ok (.laload, 1) := by decide +kernel
theorem dX7_wouldTurn_53 : decode cX7_wouldTurn 53 = .ok (.iload_n 2, 1) := by decide +kernel
theorem dX7_wouldTurn_54 : decode cX7_wouldTurn 54 = .ok (.i2l, 1) := by decide +kernel
theorem dX7_wouldTurn_55 : decode cX7_wouldTurn 55 = .ok (.lcmp, 1) := by decide +kernel
theorem dX7_wouldTurn_56 : decode cX7_wouldTurn 56 = .ok (.ifCond .ne 21, 3) := by decide +kernel
theorem dX7_wouldTurn_59 : decode cX7_wouldTurn 59 = .ok (.aload_n 0, 1) := by decide +kernel
theorem dX7_wouldTurn_60 : decode cX7_wouldTurn 60 = .ok (.getfield 33, 3) := by decide +kernel
theorem dX7_wouldTurn_63 : decode cX7_wouldTurn 63 = .ok (.getfield 158, 3) := by decide +kernel
theorem dX7_wouldTurn_66 : decode cX7_wouldTurn 66 = .ok (.iload_n 1, 1) := by decide +kernel
theorem dX7_wouldTurn_67 : decode cX7_wouldTurn 67 = .ok (.laload, 1) := by decide +kernel
theorem dX7_wouldTurn_68 : decode cX7_wouldTurn 68 = .ok (.lconst 1, 1) := by decide +kernel
theorem dX7_wouldTurn_69 : decode cX7_wouldTurn 69 = .ok (.lcmp, 1) := by decide +kernel
theorem dX7_wouldTurn_70 : decode cX7_wouldTurn 70 = .ok (.ifCond .ne 7, 3) := by decide +kernel
theorem dX7_wouldTurn_73 : decode cX7_wouldTurn 73 = .ok (.iconst 1, 1) := by decide +kernel
theorem dX7_wouldTurn_74 : decode cX7_wouldTurn 74 = .ok (.goto 4, 3) := by decide +kernel
theorem dX7_wouldTurn_77 : decode cX7_wouldTurn 77 = .ok (.iconst 0, 1) := by decide +kernel
theorem dX7_wouldTurn_78 : decode cX7_wouldTurn 78 = .ok (.ireturn, 1) := by decide +kernel
theorem dX7_teethThatFit_0 : decode cX7_teethThatFit 0 = .ok (.iconst 0, 1) := by decide +kernel
theorem dX7_teethThatFit_1 : decode cX7_teethThatFit 1 = .ok (.istore_n 2, 1) := by decide +kernel
theorem dX7_teethThatFit_2 : decode cX7_teethThatFit 2 = .ok (.iconst 3, 1) := by decide +kernel
theorem dX7_teethThatFit_3 : decode cX7_teethThatFit 3 = .ok (.istore_n 3, 1) := by decide +kernel
theorem dX7_teethThatFit_4 : decode cX7_teethThatFit 4 = .ok (.iload_n 3, 1) := by decide +kernel
theorem dX7_teethThatFit_5 : decode cX7_teethThatFit 5 = .ok (.bipush 30, 2) := by decide +kernel
theorem dX7_teethThatFit_7 : decode cX7_teethThatFit 7 = .ok (.if_icmp .gt 24, 3) := by decide +kernel
theorem dX7_teethThatFit_10 : decode cX7_teethThatFit 10 = .ok (.aload_n 0, 1) := by decide +kernel
theorem dX7_teethThatFit_11 : decode cX7_teethThatFit 11 = .ok (.iload_n 1, 1) := by decide +kernel
theorem dX7_teethThatFit_12 : decode cX7_teethThatFit 12 = .ok (.iload_n 3, 1) := by decide +kernel
theorem dX7_teethThatFit_13 : decode cX7_teethThatFit 13 = .ok (.invokevirtual 385, 3) := by decide +kernel
theorem dX7_teethThatFit_16 : decode cX7_teethThatFit 16 = .ok (.ifCond .eq 9, 3) := by decide +kernel
theorem dX7_teethThatFit_19 : decode cX7_teethThatFit 19 = .ok (.iload_n 2, 1) := by decide +kernel
theorem dX7_teethThatFit_20 : decode cX7_teethThatFit 20 = .ok (.iconst 1, 1) := by decide +kernel
theorem dX7_teethThatFit_21 : decode cX7_teethThatFit 21 = .ok (.iload_n 3, 1) := by decide +kernel
theorem dX7_teethThatFit_22 : decode cX7_teethThatFit 22 = .ok (.ishl, 1) := by decide +kernel
theorem dX7_teethThatFit_23 : decode cX7_teethThatFit 23 = .ok (.ior, 1) := by decide +kernel
theorem dX7_teethThatFit_24 : decode cX7_teethThatFit 24 = .ok (.istore_n 2, 1) := by decide +kernel
theorem dX7_teethThatFit_25 : decode cX7_teethThatFit 25 = .ok (.iinc 3 1, 3) := by decide +kernel
theorem dX7_teethThatFit_28 : decode cX7_teethThatFit 28 = .ok (.goto (-24), 3) := by decide +kernel
theorem dX7_teethThatFit_31 : decode cX7_teethThatFit 31 = .ok (.iload_n 2, 1) := by decide +kernel
theorem dX7_teethThatFit_32 : decode cX7_teethThatFit 32 = .ok (.ireturn, 1) := by decide +kernel
theorem dX7_isAsSeen_0 : decode cX7_isAsSeen 0 = .ok (.iconst 0, 1) := by decide +kernel
theorem dX7_isAsSeen_1 : decode cX7_isAsSeen 1 = .ok (.istore_n 3, 1) := by decide +kernel
theorem dX7_isAsSeen_2 : decode cX7_isAsSeen 2 = .ok (.iload_n 3, 1) := by decide +kernel
theorem dX7_isAsSeen_3 : decode cX7_isAsSeen 3 = .ok (.aload_n 0, 1) := by decide +kernel
theorem dX7_isAsSeen_4 : decode cX7_isAsSeen 4 = .ok (.getfield 61, 3) := by decide +kernel
theorem dX7_isAsSeen_7 : decode cX7_isAsSeen 7 = .ok (.getfield 132, 3) := by decide +kernel
theorem dX7_isAsSeen_10 : decode cX7_isAsSeen 10 = .ok (.if_icmp .ge 51, 3) := by decide +kernel
theorem dX7_isAsSeen_13 : decode cX7_isAsSeen 13 = .ok (.aload_n 0, 1) := by decide +kernel
theorem dX7_isAsSeen_14 : decode cX7_isAsSeen 14 = .ok (.getfield 61, 3) := by decide +kernel
theorem dX7_isAsSeen_17 : decode cX7_isAsSeen 17 = .ok (.getfield 283, 3) := by decide +kernel
theorem dX7_isAsSeen_20 : decode cX7_isAsSeen 20 = .ok (.iload_n 3, 1) := by decide +kernel
theorem dX7_isAsSeen_21 : decode cX7_isAsSeen 21 = .ok (.iaload, 1) := by decide +kernel
theorem dX7_isAsSeen_22 : decode cX7_isAsSeen 22 = .ok (.iload_n 1, 1) := by decide +kernel
theorem dX7_isAsSeen_23 : decode cX7_isAsSeen 23 = .ok (.if_icmp .ne 32, 3) := by decide +kernel
theorem dX7_isAsSeen_26 : decode cX7_isAsSeen 26 = .ok (.aload_n 0, 1) := by decide +kernel
theorem dX7_isAsSeen_27 : decode cX7_isAsSeen 27 = .ok (.iload_n 1, 1) := by decide +kernel
theorem dX7_isAsSeen_28 : decode cX7_isAsSeen 28 = .ok (.iload_n 2, 1) := by decide +kernel
theorem dX7_isAsSeen_29 : decode cX7_isAsSeen 29 = .ok (.aload_n 0, 1) := by decide +kernel
theorem dX7_isAsSeen_30 : decode cX7_isAsSeen 30 = .ok (.getfield 61, 3) := by decide +kernel
theorem dX7_isAsSeen_33 : decode cX7_isAsSeen 33 = .ok (.getfield 285, 3) := by decide +kernel
theorem dX7_isAsSeen_36 : decode cX7_isAsSeen 36 = .ok (.iload_n 3, 1) := by decide +kernel
theorem dX7_isAsSeen_37 : decode cX7_isAsSeen 37 = .ok (.iaload, 1) := by decide +kernel
theorem dX7_isAsSeen_38 : decode cX7_isAsSeen 38 = .ok (.invokevirtual 388, 3) := by decide +kernel
theorem dX7_isAsSeen_41 : decode cX7_isAsSeen 41 = .ok (.aload_n 0, 1) := by decide +kernel
theorem dX7_isAsSeen_42 : decode cX7_isAsSeen 42 = .ok (.getfield 61, 3) := by decide +kernel
theorem dX7_isAsSeen_45 : decode cX7_isAsSeen 45 = .ok (.getfield 288, 3) := by decide +kernel
theorem dX7_isAsSeen_48 : decode cX7_isAsSeen 48 = .ok (.iload_n 3, 1) := by decide +kernel
theorem dX7_isAsSeen_49 : decode cX7_isAsSeen 49 = .ok (.iaload, 1) := by decide +kernel
theorem dX7_isAsSeen_50 : decode cX7_isAsSeen 50 = .ok (.if_icmp .eq 5, 3) := by decide +kernel
theorem dX7_isAsSeen_53 : decode cX7_isAsSeen 53 = .ok (.iconst 0, 1) := by decide +kernel
theorem dX7_isAsSeen_54 : decode cX7_isAsSeen 54 = .ok (.ireturn, 1) := by decide +kernel
theorem dX7_isAsSeen_55 : decode cX7_isAsSeen 55 = .ok (.iinc 3 1, 3) := by decide +kernel
theorem dX7_isAsSeen_58 : decode cX7_isAsSeen 58 = .ok (.goto (-56), 3) := by decide +kernel
theorem dX7_isAsSeen_61 : decode cX7_isAsSeen 61 = .ok (.iconst 1, 1) := by decide +kernel
theorem dX7_isAsSeen_62 : decode cX7_isAsSeen 62 = .ok (.ireturn, 1) := by decide +kernel
theorem dX7_placeWith_0 : decode cX7_placeWith 0 = .ok (.aload_n 0, 1) := by decide +kernel
theorem dX7_placeWith_1 : decode cX7_placeWith 1 = .ok (.iload_n 1, 1) := by decide +kernel
theorem dX7_placeWith_2 : decode cX7_placeWith 2 = .ok (.iconst 0, 1) := by decide +kernel
theorem dX7_placeWith_3 : decode cX7_placeWith 3 = .ok (.invokevirtual 150, 3) := by decide +kernel
theorem dX7_placeWith_6 : decode cX7_placeWith 6 = .ok (.i2l, 1) := by decide +kernel
theorem dX7_placeWith_7 : decode cX7_placeWith 7 = .ok (.aload_n 0, 1) := by decide +kernel
theorem dX7_placeWith_8 : decode cX7_placeWith 8 = .ok (.iload_n 1, 1) := by decide +kernel
theorem dX7_placeWith_9 : decode cX7_placeWith 9 = .ok (.iload_n 3, 1) := by decide +kernel
theorem dX7_placeWith_10 : decode cX7_placeWith 10 = .ok (.i2l, 1) := by decide +kernel
theorem dX7_placeWith_11 : decode cX7_placeWith 11 = .ok (.invokevirtual 317, 3) := by decide +kernel
theorem dX7_placeWith_14 : decode cX7_placeWith 14 = .ok (.ladd, 1) := by decide +kernel
theorem dX7_placeWith_15 : decode cX7_placeWith 15 = .ok (.iload_n 2, 1) := by decide +kernel
theorem dX7_placeWith_16 : decode cX7_placeWith 16 = .ok (.i2l, 1) := by decide +kernel
theorem dX7_placeWith_17 : decode cX7_placeWith 17 = .ok (.invokestatic 231, 3) := by decide +kernel
theorem dX7_placeWith_20 : decode cX7_placeWith 20 = .ok (.l2i, 1) := by decide +kernel
theorem dX7_placeWith_21 : decode cX7_placeWith 21 = .ok (.ireturn, 1) := by decide +kernel
theorem dX7_greatestPart_0 : decode cX7_greatestPart 0 = .ok (.aload_n 0, 1) := by decide +kernel
theorem dX7_greatestPart_1 : decode cX7_greatestPart 1 = .ok (.getfield 72, 3) := by decide +kernel
theorem dX7_greatestPart_4 : decode cX7_greatestPart 4 = .ok (.iconst 0, 1) := by decide +kernel
theorem dX7_greatestPart_5 : decode cX7_greatestPart 5 = .ok (.invokestatic 371, 3) := by decide +kernel
theorem dX7_greatestPart_8 : decode cX7_greatestPart 8 = .ok (.iconst 0, 1) := by decide +kernel
theorem dX7_greatestPart_9 : decode cX7_greatestPart 9 = .ok (.istore 4, 2) := by decide +kernel
theorem dX7_greatestPart_11 : decode cX7_greatestPart 11 = .ok (.iconst 3, 1) := by decide +kernel
theorem dX7_greatestPart_12 : decode cX7_greatestPart 12 = .ok (.istore 5, 2) := by decide +kernel
theorem dX7_greatestPart_14 : decode cX7_greatestPart 14 = .ok (.iload 5, 2) := by decide +kernel
theorem dX7_greatestPart_16 : decode cX7_greatestPart 16 = .ok (.bipush 30, 2) := by decide +kernel
theorem dX7_greatestPart_18 : decode cX7_greatestPart 18 = .ok (.if_icmp .gt 54, 3) := by decide +kernel
theorem dX7_greatestPart_21 : decode cX7_greatestPart 21 = .ok (.iload_n 3, 1) := by decide +kernel
theorem dX7_greatestPart_22 : decode cX7_greatestPart 22 = .ok (.iload 5, 2) := by decide +kernel
theorem dX7_greatestPart_24 : decode cX7_greatestPart 24 = .ok (.ishr, 1) := by decide +kernel
theorem dX7_greatestPart_25 : decode cX7_greatestPart 25 = .ok (.iconst 1, 1) := by decide +kernel
theorem dX7_greatestPart_26 : decode cX7_greatestPart 26 = .ok (.iand, 1) := by decide +kernel
theorem dX7_greatestPart_27 : decode cX7_greatestPart 27 = .ok (.iconst 1, 1) := by decide +kernel
theorem dX7_greatestPart_28 : decode cX7_greatestPart 28 = .ok (.if_icmp .ne 38, 3) := by decide +kernel
theorem dX7_greatestPart_31 : decode cX7_greatestPart 31 = .ok (.aload_n 0, 1) := by decide +kernel
theorem dX7_greatestPart_32 : decode cX7_greatestPart 32 = .ok (.iload_n 1, 1) := by decide +kernel
theorem dX7_greatestPart_33 : decode cX7_greatestPart 33 = .ok (.iload 5, 2) := by decide +kernel
theorem dX7_greatestPart_35 : decode cX7_greatestPart 35 = .ok (.iload_n 2, 1) := by decide +kernel
theorem dX7_greatestPart_36 : decode cX7_greatestPart 36 = .ok (.invokevirtual 388, 3) := by decide +kernel
theorem dX7_greatestPart_39 : decode cX7_greatestPart 39 = .ok (.istore 6, 2) := by decide +kernel
theorem dX7_greatestPart_41 : decode cX7_greatestPart 41 = .ok (.aload_n 0, 1) := by decide +kernel
theorem dX7_greatestPart_42 : decode cX7_greatestPart 42 = .ok (.getfield 72, 3) := by decide +kernel
theorem dX7_greatestPart_45 : decode cX7_greatestPart 45 = .ok (.iload 6, 2) := by decide +kernel
theorem dX7_greatestPart_47 : decode cX7_greatestPart 47 = .ok (.dup2, 1) := by decide +kernel
theorem dX7_greatestPart_48 : decode cX7_greatestPart 48 = .ok (.iaload, 1) := by decide +kernel
theorem dX7_greatestPart_49 : decode cX7_greatestPart 49 = .ok (.iconst 1, 1) := by decide +kernel
theorem dX7_greatestPart_50 : decode cX7_greatestPart 50 = .ok (.iadd, 1) := by decide +kernel
theorem dX7_greatestPart_51 : decode cX7_greatestPart 51 = .ok (.iastore, 1) := by decide +kernel
theorem dX7_greatestPart_52 : decode cX7_greatestPart 52 = .ok (.iload 4, 2) := by decide +kernel
theorem dX7_greatestPart_54 : decode cX7_greatestPart 54 = .ok (.aload_n 0, 1) := by decide +kernel
theorem dX7_greatestPart_55 : decode cX7_greatestPart 55 = .ok (.getfield 72, 3) := by decide +kernel
theorem dX7_greatestPart_58 : decode cX7_greatestPart 58 = .ok (.iload 6, 2) := by decide +kernel
theorem dX7_greatestPart_60 : decode cX7_greatestPart 60 = .ok (.iaload, 1) := by decide +kernel
theorem dX7_greatestPart_61 : decode cX7_greatestPart 61 = .ok (.invokestatic 391, 3) := by decide +kernel
theorem dX7_greatestPart_64 : decode cX7_greatestPart 64 = .ok (.istore 4, 2) := by decide +kernel
theorem dX7_greatestPart_66 : decode cX7_greatestPart 66 = .ok (.iinc 5 1, 3) := by decide +kernel
theorem dX7_greatestPart_69 : decode cX7_greatestPart 69 = .ok (.goto (-55), 3) := by decide +kernel
theorem dX7_greatestPart_72 : decode cX7_greatestPart 72 = .ok (.iload 4, 2) := by decide +kernel
theorem dX7_greatestPart_74 : decode cX7_greatestPart 74 = .ok (.ireturn, 1) := by decide +kernel
theorem dX7_floorPart_0 : decode cX7_floorPart 0 = .ok (.lload_n 2, 1) := by decide +kernel
theorem dX7_floorPart_1 : decode cX7_floorPart 1 = .ok (.lconst 0, 1) := by decide +kernel
theorem dX7_floorPart_2 : decode cX7_floorPart 2 = .ok (.lcmp, 1) := by decide +kernel
theorem dX7_floorPart_3 : decode cX7_floorPart 3 = .ok (.ifCond .ne 7, 3) := by decide +kernel
theorem dX7_floorPart_6 : decode cX7_floorPart 6 = .ok (.lconst 0, 1) := by decide +kernel
theorem dX7_floorPart_7 : decode cX7_floorPart 7 = .ok (.goto 8, 3) := by decide +kernel
theorem dX7_floorPart_10 : decode cX7_floorPart 10 = .ok (.lload_n 0, 1) := by decide +kernel
theorem dX7_floorPart_11 : decode cX7_floorPart 11 = .ok (.lload_n 2, 1) := by decide +kernel
theorem dX7_floorPart_12 : decode cX7_floorPart 12 = .ok (.invokestatic 394, 3) := by decide +kernel
theorem dX7_floorPart_15 : decode cX7_floorPart 15 = .ok (.lreturn, 1) := by decide +kernel
theorem dX7_leftOver_0 : decode cX7_leftOver 0 = .ok (.lload_n 2, 1) := by decide +kernel
theorem dX7_leftOver_1 : decode cX7_leftOver 1 = .ok (.lconst 1, 1) := by decide +kernel
theorem dX7_leftOver_2 : decode cX7_leftOver 2 = .ok (.lcmp, 1) := by decide +kernel
theorem dX7_leftOver_3 : decode cX7_leftOver 3 = .ok (.ifCond .ge 7, 3) := by decide +kernel
theorem dX7_leftOver_6 : decode cX7_leftOver 6 = .ok (.lconst 0, 1) := by decide +kernel
theorem dX7_leftOver_7 : decode cX7_leftOver 7 = .ok (.goto 8, 3) := by decide +kernel
theorem dX7_leftOver_10 : decode cX7_leftOver 10 = .ok (.lload_n 0, 1) := by decide +kernel
theorem dX7_leftOver_11 : decode cX7_leftOver 11 = .ok (.lload_n 2, 1) := by decide +kernel
theorem dX7_leftOver_12 : decode cX7_leftOver 12 = .ok (.invokestatic 397, 3) := by decide +kernel
theorem dX7_leftOver_15 : decode cX7_leftOver 15 = .ok (.lreturn, 1) := by decide +kernel
theorem dX7_common_0 : decode cX7_common 0 = .ok (.lload_n 0, 1) := by decide +kernel
theorem dX7_common_1 : decode cX7_common 1 = .ok (.invokestatic 354, 3) := by decide +kernel
theorem dX7_common_4 : decode cX7_common 4 = .ok (.lstore 4, 2) := by decide +kernel
theorem dX7_common_6 : decode cX7_common 6 = .ok (.lload_n 2, 1) := by decide +kernel
theorem dX7_common_7 : decode cX7_common 7 = .ok (.invokestatic 354, 3) := by decide +kernel
theorem dX7_common_10 : decode cX7_common 10 = .ok (.lstore 6, 2) := by decide +kernel
theorem dX7_common_12 : decode cX7_common 12 = .ok (.iconst 0, 1) := by decide +kernel
theorem dX7_common_13 : decode cX7_common 13 = .ok (.istore 8, 2) := by decide +kernel
theorem dX7_common_15 : decode cX7_common 15 = .ok (.iload 8, 2) := by decide +kernel
theorem dX7_common_17 : decode cX7_common 17 = .ok (.bipush 100, 2) := by decide +kernel
theorem dX7_common_19 : decode cX7_common 19 = .ok (.if_icmp .ge 31, 3) := by decide +kernel
theorem dX7_common_22 : decode cX7_common 22 = .ok (.lload 6, 2) := by decide +kernel
theorem dX7_common_24 : decode cX7_common 24 = .ok (.lconst 0, 1) := by decide +kernel
theorem dX7_common_25 : decode cX7_common 25 = .ok (.lcmp, 1) := by decide +kernel
theorem dX7_common_26 : decode cX7_common 26 = .ok (.ifCond .eq 24, 3) := by decide +kernel
theorem dX7_common_29 : decode cX7_common 29 = .ok (.lload 4, 2) := by decide +kernel
theorem dX7_common_31 : decode cX7_common 31 = .ok (.lload 6, 2) := by decide +kernel
theorem dX7_common_33 : decode cX7_common 33 = .ok (.lrem, 1) := by decide +kernel
theorem dX7_common_34 : decode cX7_common 34 = .ok (.lstore 9, 2) := by decide +kernel
theorem dX7_common_36 : decode cX7_common 36 = .ok (.lload 6, 2) := by decide +kernel
theorem dX7_common_38 : decode cX7_common 38 = .ok (.lstore 4, 2) := by decide +kernel
theorem dX7_common_40 : decode cX7_common 40 = .ok (.lload 9, 2) := by decide +kernel
theorem dX7_common_42 : decode cX7_common 42 = .ok (.lstore 6, 2) := by decide +kernel
theorem dX7_common_44 : decode cX7_common 44 = .ok (.iinc 8 1, 3) := by decide +kernel
theorem dX7_common_47 : decode cX7_common 47 = .ok (.goto (-32), 3) := by decide +kernel
theorem dX7_common_50 : decode cX7_common 50 = .ok (.lload 4, 2) := by decide +kernel
theorem dX7_common_52 : decode cX7_common 52 = .ok (.lconst 1, 1) := by decide +kernel
theorem dX7_common_53 : decode cX7_common 53 = .ok (.invokestatic 400, 3) := by decide +kernel
theorem dX7_common_56 : decode cX7_common 56 = .ok (.lreturn, 1) := by decide +kernel
theorem dX8_init_0 : decode cX8_init 0 = .ok (.aload_n 0, 1) := by decide +kernel
theorem dX8_init_1 : decode cX8_init 1 = .ok (.invokespecial 1, 3) := by decide +kernel
theorem dX8_init_4 : decode cX8_init 4 = .ok (.aload_n 0, 1) := by decide +kernel
theorem dX8_init_5 : decode cX8_init 5 = .ok (.sipush 396, 3) := by decide +kernel
theorem dX8_init_8 : decode cX8_init 8 = .ok (.newarray .int, 2) := by decide +kernel
theorem dX8_init_10 : decode cX8_init 10 = .ok (.putfield 7, 3) := by decide +kernel
theorem dX8_init_13 : decode cX8_init 13 = .ok (.aload_n 0, 1) := by decide +kernel
theorem dX8_init_14 : decode cX8_init 14 = .ok (.iconst 2, 1) := by decide +kernel
theorem dX8_init_15 : decode cX8_init 15 = .ok (.newarray .boolean, 2) := by decide +kernel
theorem dX8_init_17 : decode cX8_init 17 = .ok (.putfield 13, 3) := by decide +kernel
theorem dX8_init_20 : decode cX8_init 20 = .ok (.aload_n 0, 1) := by decide +kernel
theorem dX8_init_21 : decode cX8_init 21 = .ok (.iconst 1, 1) := by decide +kernel
theorem dX8_init_22 : decode cX8_init 22 = .ok (.putfield 17, 3) := by decide +kernel
theorem dX8_init_25 : decode cX8_init 25 = .ok (.aload_n 0, 1) := by decide +kernel
theorem dX8_init_26 : decode cX8_init 26 = .ok (.bipush 16, 2) := by decide +kernel
theorem dX8_init_28 : decode cX8_init 28 = .ok (.newarray .int, 2) := by decide +kernel
theorem dX8_init_30 : decode cX8_init 30 = .ok (.putfield 21, 3) := by decide +kernel
theorem dX8_init_33 : decode cX8_init 33 = .ok (.aload_n 0, 1) := by decide +kernel
theorem dX8_init_34 : decode cX8_init 34 = .ok (.bipush 16, 2) := by decide +kernel
theorem dX8_init_36 : decode cX8_init 36 = .ok (.newarray .int, 2) := by decide +kernel
theorem dX8_init_38 : decode cX8_init 38 = .ok (.putfield 24, 3) := by decide +kernel
theorem dX8_init_41 : decode cX8_init 41 = .ok (.aload_n 0, 1) := by decide +kernel
theorem dX8_init_42 : decode cX8_init 42 = .ok (.bipush 21, 2) := by decide +kernel
theorem dX8_init_44 : decode cX8_init 44 = .ok (.newarray .int, 2) := by decide +kernel
theorem dX8_init_46 : decode cX8_init 46 = .ok (.putfield 27, 3) := by decide +kernel
theorem dX8_init_49 : decode cX8_init 49 = .ok (.aload_n 0, 1) := by decide +kernel
theorem dX8_init_50 : decode cX8_init 50 = .ok (.bipush 21, 2) := by decide +kernel
theorem dX8_init_52 : decode cX8_init 52 = .ok (.newarray .int, 2) := by decide +kernel
theorem dX8_init_54 : decode cX8_init 54 = .ok (.putfield 30, 3) := by decide +kernel
theorem dX8_init_57 : decode cX8_init 57 = .ok (.aload_n 0, 1) := by decide +kernel
theorem dX8_init_58 : decode cX8_init 58 = .ok (.bipush 21, 2) := by decide +kernel
theorem dX8_init_60 : decode cX8_init 60 = .ok (.newarray .int, 2) := by decide +kernel
theorem dX8_init_62 : decode cX8_init 62 = .ok (.putfield 33, 3) := by decide +kernel
theorem dX8_init_65 : decode cX8_init 65 = .ok (.aload_n 0, 1) := by decide +kernel
theorem dX8_init_66 : decode cX8_init 66 = .ok (.bipush 20, 2) := by decide +kernel
theorem dX8_init_68 : decode cX8_init 68 = .ok (.newarray .int, 2) := by decide +kernel
theorem dX8_init_70 : decode cX8_init 70 = .ok (.putfield 36, 3) := by decide +kernel
theorem dX8_init_73 : decode cX8_init 73 = .ok (.aload_n 0, 1) := by decide +kernel
theorem dX8_init_74 : decode cX8_init 74 = .ok (.bipush 12, 2) := by decide +kernel
theorem dX8_init_76 : decode cX8_init 76 = .ok (.newarray .int, 2) := by decide +kernel
theorem dX8_init_78 : decode cX8_init 78 = .ok (.putfield 39, 3) := by decide +kernel
theorem dX8_init_81 : decode cX8_init 81 = .ok (.aload_n 0, 1) := by decide +kernel
theorem dX8_init_82 : decode cX8_init 82 = .ok (.bipush 12, 2) := by decide +kernel
theorem dX8_init_84 : decode cX8_init 84 = .ok (.newarray .int, 2) := by decide +kernel
theorem dX8_init_86 : decode cX8_init 86 = .ok (.putfield 42, 3) := by decide +kernel
theorem dX8_init_89 : decode cX8_init 89 = .ok (.aload_n 0, 1) := by decide +kernel
theorem dX8_init_90 : decode cX8_init 90 = .ok (.sipush 250, 3) := by decide +kernel
theorem dX8_init_93 : decode cX8_init 93 = .ok (.newarray .int, 2) := by decide +kernel
theorem dX8_init_95 : decode cX8_init 95 = .ok (.putfield 45, 3) := by decide +kernel
theorem dX8_init_98 : decode cX8_init 98 = .ok (.aload_n 0, 1) := by decide +kernel
theorem dX8_init_99 : decode cX8_init 99 = .ok (.iconst (-1), 1) := by decide +kernel
theorem dX8_init_100 : decode cX8_init 100 = .ok (.putfield 48, 3) := by decide +kernel
theorem dX8_init_103 : decode cX8_init 103 = .ok (.aload_n 0, 1) := by decide +kernel
theorem dX8_init_104 : decode cX8_init 104 = .ok (.bipush 8, 2) := by decide +kernel
theorem dX8_init_106 : decode cX8_init 106 = .ok (.newarray .long, 2) := by decide +kernel
theorem dX8_init_108 : decode cX8_init 108 = .ok (.putfield 51, 3) := by decide +kernel
theorem dX8_init_111 : decode cX8_init 111 = .ok (.aload_n 0, 1) := by decide +kernel
theorem dX8_init_112 : decode cX8_init 112 = .ok (.bipush 8, 2) := by decide +kernel
theorem dX8_init_114 : decode cX8_init 114 = .ok (.newarray .long, 2) := by decide +kernel
theorem dX8_init_116 : decode cX8_init 116 = .ok (.putfield 55, 3) := by decide +kernel
theorem dX8_init_119 : decode cX8_init 119 = .ok (.aload_n 0, 1) := by decide +kernel
theorem dX8_init_120 : decode cX8_init 120 = .ok (.bipush 8, 2) := by decide +kernel
theorem dX8_init_122 : decode cX8_init 122 = .ok (.newarray .int, 2) := by decide +kernel
theorem dX8_init_124 : decode cX8_init 124 = .ok (.putfield 58, 3) := by decide +kernel
theorem dX8_init_127 : decode cX8_init 127 = .ok (.aload_n 0, 1) := by decide +kernel
theorem dX8_init_128 : decode cX8_init 128 = .ok (.bipush 8, 2) := by decide +kernel
theorem dX8_init_130 : decode cX8_init 130 = .ok (.newarray .long, 2) := by decide +kernel
theorem dX8_init_132 : decode cX8_init 132 = .ok (.putfield 61, 3) := by decide +kernel
theorem dX8_init_135 : decode cX8_init 135 = .ok (.aload_n 0, 1) := by decide +kernel
theorem dX8_init_136 : decode cX8_init 136 = .ok (.bipush 12, 2) := by decide +kernel
theorem dX8_init_138 : decode cX8_init 138 = .ok (.newarray .int, 2) := by decide +kernel
theorem dX8_init_140 : decode cX8_init 140 = .ok (.putfield 64, 3) := by decide +kernel
theorem dX8_init_143 : decode cX8_init 143 = .ok (.aload_n 0, 1) := by decide +kernel
theorem dX8_init_144 : decode cX8_init 144 = .ok (.bipush 12, 2) := by decide +kernel
theorem dX8_init_146 : decode cX8_init 146 = .ok (.newarray .int, 2) := by decide +kernel
theorem dX8_init_148 : decode cX8_init 148 = .ok (.putfield 67, 3) := by decide +kernel
theorem dX8_init_151 : decode cX8_init 151 = .ok (.aload_n 0, 1) := by decide +kernel
theorem dX8_init_152 : decode cX8_init 152 = .ok (.bipush 12, 2) := by decide +kernel
theorem dX8_init_154 : decode cX8_init 154 = .ok (.newarray .int, 2) := by decide +kernel
theorem dX8_init_156 : decode cX8_init 156 = .ok (.putfield 70, 3) := by decide +kernel
theorem dX8_init_159 : decode cX8_init 159 = .ok (.aload_n 0, 1) := by decide +kernel
theorem dX8_init_160 : decode cX8_init 160 = .ok (.bipush 30, 2) := by decide +kernel
theorem dX8_init_162 : decode cX8_init 162 = .ok (.newarray .int, 2) := by decide +kernel
theorem dX8_init_164 : decode cX8_init 164 = .ok (.putfield 73, 3) := by decide +kernel
theorem dX8_init_167 : decode cX8_init 167 = .ok (.aload_n 0, 1) := by decide +kernel
theorem dX8_init_168 : decode cX8_init 168 = .ok (.bipush 15, 2) := by decide +kernel
theorem dX8_init_170 : decode cX8_init 170 = .ok (.newarray .int, 2) := by decide +kernel
theorem dX8_init_172 : decode cX8_init 172 = .ok (.putfield 76, 3) := by decide +kernel
theorem dX8_init_175 : decode cX8_init 175 = .ok (.aload_n 0, 1) := by decide +kernel
theorem dX8_init_176 : decode cX8_init 176 = .ok (.bipush 15, 2) := by decide +kernel
theorem dX8_init_178 : decode cX8_init 178 = .ok (.newarray .int, 2) := by decide +kernel
theorem dX8_init_180 : decode cX8_init 180 = .ok (.putfield 79, 3) := by decide +kernel
theorem dX8_init_183 : decode cX8_init 183 = .ok (.aload_n 0, 1) := by decide +kernel
theorem dX8_init_184 : decode cX8_init 184 = .ok (.bipush 15, 2) := by decide +kernel
theorem dX8_init_186 : decode cX8_init 186 = .ok (.newarray .int, 2) := by decide +kernel
theorem dX8_init_188 : decode cX8_init 188 = .ok (.putfield 82, 3) := by decide +kernel
theorem dX8_init_191 : decode cX8_init 191 = .ok (.return_, 1) := by decide +kernel
theorem dX8_in_0 : decode cX8_in 0 = .ok (.lload_n 0, 1) := by decide +kernel
theorem dX8_in_1 : decode cX8_in 1 = .ok (.lload_n 2, 1) := by decide +kernel
theorem dX8_in_2 : decode cX8_in 2 = .ok (.lcmp, 1) := by decide +kernel
theorem dX8_in_3 : decode cX8_in 3 = .ok (.ifCond .lt 14, 3) := by decide +kernel
theorem dX8_in_6 : decode cX8_in 6 = .ok (.lload_n 0, 1) := by decide +kernel
theorem dX8_in_7 : decode cX8_in 7 = .ok (.lload 4, 2) := by decide +kernel
theorem dX8_in_9 : decode cX8_in 9 = .ok (.lcmp, 1) := by decide +kernel
theorem dX8_in_10 : decode cX8_in 10 = .ok (.ifCond .gt 7, 3) := by decide +kernel
theorem dX8_in_13 : decode cX8_in 13 = .ok (.iconst 1, 1) := by decide +kernel
theorem dX8_in_14 : decode cX8_in 14 = .ok (.goto 4, 3) := by decide +kernel
theorem dX8_in_17 : decode cX8_in 17 = .ok (.iconst 0, 1) := by decide +kernel
theorem dX8_in_18 : decode cX8_in 18 = .ok (.ireturn, 1) := by decide +kernel
theorem dX8_one_0 : decode cX8_one 0 = .ok (.iload_n 0, 1) := by decide +kernel
theorem dX8_one_1 : decode cX8_one 1 = .ok (.ifCond .eq 7, 3) := by decide +kernel
theorem dX8_one_4 : decode cX8_one 4 = .ok (.iconst 1, 1) := by decide +kernel
theorem dX8_one_5 : decode cX8_one 5 = .ok (.goto 4, 3) := by decide +kernel
theorem dX8_one_8 : decode cX8_one 8 = .ok (.iconst 0, 1) := by decide +kernel
theorem dX8_one_9 : decode cX8_one 9 = .ok (.ireturn, 1) := by decide +kernel
theorem dX8_has_0 : decode cX8_has 0 = .ok (.iload_n 0, 1) := by decide +kernel
theorem dX8_has_1 : decode cX8_has 1 = .ok (.iload_n 1, 1) := by decide +kernel
theorem dX8_has_2 : decode cX8_has 2 = .ok (.ishr, 1) := by decide +kernel
theorem dX8_has_3 : decode cX8_has 3 = .ok (.iconst 1, 1) := by decide +kernel
theorem dX8_has_4 : decode cX8_has 4 = .ok (.iand, 1) := by decide +kernel
theorem dX8_has_5 : decode cX8_has 5 = .ok (.iconst 1, 1) := by decide +kernel
theorem dX8_has_6 : decode cX8_has 6 = .ok (.if_icmp .ne 7, 3) := by decide +kernel
theorem dX8_has_9 : decode cX8_has 9 = .ok (.iconst 1, 1) := by decide +kernel
theorem dX8_has_10 : decode cX8_has 10 = .ok (.goto 4, 3) := by decide +kernel
theorem dX8_has_13 : decode cX8_has 13 = .ok (.iconst 0, 1) := by decide +kernel
theorem dX8_has_14 : decode cX8_has 14 = .ok (.ireturn, 1) := by decide +kernel
theorem dX8_ones_0 : decode cX8_ones 0 = .ok (.iconst 0, 1) := by decide +kernel
theorem dX8_ones_1 : decode cX8_ones 1 = .ok (.istore_n 1, 1) := by decide +kernel
theorem dX8_ones_2 : decode cX8_ones 2 = .ok (.iconst 0, 1) := by decide +kernel
theorem dX8_ones_3 : decode cX8_ones 3 = .ok (.istore_n 2, 1) := by decide +kernel
theorem dX8_ones_4 : decode cX8_ones 4 = .ok (.iload_n 2, 1) := by decide +kernel
theorem dX8_ones_5 : decode cX8_ones 5 = .ok (.bipush 10, 2) := by decide +kernel
theorem dX8_ones_7 : decode cX8_ones 7 = .ok (.if_icmp .ge 17, 3) := by decide +kernel
theorem dX8_ones_10 : decode cX8_ones 10 = .ok (.iload_n 1, 1) := by decide +kernel
theorem dX8_ones_11 : decode cX8_ones 11 = .ok (.iload_n 0, 1) := by decide +kernel
theorem dX8_ones_12 : decode cX8_ones 12 = .ok (.iload_n 2, 1) := by decide +kernel
theorem dX8_ones_13 : decode cX8_ones 13 = .ok (.ishr, 1) := by decide +kernel
theorem dX8_ones_14 : decode cX8_ones 14 = .ok (.iconst 1, 1) := by decide +kernel
theorem dX8_ones_15 : decode cX8_ones 15 = .ok (.iand, 1) := by decide +kernel
theorem dX8_ones_16 : decode cX8_ones 16 = .ok (.iadd, 1) := by decide +kernel
theorem dX8_ones_17 : decode cX8_ones 17 = .ok (.istore_n 1, 1) := by decide +kernel
theorem dX8_ones_18 : decode cX8_ones 18 = .ok (.iinc 2 1, 3) := by decide +kernel
theorem dX8_ones_21 : decode cX8_ones 21 = .ok (.goto (-17), 3) := by decide +kernel
theorem dX8_ones_24 : decode cX8_ones 24 = .ok (.iload_n 1, 1) := by decide +kernel
theorem dX8_ones_25 : decode cX8_ones 25 = .ok (.ireturn, 1) := by decide +kernel
theorem dX8_size_0 : decode cX8_size 0 = .ok (.lload_n 0, 1) := by decide +kernel
theorem dX8_size_1 : decode cX8_size 1 = .ok (.lconst 0, 1) := by decide +kernel
theorem dX8_size_2 : decode cX8_size 2 = .ok (.lcmp, 1) := by decide +kernel
theorem dX8_size_3 : decode cX8_size 3 = .ok (.ifCond .ge 8, 3) := by decide +kernel
theorem dX8_size_6 : decode cX8_size 6 = .ok (.lload_n 0, 1) := by decide +kernel
theorem dX8_size_7 : decode cX8_size 7 = .ok (.lneg, 1) := by decide +kernel
theorem dX8_size_8 : decode cX8_size 8 = .ok (.goto 4, 3) := by decide +kernel
theorem dX8_size_11 : decode cX8_size 11 = .ok (.lload_n 0, 1) := by decide +kernel
theorem dX8_size_12 : decode cX8_size 12 = .ok (.lreturn, 1) := by decide +kernel
theorem dX8_common_0 : decode cX8_common 0 = .ok (.lload_n 0, 1) := by decide +kernel
theorem dX8_common_1 : decode cX8_common 1 = .ok (.invokestatic 85, 3) := by decide +kernel
theorem dX8_common_4 : decode cX8_common 4 = .ok (.lstore 4, 2) := by decide +kernel
theorem dX8_common_6 : decode cX8_common 6 = .ok (.lload_n 2, 1) := by decide +kernel
theorem dX8_common_7 : decode cX8_common 7 = .ok (.invokestatic 85, 3) := by decide +kernel
theorem dX8_common_10 : decode cX8_common 10 = .ok (.lstore 6, 2) := by decide +kernel
theorem dX8_common_12 : decode cX8_common 12 = .ok (.lload 6, 2) := by decide +kernel
theorem dX8_common_14 : decode cX8_common 14 = .ok (.lconst 0, 1) := by decide +kernel
theorem dX8_common_15 : decode cX8_common 15 = .ok (.lcmp, 1) := by decide +kernel
theorem dX8_common_16 : decode cX8_common 16 = .ok (.ifCond .le 21, 3) := by decide +kernel
theorem dX8_common_19 : decode cX8_common 19 = .ok (.lload 4, 2) := by decide +kernel
theorem dX8_common_21 : decode cX8_common 21 = .ok (.lload 6, 2) := by decide +kernel
theorem dX8_common_23 : decode cX8_common 23 = .ok (.lrem, 1) := by decide +kernel
theorem dX8_common_24 : decode cX8_common 24 = .ok (.lstore 8, 2) := by decide +kernel
theorem dX8_common_26 : decode cX8_common 26 = .ok (.lload 6, 2) := by decide +kernel
theorem dX8_common_28 : decode cX8_common 28 = .ok (.lstore 4, 2) := by decide +kernel
theorem dX8_common_30 : decode cX8_common 30 = .ok (.lload 8, 2) := by decide +kernel
theorem dX8_common_32 : decode cX8_common 32 = .ok (.lstore 6, 2) := by decide +kernel
theorem dX8_common_34 : decode cX8_common 34 = .ok (.goto (-22), 3) := by decide +kernel
theorem dX8_common_37 : decode cX8_common 37 = .ok (.lload 4, 2) := by decide +kernel
theorem dX8_common_39 : decode cX8_common 39 = .ok (.lreturn, 1) := by decide +kernel
theorem dX8_down_0 : decode cX8_down 0 = .ok (.lload_n 0, 1) := by decide +kernel
theorem dX8_down_1 : decode cX8_down 1 = .ok (.lload_n 2, 1) := by decide +kernel
theorem dX8_down_2 : decode cX8_down 2 = .ok (.ldiv, 1) := by decide +kernel
theorem dX8_down_3 : decode cX8_down 3 = .ok (.lstore 4, 2) := by decide +kernel
theorem dX8_down_5 : decode cX8_down 5 = .ok (.lload_n 0, 1) := by decide +kernel
theorem dX8_down_6 : decode cX8_down 6 = .ok (.lload_n 2, 1) := by decide +kernel
theorem dX8_down_7 : decode cX8_down 7 = .ok (.lrem, 1) := by decide +kernel
theorem dX8_down_8 : decode cX8_down 8 = .ok (.lconst 0, 1) := by decide +kernel
theorem dX8_down_9 : decode cX8_down 9 = .ok (.lcmp, 1) := by decide +kernel
theorem dX8_down_10 : decode cX8_down 10 = .ok (.ifCond .ge 10, 3) := by decide +kernel
theorem dX8_down_13 : decode cX8_down 13 = .ok (.lload 4, 2) := by decide +kernel
theorem dX8_down_15 : decode cX8_down 15 = .ok (.lconst 1, 1) := by decide +kernel
theorem dX8_down_16 : decode cX8_down 16 = .ok (.lsub, 1) := by decide +kernel
theorem dX8_down_17 : decode cX8_down 17 = .ok (.goto 5, 3) := by decide +kernel
theorem dX8_down_20 : decode cX8_down 20 = .ok (.lload 4, 2) := by decide +kernel
theorem dX8_down_22 : decode cX8_down 22 = .ok (.lreturn, 1) := by decide +kernel
theorem dX8_over_0 : decode cX8_over 0 = .ok (.lload_n 0, 1) := by decide +kernel
theorem dX8_over_1 : decode cX8_over 1 = .ok (.iload_n 2, 1) := by decide +kernel
theorem dX8_over_2 : decode cX8_over 2 = .ok (.i2l, 1) := by decide +kernel
theorem dX8_over_3 : decode cX8_over 3 = .ok (.lrem, 1) := by decide +kernel
theorem dX8_over_4 : decode cX8_over 4 = .ok (.lstore_n 3, 1) := by decide +kernel
theorem dX8_over_5 : decode cX8_over 5 = .ok (.lload_n 3, 1) := by decide +kernel
theorem dX8_over_6 : decode cX8_over 6 = .ok (.lconst 0, 1) := by decide +kernel
theorem dX8_over_7 : decode cX8_over 7 = .ok (.lcmp, 1) := by decide +kernel
theorem dX8_over_8 : decode cX8_over 8 = .ok (.ifCond .ge 10, 3) := by decide +kernel
theorem dX8_over_11 : decode cX8_over 11 = .ok (.lload_n 3, 1) := by decide +kernel
theorem dX8_over_12 : decode cX8_over 12 = .ok (.iload_n 2, 1) := by decide +kernel
theorem dX8_over_13 : decode cX8_over 13 = .ok (.i2l, 1) := by decide +kernel
theorem dX8_over_14 : decode cX8_over 14 = .ok (.ladd, 1) := by decide +kernel
theorem dX8_over_15 : decode cX8_over 15 = .ok (.goto 4, 3) := by decide +kernel
theorem dX8_over_18 : decode cX8_over 18 = .ok (.lload_n 3, 1) := by decide +kernel
theorem dX8_over_19 : decode cX8_over 19 = .ok (.l2i, 1) := by decide +kernel
theorem dX8_over_20 : decode cX8_over 20 = .ok (.ireturn, 1) := by decide +kernel
theorem dX8_feed_0 : decode cX8_feed 0 = .ok (.iload_n 1, 1) := by decide +kernel
theorem dX8_feed_1 : decode cX8_feed 1 = .ok (.i2l, 1) := by decide +kernel
theorem dX8_feed_2 : decode cX8_feed 2 = .ok (.lconst 0, 1) := by decide +kernel
theorem dX8_feed_3 : decode cX8_feed 3 = .ok (.ldc2_w 89, 3) := by decide +kernel
theorem dX8_feed_6 : decode cX8_feed 6 = .ok (.invokestatic 91, 3) := by decide +kernel
theorem dX8_feed_9 : decode cX8_feed 9 = .ok (.ifCond .ne 6, 3) := by decide +kernel
theorem dX8_feed_12 : decode cX8_feed 12 = .ok (.ldc 95, 2) := by decide +kernel
theorem dX8_feed_14 : decode cX8_feed 14 = .ok (.ireturn, 1) := by decide +kernel
theorem dX8_feed_15 : decode cX8_feed 15 = .ok (.aload_n 0, 1) := by decide +kernel
theorem dX8_feed_16 : decode cX8_feed 16 = .ok (.getfield 96, 3) := by decide +kernel
theorem dX8_feed_19 : decode cX8_feed 19 = .ok (.sipush 250, 3) := by decide +kernel
theorem dX8_feed_22 : decode cX8_feed 22 = .ok (.if_icmp .ne 6, 3) := by decide +kernel
theorem dX8_feed_25 : decode cX8_feed 25 = .ok (.ldc 99, 2) := by decide +kernel
theorem dX8_feed_27 : decode cX8_feed 27 = .ok (.ireturn, 1) := by decide +kernel
theorem dX8_feed_28 : decode cX8_feed 28 = .ok (.aload_n 0, 1) := by decide +kernel
theorem dX8_feed_29 : decode cX8_feed 29 = .ok (.getfield 45, 3) := by decide +kernel
theorem dX8_feed_32 : decode cX8_feed 32 = .ok (.aload_n 0, 1) := by decide +kernel
theorem dX8_feed_33 : decode cX8_feed 33 = .ok (.getfield 96, 3) := by decide +kernel
theorem dX8_feed_36 : decode cX8_feed 36 = .ok (.iload_n 1, 1) := by decide +kernel
theorem dX8_feed_37 : decode cX8_feed 37 = .ok (.iastore, 1) := by decide +kernel
theorem dX8_feed_38 : decode cX8_feed 38 = .ok (.aload_n 0, 1) := by decide +kernel
theorem dX8_feed_39 : decode cX8_feed 39 = .ok (.dup, 1) := by decide +kernel
theorem dX8_feed_40 : decode cX8_feed 40 = .ok (.getfield 96, 3) := by decide +kernel
theorem dX8_feed_43 : decode cX8_feed 43 = .ok (.iconst 1, 1) := by decide +kernel
theorem dX8_feed_44 : decode cX8_feed 44 = .ok (.iadd, 1) := by decide +kernel
theorem dX8_feed_45 : decode cX8_feed 45 = .ok (.putfield 96, 3) := by decide +kernel
theorem dX8_feed_48 : decode cX8_feed 48 = .ok (.aload_n 0, 1) := by decide +kernel
theorem dX8_feed_49 : decode cX8_feed 49 = .ok (.getfield 96, 3) := by decide +kernel
theorem dX8_feed_52 : decode cX8_feed 52 = .ok (.ireturn, 1) := by decide +kernel
theorem dX8_here_0 : decode cX8_here 0 = .ok (.aload_n 0, 1) := by decide +kernel
theorem dX8_here_1 : decode cX8_here 1 = .ok (.getfield 100, 3) := by decide +kernel
theorem dX8_here_4 : decode cX8_here 4 = .ok (.aload_n 0, 1) := by decide +kernel
theorem dX8_here_5 : decode cX8_here 5 = .ok (.getfield 96, 3) := by decide +kernel
theorem dX8_here_8 : decode cX8_here 8 = .ok (.if_icmp .ge 30, 3) := by decide +kernel
theorem dX8_here_11 : decode cX8_here 11 = .ok (.aload_n 0, 1) := by decide +kernel
theorem dX8_here_12 : decode cX8_here 12 = .ok (.getfield 45, 3) := by decide +kernel
theorem dX8_here_15 : decode cX8_here 15 = .ok (.aload_n 0, 1) := by decide +kernel
theorem dX8_here_16 : decode cX8_here 16 = .ok (.getfield 100, 3) := by decide +kernel
theorem dX8_here_19 : decode cX8_here 19 = .ok (.iaload, 1) := by decide +kernel
theorem dX8_here_20 : decode cX8_here 20 = .ok (.bipush 32, 2) := by decide +kernel
theorem dX8_here_22 : decode cX8_here 22 = .ok (.if_icmp .ne 16, 3) := by decide +kernel
theorem dX8_here_25 : decode cX8_here 25 = .ok (.aload_n 0, 1) := by decide +kernel
theorem dX8_here_26 : decode cX8_here 26 = .ok (.dup, 1) := by decide +kernel
theorem dX8_here_27 : decode cX8_here 27 = .ok (.getfield 100, 3) := by decide +kernel
theorem dX8_here_30 : decode cX8_here 30 = .ok (.iconst 1, 1) := by decide +kernel
theorem dX8_here_31 : decode cX8_here 31 = .ok (.iadd, 1) := by decide +kernel
theorem dX8_here_32 : decode cX8_here 32 = .ok (.putfield 100, 3) := by decide +kernel
theorem dX8_here_35 : decode cX8_here 35 = .ok (.goto (-35), 3) := by decide +kernel
theorem dX8_here_38 : decode cX8_here 38 = .ok (.aload_n 0, 1) := by decide +kernel
theorem dX8_here_39 : decode cX8_here 39 = .ok (.getfield 100, 3) := by decide +kernel
theorem dX8_here_42 : decode cX8_here 42 = .ok (.aload_n 0, 1) := by decide +kernel
theorem dX8_here_43 : decode cX8_here 43 = .ok (.getfield 96, 3) := by decide +kernel
theorem dX8_here_46 : decode cX8_here 46 = .ok (.if_icmp .ge 15, 3) := by decide +kernel
theorem dX8_here_49 : decode cX8_here 49 = .ok (.aload_n 0, 1) := by decide +kernel
theorem dX8_here_50 : decode cX8_here 50 = .ok (.getfield 45, 3) := by decide +kernel
theorem dX8_here_53 : decode cX8_here 53 = .ok (.aload_n 0, 1) := by decide +kernel
theorem dX8_here_54 : decode cX8_here 54 = .ok (.getfield 100, 3) := by decide +kernel
theorem dX8_here_57 : decode cX8_here 57 = .ok (.iaload, 1) := by decide +kernel
theorem dX8_here_58 : decode cX8_here 58 = .ok (.goto 4, 3) := by decide +kernel
theorem dX8_here_61 : decode cX8_here 61 = .ok (.iconst (-1), 1) := by decide +kernel
theorem dX8_here_62 : decode cX8_here 62 = .ok (.ireturn, 1) := by decide +kernel
theorem dX8_want_0 : decode cX8_want 0 = .ok (.iload_n 1, 1) := by decide +kernel
theorem dX8_want_1 : decode cX8_want 1 = .ok (.ifCond .ne 20, 3) := by decide +kernel
theorem dX8_want_4 : decode cX8_want 4 = .ok (.aload_n 0, 1) := by decide +kernel
theorem dX8_want_5 : decode cX8_want 5 = .ok (.getfield 103, 3) := by decide +kernel
theorem dX8_want_8 : decode cX8_want 8 = .ok (.ifCond .ne 13, 3) := by decide +kernel
theorem dX8_want_11 : decode cX8_want 11 = .ok (.aload_n 0, 1) := by decide +kernel
theorem dX8_want_12 : decode cX8_want 12 = .ok (.iload_n 2, 1) := by decide +kernel
theorem dX8_want_13 : decode cX8_want 13 = .ok (.putfield 103, 3) := by decide +kernel
theorem dX8_want_16 : decode cX8_want 16 = .ok (.aload_n 0, 1) := by decide +kernel
theorem dX8_want_17 : decode cX8_want 17 = .ok (.iload_n 3, 1) := by decide +kernel
theorem dX8_want_18 : decode cX8_want 18 = .ok (.putfield 48, 3) := by decide +kernel
theorem dX8_want_21 : decode cX8_want 21 = .ok (.aload_n 0, 1) := by decide +kernel
theorem dX8_want_22 : decode cX8_want 22 = .ok (.getfield 103, 3) := by decide +kernel
theorem dX8_want_25 : decode cX8_want 25 = .ok (.ifCond .ne 7, 3) := by decide +kernel
theorem dX8_want_28 : decode cX8_want 28 = .ok (.iconst 1, 1) := by decide +kernel
theorem dX8_want_29 : decode cX8_want 29 = .ok (.goto 4, 3) := by decide +kernel
theorem dX8_want_32 : decode cX8_want 32 = .ok (.iconst 0, 1) := by decide +kernel
theorem dX8_want_33 : decode cX8_want 33 = .ok (.ireturn, 1) := by decide +kernel
theorem dX8_takeNumber_0 : decode cX8_takeNumber 0 = .ok (.aload_n 0, 1) := by decide +kernel
theorem dX8_takeNumber_1 : decode cX8_takeNumber 1 = .ok (.getfield 103, 3) := by decide +kernel
theorem dX8_takeNumber_4 : decode cX8_takeNumber 4 = .ok (.ifCond .le 5, 3) := by decide +kernel
theorem dX8_takeNumber_7 : decode cX8_takeNumber 7 = .ok (.iconst 0, 1) := by decide +kernel
theorem dX8_takeNumber_8 : decode cX8_takeNumber 8 = .ok (.ireturn, 1) := by decide +kernel
theorem dX8_takeNumber_9 : decode cX8_takeNumber 9 = .ok (.aload_n 0, 1) := by decide +kernel
theorem dX8_takeNumber_10 : decode cX8_takeNumber 10 = .ok (.invokevirtual 106, 3) := by decide +kernel
theorem dX8_takeNumber_13 : decode cX8_takeNumber 13 = .ok (.istore_n 3, 1) := by decide +kernel
theorem dX8_takeNumber_14 : decode cX8_takeNumber 14 = .ok (.aload_n 0, 1) := by decide +kernel
theorem dX8_takeNumber_15 : decode cX8_takeNumber 15 = .ok (.aload_n 0, 1) := by decide +kernel
theorem dX8_takeNumber_16 : decode cX8_takeNumber 16 = .ok (.getfield 100, 3) := by decide +kernel
theorem dX8_takeNumber_19 : decode cX8_takeNumber 19 = .ok (.putfield 110, 3) := by decide +kernel
theorem dX8_takeNumber_22 : decode cX8_takeNumber 22 = .ok (.aload_n 0, 1) := by decide +kernel
theorem dX8_takeNumber_23 : decode cX8_takeNumber 23 = .ok (.iload_n 3, 1) := by decide +kernel
theorem dX8_takeNumber_24 : decode cX8_takeNumber 24 = .ok (.i2l, 1) := by decide +kernel
theorem dX8_takeNumber_25 : decode cX8_takeNumber 25 = .ok (.ldc2_w 113, 3) := by decide +kernel
theorem dX8_takeNumber_28 : decode cX8_takeNumber 28 = .ok (.ldc2_w 115, 3) := by decide +kernel
theorem dX8_takeNumber_31 : decode cX8_takeNumber 31 = .ok (.invokestatic 91, 3) := by decide +kernel
theorem dX8_takeNumber_34 : decode cX8_takeNumber 34 = .ok (.iconst 1, 1) := by decide +kernel
theorem dX8_takeNumber_35 : decode cX8_takeNumber 35 = .ok (.aload_n 0, 1) := by decide +kernel
theorem dX8_takeNumber_36 : decode cX8_takeNumber 36 = .ok (.getfield 100, 3) := by decide +kernel
theorem dX8_takeNumber_39 : decode cX8_takeNumber 39 = .ok (.invokevirtual 117, 3) := by decide +kernel
theorem dX8_takeNumber_42 : decode cX8_takeNumber 42 = .ok (.ifCond .ne 5, 3) := by decide +kernel
theorem dX8_takeNumber_45 : decode cX8_takeNumber 45 = .ok (.iconst 0, 1) := by decide +kernel
theorem dX8_takeNumber_46 : decode cX8_takeNumber 46 = .ok (.ireturn, 1) := by decide +kernel
theorem dX8_takeNumber_47 : decode cX8_takeNumber 47 = .ok (.iconst 0, 1) := by decide +kernel
theorem dX8_takeNumber_48 : decode cX8_takeNumber 48 = .ok (.istore 4, 2) := by decide +kernel
theorem dX8_takeNumber_50 : decode cX8_takeNumber 50 = .ok (.aload_n 0, 1) := by decide +kernel
theorem dX8_takeNumber_51 : decode cX8_takeNumber 51 = .ok (.getfield 100, 3) := by decide +kernel
theorem dX8_takeNumber_54 : decode cX8_takeNumber 54 = .ok (.aload_n 0, 1) := by decide +kernel
theorem dX8_takeNumber_55 : decode cX8_takeNumber 55 = .ok (.getfield 96, 3) := by decide +kernel
theorem dX8_takeNumber_58 : decode cX8_takeNumber 58 = .ok (.if_icmp .ge 70, 3) := by decide +kernel
theorem dX8_takeNumber_61 : decode cX8_takeNumber 61 = .ok (.aload_n 0, 1) := by decide +kernel
theorem dX8_takeNumber_62 : decode cX8_takeNumber 62 = .ok (.getfield 45, 3) := by decide +kernel
theorem dX8_takeNumber_65 : decode cX8_takeNumber 65 = .ok (.aload_n 0, 1) := by decide +kernel
theorem dX8_takeNumber_66 : decode cX8_takeNumber 66 = .ok (.getfield 100, 3) := by decide +kernel
theorem dX8_takeNumber_69 : decode cX8_takeNumber 69 = .ok (.iaload, 1) := by decide +kernel
theorem dX8_takeNumber_70 : decode cX8_takeNumber 70 = .ok (.i2l, 1) := by decide +kernel
theorem dX8_takeNumber_71 : decode cX8_takeNumber 71 = .ok (.ldc2_w 113, 3) := by decide +kernel
theorem dX8_takeNumber_74 : decode cX8_takeNumber 74 = .ok (.ldc2_w 115, 3) := by decide +kernel
theorem dX8_takeNumber_77 : decode cX8_takeNumber 77 = .ok (.invokestatic 91, 3) := by decide +kernel
theorem dX8_takeNumber_80 : decode cX8_takeNumber 80 = .ok (.ifCond .eq 48, 3) := by decide +kernel
theorem dX8_takeNumber_83 : decode cX8_takeNumber 83 = .ok (.iload 4, 2) := by decide +kernel
theorem dX8_takeNumber_85 : decode cX8_takeNumber 85 = .ok (.ldc 121, 2) := by decide +kernel
theorem dX8_takeNumber_87 : decode cX8_takeNumber 87 = .ok (.if_icmp .le 8, 3) := by decide +kernel
theorem dX8_takeNumber_90 : decode cX8_takeNumber 90 = .ok (.iload 4, 2) := by decide +kernel
theorem dX8_takeNumber_92 : decode cX8_takeNumber 92 = .ok (.goto 21, 3) := by decide +kernel
theorem dX8_takeNumber_95 : decode cX8_takeNumber 95 = .ok (.bipush 10, 2) := by decide +kernel
theorem dX8_takeNumber_97 : decode cX8_takeNumber 97 = .ok (.iload 4, 2) := by decide +kernel
theorem dX8_takeNumber_99 : decode cX8_takeNumber 99 = .ok (.imul, 1) := by decide +kernel
theorem dX8_takeNumber_100 : decode cX8_takeNumber 100 = .ok (.aload_n 0, 1) := by decide +kernel
theorem dX8_takeNumber_101 : decode cX8_takeNumber 101 = .ok (.getfield 45, 3) := by decide +kernel
theorem dX8_takeNumber_104 : decode cX8_takeNumber 104 = .ok (.aload_n 0, 1) := by decide +kernel
theorem dX8_takeNumber_105 : decode cX8_takeNumber 105 = .ok (.getfield 100, 3) := by decide +kernel
theorem dX8_takeNumber_108 : decode cX8_takeNumber 108 = .ok (.iaload, 1) := by decide +kernel
theorem dX8_takeNumber_109 : decode cX8_takeNumber 109 = .ok (.iadd, 1) := by decide +kernel
theorem dX8_takeNumber_110 : decode cX8_takeNumber 110 = .ok (.bipush 48, 2) := by decide +kernel
theorem dX8_takeNumber_112 : decode cX8_takeNumber 112 = .ok (.isub, 1) := by decide +kernel
theorem dX8_takeNumber_113 : decode cX8_takeNumber 113 = .ok (.istore 4, 2) := by decide +kernel
theorem dX8_takeNumber_115 : decode cX8_takeNumber 115 = .ok (.aload_n 0, 1) := by decide +kernel
theorem dX8_takeNumber_116 : decode cX8_takeNumber 116 = .ok (.dup, 1) := by decide +kernel
theorem dX8_takeNumber_117 : decode cX8_takeNumber 117 = .ok (.getfield 100, 3) := by decide +kernel
theorem dX8_takeNumber_120 : decode cX8_takeNumber 120 = .ok (.iconst 1, 1) := by decide +kernel
theorem dX8_takeNumber_121 : decode cX8_takeNumber 121 = .ok (.iadd, 1) := by decide +kernel
theorem dX8_takeNumber_122 : decode cX8_takeNumber 122 = .ok (.putfield 100, 3) := by decide +kernel
theorem dX8_takeNumber_125 : decode cX8_takeNumber 125 = .ok (.goto (-75), 3) := by decide +kernel
theorem dX8_takeNumber_128 : decode cX8_takeNumber 128 = .ok (.aload_n 0, 1) := by decide +kernel
theorem dX8_takeNumber_129 : decode cX8_takeNumber 129 = .ok (.aload_n 0, 1) := by decide +kernel
theorem dX8_takeNumber_130 : decode cX8_takeNumber 130 = .ok (.getfield 100, 3) := by decide +kernel
theorem dX8_takeNumber_133 : decode cX8_takeNumber 133 = .ok (.aload_n 0, 1) := by decide +kernel
theorem dX8_takeNumber_134 : decode cX8_takeNumber 134 = .ok (.getfield 110, 3) := by decide +kernel
theorem dX8_takeNumber_137 : decode cX8_takeNumber 137 = .ok (.isub, 1) := by decide +kernel
theorem dX8_takeNumber_138 : decode cX8_takeNumber 138 = .ok (.iconst 4, 1) := by decide +kernel
theorem dX8_takeNumber_139 : decode cX8_takeNumber 139 = .ok (.if_icmp .ge 20, 3) := by decide +kernel
theorem dX8_takeNumber_142 : decode cX8_takeNumber 142 = .ok (.iload 4, 2) := by decide +kernel
theorem dX8_takeNumber_144 : decode cX8_takeNumber 144 = .ok (.i2l, 1) := by decide +kernel
theorem dX8_takeNumber_145 : decode cX8_takeNumber 145 = .ok (.iload_n 1, 1) := by decide +kernel
theorem dX8_takeNumber_146 : decode cX8_takeNumber 146 = .ok (.i2l, 1) := by decide +kernel
theorem dX8_takeNumber_147 : decode cX8_takeNumber 147 = .ok (.iload_n 2, 1) := by decide +kernel
theorem dX8_takeNumber_148 : decode cX8_takeNumber 148 = .ok (.i2l, 1) := by decide +kernel
theorem dX8_takeNumber_149 : decode cX8_takeNumber 149 = .ok (.invokestatic 91, 3) := by decide +kernel
theorem dX8_takeNumber_152 : decode cX8_takeNumber 152 = .ok (.ifCond .eq 7, 3) := by decide +kernel
theorem dX8_takeNumber_155 : decode cX8_takeNumber 155 = .ok (.iconst 1, 1) := by decide +kernel
theorem dX8_takeNumber_156 : decode cX8_takeNumber 156 = .ok (.goto 4, 3) := by decide +kernel
theorem dX8_takeNumber_159 : decode cX8_takeNumber 159 = .ok (.iconst 0, 1) := by decide +kernel
theorem dX8_takeNumber_160 : decode cX8_takeNumber 160 = .ok (.iconst 2, 1) := by decide +kernel
theorem dX8_takeNumber_161 : decode cX8_takeNumber 161 = .ok (.aload_n 0, 1) := by decide +kernel
theorem dX8_takeNumber_162 : decode cX8_takeNumber 162 = .ok (.getfield 110, 3) := by decide +kernel
theorem dX8_takeNumber_165 : decode cX8_takeNumber 165 = .ok (.invokevirtual 117, 3) := by decide +kernel
theorem dX8_takeNumber_168 : decode cX8_takeNumber 168 = .ok (.istore 5, 2) := by decide +kernel
theorem dX8_takeNumber_170 : decode cX8_takeNumber 170 = .ok (.iload 4, 2) := by decide +kernel
theorem dX8_takeNumber_172 : decode cX8_takeNumber 172 = .ok (.ireturn, 1) := by decide +kernel
theorem dX8_takeWheel_0 : decode cX8_takeWheel 0 = .ok (.aload_n 0, 1) := by decide +kernel
theorem dX8_takeWheel_1 : decode cX8_takeWheel 1 = .ok (.aload_n 0, 1) := by decide +kernel
theorem dX8_takeWheel_2 : decode cX8_takeWheel 2 = .ok (.getfield 122, 3) := by decide +kernel
theorem dX8_takeWheel_5 : decode cX8_takeWheel 5 = .ok (.bipush 8, 2) := by decide +kernel
theorem dX8_takeWheel_7 : decode cX8_takeWheel 7 = .ok (.if_icmp .ge 7, 3) := by decide +kernel
theorem dX8_takeWheel_10 : decode cX8_takeWheel 10 = .ok (.iconst 1, 1) := by decide +kernel
theorem dX8_takeWheel_11 : decode cX8_takeWheel 11 = .ok (.goto 4, 3) := by decide +kernel
theorem dX8_takeWheel_14 : decode cX8_takeWheel 14 = .ok (.iconst 0, 1) := by decide +kernel
theorem dX8_takeWheel_15 : decode cX8_takeWheel 15 = .ok (.iconst 3, 1) := by decide +kernel
theorem dX8_takeWheel_16 : decode cX8_takeWheel 16 = .ok (.iload_n 1, 1) := by decide +kernel
theorem dX8_takeWheel_17 : decode cX8_takeWheel 17 = .ok (.invokevirtual 117, 3) := by decide +kernel
theorem dX8_takeWheel_20 : decode cX8_takeWheel 20 = .ok (.ifCond .eq 68, 3) := by decide +kernel
theorem dX8_takeWheel_23 : decode cX8_takeWheel 23 = .ok (.aload_n 0, 1) := by decide +kernel
theorem dX8_takeWheel_24 : decode cX8_takeWheel 24 = .ok (.iconst 3, 1) := by decide +kernel
theorem dX8_takeWheel_25 : decode cX8_takeWheel 25 = .ok (.bipush 30, 2) := by decide +kernel
theorem dX8_takeWheel_27 : decode cX8_takeWheel 27 = .ok (.invokevirtual 125, 3) := by decide +kernel
theorem dX8_takeWheel_30 : decode cX8_takeWheel 30 = .ok (.istore_n 2, 1) := by decide +kernel
theorem dX8_takeWheel_31 : decode cX8_takeWheel 31 = .ok (.aload_n 0, 1) := by decide +kernel
theorem dX8_takeWheel_32 : decode cX8_takeWheel 32 = .ok (.iconst 0, 1) := by decide +kernel
theorem dX8_takeWheel_33 : decode cX8_takeWheel 33 = .ok (.bipush 29, 2) := by decide +kernel
theorem dX8_takeWheel_35 : decode cX8_takeWheel 35 = .ok (.invokevirtual 125, 3) := by decide +kernel
theorem dX8_takeWheel_38 : decode cX8_takeWheel 38 = .ok (.istore_n 3, 1) := by decide +kernel
theorem dX8_takeWheel_39 : decode cX8_takeWheel 39 = .ok (.aload_n 0, 1) := by decide +kernel
theorem dX8_takeWheel_40 : decode cX8_takeWheel 40 = .ok (.getfield 21, 3) := by decide +kernel
theorem dX8_takeWheel_43 : decode cX8_takeWheel 43 = .ok (.bipush 8, 2) := by decide +kernel
theorem dX8_takeWheel_45 : decode cX8_takeWheel 45 = .ok (.aload_n 0, 1) := by decide +kernel
theorem dX8_takeWheel_46 : decode cX8_takeWheel 46 = .ok (.getfield 122, 3) := by decide +kernel
theorem dX8_takeWheel_49 : decode cX8_takeWheel 49 = .ok (.iadd, 1) := by decide +kernel
theorem dX8_takeWheel_50 : decode cX8_takeWheel 50 = .ok (.iload_n 2, 1) := by decide +kernel
theorem dX8_takeWheel_51 : decode cX8_takeWheel 51 = .ok (.iastore, 1) := by decide +kernel
theorem dX8_takeWheel_52 : decode cX8_takeWheel 52 = .ok (.aload_n 0, 1) := by decide +kernel
theorem dX8_takeWheel_53 : decode cX8_takeWheel 53 = .ok (.getfield 24, 3) := by decide +kernel
theorem dX8_takeWheel_56 : decode cX8_takeWheel 56 = .ok (.bipush 8, 2) := by decide +kernel
theorem dX8_takeWheel_58 : decode cX8_takeWheel 58 = .ok (.aload_n 0, 1) := by decide +kernel
theorem dX8_takeWheel_59 : decode cX8_takeWheel 59 = .ok (.getfield 122, 3) := by decide +kernel
theorem dX8_takeWheel_62 : decode cX8_takeWheel 62 = .ok (.iadd, 1) := by decide +kernel
theorem dX8_takeWheel_63 : decode cX8_takeWheel 63 = .ok (.aload_n 0, 1) := by decide +kernel
theorem dX8_takeWheel_64 : decode cX8_takeWheel 64 = .ok (.getfield 103, 3) := by decide +kernel
theorem dX8_takeWheel_67 : decode cX8_takeWheel 67 = .ok (.ifCond .le 7, 3) := by decide +kernel
theorem dX8_takeWheel_70 : decode cX8_takeWheel 70 = .ok (.iconst 0, 1) := by decide +kernel
theorem dX8_takeWheel_71 : decode cX8_takeWheel 71 = .ok (.goto 6, 3) := by decide +kernel
theorem dX8_takeWheel_74 : decode cX8_takeWheel 74 = .ok (.iload_n 3, 1) := by decide +kernel
theorem dX8_takeWheel_75 : decode cX8_takeWheel 75 = .ok (.iload_n 2, 1) := by decide +kernel
theorem dX8_takeWheel_76 : decode cX8_takeWheel 76 = .ok (.irem, 1) := by decide +kernel
theorem dX8_takeWheel_77 : decode cX8_takeWheel 77 = .ok (.iastore, 1) := by decide +kernel
theorem dX8_takeWheel_78 : decode cX8_takeWheel 78 = .ok (.aload_n 0, 1) := by decide +kernel
theorem dX8_takeWheel_79 : decode cX8_takeWheel 79 = .ok (.dup, 1) := by decide +kernel
theorem dX8_takeWheel_80 : decode cX8_takeWheel 80 = .ok (.getfield 122, 3) := by decide +kernel
theorem dX8_takeWheel_83 : decode cX8_takeWheel 83 = .ok (.iconst 1, 1) := by decide +kernel
theorem dX8_takeWheel_84 : decode cX8_takeWheel 84 = .ok (.iadd, 1) := by decide +kernel
theorem dX8_takeWheel_85 : decode cX8_takeWheel 85 = .ok (.putfield 122, 3) := by decide +kernel
theorem dX8_takeWheel_88 : decode cX8_takeWheel 88 = .ok (.return_, 1) := by decide +kernel
theorem dX8_kindOf_0 : decode cX8_kindOf 0 = .ok (.iload_n 0, 1) := by decide +kernel
theorem dX8_kindOf_1 : decode cX8_kindOf 1 = .ok (.bipush 109, 2) := by decide +kernel
theorem dX8_kindOf_3 : decode cX8_kindOf 3 = .ok (.if_icmp .ne 7, 3) := by decide +kernel
theorem dX8_kindOf_6 : decode cX8_kindOf 6 = .ok (.iconst 0, 1) := by decide +kernel
theorem dX8_kindOf_7 : decode cX8_kindOf 7 = .ok (.goto 24, 3) := by decide +kernel
theorem dX8_kindOf_10 : decode cX8_kindOf 10 = .ok (.iload_n 0, 1) := by decide +kernel
theorem dX8_kindOf_11 : decode cX8_kindOf 11 = .ok (.bipush 98, 2) := by decide +kernel
theorem dX8_kindOf_13 : decode cX8_kindOf 13 = .ok (.if_icmp .ne 7, 3) := by decide +kernel
theorem dX8_kindOf_16 : decode cX8_kindOf 16 = .ok (.iconst 1, 1) := by decide +kernel
theorem dX8_kindOf_17 : decode cX8_kindOf 17 = .ok (.goto 14, 3) := by decide +kernel
theorem dX8_kindOf_20 : decode cX8_kindOf 20 = .ok (.iload_n 0, 1) := by decide +kernel
theorem dX8_kindOf_21 : decode cX8_kindOf 21 = .ok (.bipush 97, 2) := by decide +kernel
theorem dX8_kindOf_23 : decode cX8_kindOf 23 = .ok (.if_icmp .ne 7, 3) := by decide +kernel
theorem dX8_kindOf_26 : decode cX8_kindOf 26 = .ok (.iconst 2, 1) := by decide +kernel
theorem dX8_kindOf_27 : decode cX8_kindOf 27 = .ok (.goto 4, 3) := by decide +kernel
theorem dX8_kindOf_30 : decode cX8_kindOf 30 = .ok (.iconst (-1), 1) := by decide +kernel
theorem dX8_kindOf_31 : decode cX8_kindOf 31 = .ok (.ireturn, 1) := by decide +kernel
theorem dX8_takeLink_0 : decode cX8_takeLink 0 = .ok (.aload_n 0, 1) := by decide +kernel
theorem dX8_takeLink_1 : decode cX8_takeLink 1 = .ok (.aload_n 0, 1) := by decide +kernel
theorem dX8_takeLink_2 : decode cX8_takeLink 2 = .ok (.getfield 129, 3) := by decide +kernel
theorem dX8_takeLink_5 : decode cX8_takeLink 5 = .ok (.bipush 10, 2) := by decide +kernel
theorem dX8_takeLink_7 : decode cX8_takeLink 7 = .ok (.if_icmp .ge 7, 3) := by decide +kernel
theorem dX8_takeLink_10 : decode cX8_takeLink 10 = .ok (.iconst 1, 1) := by decide +kernel
theorem dX8_takeLink_11 : decode cX8_takeLink 11 = .ok (.goto 4, 3) := by decide +kernel
theorem dX8_takeLink_14 : decode cX8_takeLink 14 = .ok (.iconst 0, 1) := by decide +kernel
theorem dX8_takeLink_15 : decode cX8_takeLink 15 = .ok (.iconst 3, 1) := by decide +kernel
theorem dX8_takeLink_16 : decode cX8_takeLink 16 = .ok (.iload_n 1, 1) := by decide +kernel
theorem dX8_takeLink_17 : decode cX8_takeLink 17 = .ok (.invokevirtual 117, 3) := by decide +kernel
theorem dX8_takeLink_20 : decode cX8_takeLink 20 = .ok (.ifCond .eq 155, 3) := by decide +kernel
theorem dX8_takeLink_23 : decode cX8_takeLink 23 = .ok (.bipush 10, 2) := by decide +kernel
theorem dX8_takeLink_25 : decode cX8_takeLink 25 = .ok (.aload_n 0, 1) := by decide +kernel
theorem dX8_takeLink_26 : decode cX8_takeLink 26 = .ok (.getfield 129, 3) := by decide +kernel
theorem dX8_takeLink_29 : decode cX8_takeLink 29 = .ok (.iadd, 1) := by decide +kernel
theorem dX8_takeLink_30 : decode cX8_takeLink 30 = .ok (.istore_n 2, 1) := by decide +kernel
theorem dX8_takeLink_31 : decode cX8_takeLink 31 = .ok (.aload_n 0, 1) := by decide +kernel
theorem dX8_takeLink_32 : decode cX8_takeLink 32 = .ok (.getfield 27, 3) := by decide +kernel
theorem dX8_takeLink_35 : decode cX8_takeLink 35 = .ok (.iload_n 2, 1) := by decide +kernel
theorem dX8_takeLink_36 : decode cX8_takeLink 36 = .ok (.aload_n 0, 1) := by decide +kernel
theorem dX8_takeLink_37 : decode cX8_takeLink 37 = .ok (.invokevirtual 106, 3) := by decide +kernel
theorem dX8_takeLink_40 : decode cX8_takeLink 40 = .ok (.invokestatic 132, 3) := by decide +kernel
theorem dX8_takeLink_43 : decode cX8_takeLink 43 = .ok (.iastore, 1) := by decide +kernel
theorem dX8_takeLink_44 : decode cX8_takeLink 44 = .ok (.aload_n 0, 1) := by decide +kernel
theorem dX8_takeLink_45 : decode cX8_takeLink 45 = .ok (.aload_n 0, 1) := by decide +kernel
theorem dX8_takeLink_46 : decode cX8_takeLink 46 = .ok (.getfield 27, 3) := by decide +kernel
theorem dX8_takeLink_49 : decode cX8_takeLink 49 = .ok (.iload_n 2, 1) := by decide +kernel
theorem dX8_takeLink_50 : decode cX8_takeLink 50 = .ok (.iaload, 1) := by decide +kernel
theorem dX8_takeLink_51 : decode cX8_takeLink 51 = .ok (.ifCond .lt 7, 3) := by decide +kernel
theorem dX8_takeLink_54 : decode cX8_takeLink 54 = .ok (.iconst 1, 1) := by decide +kernel
theorem dX8_takeLink_55 : decode cX8_takeLink 55 = .ok (.goto 4, 3) := by decide +kernel
theorem dX8_takeLink_58 : decode cX8_takeLink 58 = .ok (.iconst 0, 1) := by decide +kernel
theorem dX8_takeLink_59 : decode cX8_takeLink 59 = .ok (.iconst 1, 1) := by decide +kernel
theorem dX8_takeLink_60 : decode cX8_takeLink 60 = .ok (.aload_n 0, 1) := by decide +kernel
theorem dX8_takeLink_61 : decode cX8_takeLink 61 = .ok (.getfield 100, 3) := by decide +kernel
theorem dX8_takeLink_64 : decode cX8_takeLink 64 = .ok (.invokevirtual 117, 3) := by decide +kernel
theorem dX8_takeLink_67 : decode cX8_takeLink 67 = .ok (.ifCond .eq 98, 3) := by decide +kernel
theorem dX8_takeLink_70 : decode cX8_takeLink 70 = .ok (.aload_n 0, 1) := by decide +kernel
theorem dX8_takeLink_71 : decode cX8_takeLink 71 = .ok (.dup, 1) := by decide +kernel
theorem dX8_takeLink_72 : decode cX8_takeLink 72 = .ok (.getfield 100, 3) := by decide +kernel
theorem dX8_takeLink_75 : decode cX8_takeLink 75 = .ok (.iconst 1, 1) := by decide +kernel
theorem dX8_takeLink_76 : decode cX8_takeLink 76 = .ok (.iadd, 1) := by decide +kernel
theorem dX8_takeLink_77 : decode cX8_takeLink 77 = .ok (.putfield 100, 3) := by decide +kernel
theorem dX8_takeLink_80 : decode cX8_takeLink 80 = .ok (.aload_n 0, 1) := by decide +kernel
theorem dX8_takeLink_81 : decode cX8_takeLink 81 = .ok (.getfield 30, 3) := by decide +kernel
theorem dX8_takeLink_84 : decode cX8_takeLink 84 = .ok (.iload_n 2, 1) := by decide +kernel
theorem dX8_takeLink_85 : decode cX8_takeLink 85 = .ok (.aload_n 0, 1) := by decide +kernel
theorem dX8_takeLink_86 : decode cX8_takeLink 86 = .ok (.iconst 0, 1) := by decide +kernel
theorem dX8_takeLink_87 : decode cX8_takeLink 87 = .ok (.aload_n 0, 1) := by decide +kernel
theorem dX8_takeLink_88 : decode cX8_takeLink 88 = .ok (.getfield 122, 3) := by decide +kernel
theorem dX8_takeLink_91 : decode cX8_takeLink 91 = .ok (.iconst 1, 1) := by decide +kernel
theorem dX8_takeLink_92 : decode cX8_takeLink 92 = .ok (.isub, 1) := by decide +kernel
theorem dX8_takeLink_93 : decode cX8_takeLink 93 = .ok (.invokevirtual 125, 3) := by decide +kernel
theorem dX8_takeLink_96 : decode cX8_takeLink 96 = .ok (.iastore, 1) := by decide +kernel
theorem dX8_takeLink_97 : decode cX8_takeLink 97 = .ok (.aload_n 0, 1) := by decide +kernel
theorem dX8_takeLink_98 : decode cX8_takeLink 98 = .ok (.getfield 33, 3) := by decide +kernel
theorem dX8_takeLink_101 : decode cX8_takeLink 101 = .ok (.iload_n 2, 1) := by decide +kernel
theorem dX8_takeLink_102 : decode cX8_takeLink 102 = .ok (.aload_n 0, 1) := by decide +kernel
theorem dX8_takeLink_103 : decode cX8_takeLink 103 = .ok (.iconst 0, 1) := by decide +kernel
theorem dX8_takeLink_104 : decode cX8_takeLink 104 = .ok (.aload_n 0, 1) := by decide +kernel
theorem dX8_takeLink_105 : decode cX8_takeLink 105 = .ok (.getfield 122, 3) := by decide +kernel
theorem dX8_takeLink_108 : decode cX8_takeLink 108 = .ok (.iconst 1, 1) := by decide +kernel
theorem dX8_takeLink_109 : decode cX8_takeLink 109 = .ok (.isub, 1) := by decide +kernel
theorem dX8_takeLink_110 : decode cX8_takeLink 110 = .ok (.invokevirtual 125, 3) := by decide +kernel
theorem dX8_takeLink_113 : decode cX8_takeLink 113 = .ok (.iastore, 1) := by decide +kernel
theorem dX8_takeLink_114 : decode cX8_takeLink 114 = .ok (.aload_n 0, 1) := by decide +kernel
theorem dX8_takeLink_115 : decode cX8_takeLink 115 = .ok (.aload_n 0, 1) := by decide +kernel
theorem dX8_takeLink_116 : decode cX8_takeLink 116 = .ok (.getfield 103, 3) := by decide +kernel
theorem dX8_takeLink_119 : decode cX8_takeLink 119 = .ok (.ifCond .gt 18, 3) := by decide +kernel
theorem dX8_takeLink_122 : decode cX8_takeLink 122 = .ok (.aload_n 0, 1) := by decide +kernel
theorem dX8_takeLink_123 : decode cX8_takeLink 123 = .ok (.getfield 30, 3) := by decide +kernel
theorem dX8_takeLink_126 : decode cX8_takeLink 126 = .ok (.iload_n 2, 1) := by decide +kernel
theorem dX8_takeLink_127 : decode cX8_takeLink 127 = .ok (.iaload, 1) := by decide +kernel
theorem dX8_takeLink_128 : decode cX8_takeLink 128 = .ok (.aload_n 0, 1) := by decide +kernel
theorem dX8_takeLink_129 : decode cX8_takeLink 129 = .ok (.getfield 33, 3) := by decide +kernel
theorem dX8_takeLink_132 : decode cX8_takeLink 132 = .ok (.iload_n 2, 1) := by decide +kernel
theorem dX8_takeLink_133 : decode cX8_takeLink 133 = .ok (.iaload, 1) := by decide +kernel
theorem dX8_takeLink_134 : decode cX8_takeLink 134 = .ok (.if_icmp .eq 7, 3) := by decide +kernel
theorem dX8_takeLink_137 : decode cX8_takeLink 137 = .ok (.iconst 1, 1) := by decide +kernel
theorem dX8_takeLink_138 : decode cX8_takeLink 138 = .ok (.goto 4, 3) := by decide +kernel
theorem dX8_takeLink_141 : decode cX8_takeLink 141 = .ok (.iconst 0, 1) := by decide +kernel
theorem dX8_takeLink_142 : decode cX8_takeLink 142 = .ok (.iconst 4, 1) := by decide +kernel
theorem dX8_takeLink_143 : decode cX8_takeLink 143 = .ok (.aload_n 0, 1) := by decide +kernel
theorem dX8_takeLink_144 : decode cX8_takeLink 144 = .ok (.getfield 110, 3) := by decide +kernel
theorem dX8_takeLink_147 : decode cX8_takeLink 147 = .ok (.invokevirtual 117, 3) := by decide +kernel
theorem dX8_takeLink_150 : decode cX8_takeLink 150 = .ok (.istore_n 3, 1) := by decide +kernel
theorem dX8_takeLink_151 : decode cX8_takeLink 151 = .ok (.aload_n 0, 1) := by decide +kernel
theorem dX8_takeLink_152 : decode cX8_takeLink 152 = .ok (.getfield 36, 3) := by decide +kernel
theorem dX8_takeLink_155 : decode cX8_takeLink 155 = .ok (.iload_n 2, 1) := by decide +kernel
theorem dX8_takeLink_156 : decode cX8_takeLink 156 = .ok (.aload_n 0, 1) := by decide +kernel
theorem dX8_takeLink_157 : decode cX8_takeLink 157 = .ok (.iconst 0, 1) := by decide +kernel
theorem dX8_takeLink_158 : decode cX8_takeLink 158 = .ok (.sipush 999, 3) := by decide +kernel
theorem dX8_takeLink_161 : decode cX8_takeLink 161 = .ok (.invokevirtual 125, 3) := by decide +kernel
theorem dX8_takeLink_164 : decode cX8_takeLink 164 = .ok (.iastore, 1) := by decide +kernel
theorem dX8_takeLink_165 : decode cX8_takeLink 165 = .ok (.aload_n 0, 1) := by decide +kernel
theorem dX8_takeLink_166 : decode cX8_takeLink 166 = .ok (.dup, 1) := by decide +kernel
theorem dX8_takeLink_167 : decode cX8_takeLink 167 = .ok (.getfield 129, 3) := by decide +kernel
theorem dX8_takeLink_170 : decode cX8_takeLink 170 = .ok (.iconst 1, 1) := by decide +kernel
theorem dX8_takeLink_171 : decode cX8_takeLink 171 = .ok (.iadd, 1) := by decide +kernel
theorem dX8_takeLink_172 : decode cX8_takeLink 172 = .ok (.putfield 129, 3) := by decide +kernel
theorem dX8_takeLink_175 : decode cX8_takeLink 175 = .ok (.return_, 1) := by decide +kernel
theorem dX8_takeDriven_0 : decode cX8_takeDriven 0 = .ok (.aload_n 0, 1) := by decide +kernel
theorem dX8_takeDriven_1 : decode cX8_takeDriven 1 = .ok (.aload_n 0, 1) := by decide +kernel
theorem dX8_takeDriven_2 : decode cX8_takeDriven 2 = .ok (.getfield 136, 3) := by decide +kernel
theorem dX8_takeDriven_5 : decode cX8_takeDriven 5 = .ok (.ifCond .ne 7, 3) := by decide +kernel
theorem dX8_takeDriven_8 : decode cX8_takeDriven 8 = .ok (.iconst 1, 1) := by decide +kernel
theorem dX8_takeDriven_9 : decode cX8_takeDriven 9 = .ok (.goto 4, 3) := by decide +kernel
theorem dX8_takeDriven_12 : decode cX8_takeDriven 12 = .ok (.iconst 0, 1) := by decide +kernel
theorem dX8_takeDriven_13 : decode cX8_takeDriven 13 = .ok (.iconst 3, 1) := by decide +kernel
theorem dX8_takeDriven_14 : decode cX8_takeDriven 14 = .ok (.iload_n 1, 1) := by decide +kernel
theorem dX8_takeDriven_15 : decode cX8_takeDriven 15 = .ok (.invokevirtual 117, 3) := by decide +kernel
theorem dX8_takeDriven_18 : decode cX8_takeDriven 18 = .ok (.ifCond .eq 34, 3) := by decide +kernel
theorem dX8_takeDriven_21 : decode cX8_takeDriven 21 = .ok (.aload_n 0, 1) := by decide +kernel
theorem dX8_takeDriven_22 : decode cX8_takeDriven 22 = .ok (.iconst 1, 1) := by decide +kernel
theorem dX8_takeDriven_23 : decode cX8_takeDriven 23 = .ok (.putfield 136, 3) := by decide +kernel
theorem dX8_takeDriven_26 : decode cX8_takeDriven 26 = .ok (.aload_n 0, 1) := by decide +kernel
theorem dX8_takeDriven_27 : decode cX8_takeDriven 27 = .ok (.aload_n 0, 1) := by decide +kernel
theorem dX8_takeDriven_28 : decode cX8_takeDriven 28 = .ok (.iconst 0, 1) := by decide +kernel
theorem dX8_takeDriven_29 : decode cX8_takeDriven 29 = .ok (.aload_n 0, 1) := by decide +kernel
theorem dX8_takeDriven_30 : decode cX8_takeDriven 30 = .ok (.getfield 122, 3) := by decide +kernel
theorem dX8_takeDriven_33 : decode cX8_takeDriven 33 = .ok (.iconst 1, 1) := by decide +kernel
theorem dX8_takeDriven_34 : decode cX8_takeDriven 34 = .ok (.isub, 1) := by decide +kernel
theorem dX8_takeDriven_35 : decode cX8_takeDriven 35 = .ok (.invokevirtual 125, 3) := by decide +kernel
theorem dX8_takeDriven_38 : decode cX8_takeDriven 38 = .ok (.putfield 140, 3) := by decide +kernel
theorem dX8_takeDriven_41 : decode cX8_takeDriven 41 = .ok (.aload_n 0, 1) := by decide +kernel
theorem dX8_takeDriven_42 : decode cX8_takeDriven 42 = .ok (.aload_n 0, 1) := by decide +kernel
theorem dX8_takeDriven_43 : decode cX8_takeDriven 43 = .ok (.iconst 1, 1) := by decide +kernel
theorem dX8_takeDriven_44 : decode cX8_takeDriven 44 = .ok (.bipush 30, 2) := by decide +kernel
theorem dX8_takeDriven_46 : decode cX8_takeDriven 46 = .ok (.invokevirtual 125, 3) := by decide +kernel
theorem dX8_takeDriven_49 : decode cX8_takeDriven 49 = .ok (.putfield 143, 3) := by decide +kernel
theorem dX8_takeDriven_52 : decode cX8_takeDriven 52 = .ok (.return_, 1) := by decide +kernel
theorem dX8_takeFeast_0 : decode cX8_takeFeast 0 = .ok (.aload_n 0, 1) := by decide +kernel
theorem dX8_takeFeast_1 : decode cX8_takeFeast 1 = .ok (.aload_n 0, 1) := by decide +kernel
theorem dX8_takeFeast_2 : decode cX8_takeFeast 2 = .ok (.getfield 146, 3) := by decide +kernel
theorem dX8_takeFeast_5 : decode cX8_takeFeast 5 = .ok (.bipush 6, 2) := by decide +kernel
theorem dX8_takeFeast_7 : decode cX8_takeFeast 7 = .ok (.if_icmp .ge 7, 3) := by decide +kernel
theorem dX8_takeFeast_10 : decode cX8_takeFeast 10 = .ok (.iconst 1, 1) := by decide +kernel
theorem dX8_takeFeast_11 : decode cX8_takeFeast 11 = .ok (.goto 4, 3) := by decide +kernel
theorem dX8_takeFeast_14 : decode cX8_takeFeast 14 = .ok (.iconst 0, 1) := by decide +kernel
theorem dX8_takeFeast_15 : decode cX8_takeFeast 15 = .ok (.iconst 3, 1) := by decide +kernel
theorem dX8_takeFeast_16 : decode cX8_takeFeast 16 = .ok (.iload_n 1, 1) := by decide +kernel
theorem dX8_takeFeast_17 : decode cX8_takeFeast 17 = .ok (.invokevirtual 117, 3) := by decide +kernel
theorem dX8_takeFeast_20 : decode cX8_takeFeast 20 = .ok (.ifCond .eq 96, 3) := by decide +kernel
theorem dX8_takeFeast_23 : decode cX8_takeFeast 23 = .ok (.bipush 6, 2) := by decide +kernel
theorem dX8_takeFeast_25 : decode cX8_takeFeast 25 = .ok (.aload_n 0, 1) := by decide +kernel
theorem dX8_takeFeast_26 : decode cX8_takeFeast 26 = .ok (.getfield 146, 3) := by decide +kernel
theorem dX8_takeFeast_29 : decode cX8_takeFeast 29 = .ok (.iadd, 1) := by decide +kernel
theorem dX8_takeFeast_30 : decode cX8_takeFeast 30 = .ok (.istore_n 2, 1) := by decide +kernel
theorem dX8_takeFeast_31 : decode cX8_takeFeast 31 = .ok (.aload_n 0, 1) := by decide +kernel
theorem dX8_takeFeast_32 : decode cX8_takeFeast 32 = .ok (.getfield 39, 3) := by decide +kernel
theorem dX8_takeFeast_35 : decode cX8_takeFeast 35 = .ok (.iload_n 2, 1) := by decide +kernel
theorem dX8_takeFeast_36 : decode cX8_takeFeast 36 = .ok (.aload_n 0, 1) := by decide +kernel
theorem dX8_takeFeast_37 : decode cX8_takeFeast 37 = .ok (.iconst 0, 1) := by decide +kernel
theorem dX8_takeFeast_38 : decode cX8_takeFeast 38 = .ok (.aload_n 0, 1) := by decide +kernel
theorem dX8_takeFeast_39 : decode cX8_takeFeast 39 = .ok (.getfield 122, 3) := by decide +kernel
theorem dX8_takeFeast_42 : decode cX8_takeFeast 42 = .ok (.iconst 1, 1) := by decide +kernel
theorem dX8_takeFeast_43 : decode cX8_takeFeast 43 = .ok (.isub, 1) := by decide +kernel
theorem dX8_takeFeast_44 : decode cX8_takeFeast 44 = .ok (.invokevirtual 125, 3) := by decide +kernel
theorem dX8_takeFeast_47 : decode cX8_takeFeast 47 = .ok (.iastore, 1) := by decide +kernel
theorem dX8_takeFeast_48 : decode cX8_takeFeast 48 = .ok (.aload_n 0, 1) := by decide +kernel
theorem dX8_takeFeast_49 : decode cX8_takeFeast 49 = .ok (.getfield 42, 3) := by decide +kernel
theorem dX8_takeFeast_52 : decode cX8_takeFeast 52 = .ok (.iload_n 2, 1) := by decide +kernel
theorem dX8_takeFeast_53 : decode cX8_takeFeast 53 = .ok (.aload_n 0, 1) := by decide +kernel
theorem dX8_takeFeast_54 : decode cX8_takeFeast 54 = .ok (.iconst 0, 1) := by decide +kernel
theorem dX8_takeFeast_55 : decode cX8_takeFeast 55 = .ok (.bipush 29, 2) := by decide +kernel
theorem dX8_takeFeast_57 : decode cX8_takeFeast 57 = .ok (.invokevirtual 125, 3) := by decide +kernel
theorem dX8_takeFeast_60 : decode cX8_takeFeast 60 = .ok (.iastore, 1) := by decide +kernel
theorem dX8_takeFeast_61 : decode cX8_takeFeast 61 = .ok (.aload_n 0, 1) := by decide +kernel
theorem dX8_takeFeast_62 : decode cX8_takeFeast 62 = .ok (.aload_n 0, 1) := by decide +kernel
theorem dX8_takeFeast_63 : decode cX8_takeFeast 63 = .ok (.getfield 103, 3) := by decide +kernel
theorem dX8_takeFeast_66 : decode cX8_takeFeast 66 = .ok (.ifCond .gt 26, 3) := by decide +kernel
theorem dX8_takeFeast_69 : decode cX8_takeFeast 69 = .ok (.aload_n 0, 1) := by decide +kernel
theorem dX8_takeFeast_70 : decode cX8_takeFeast 70 = .ok (.getfield 42, 3) := by decide +kernel
theorem dX8_takeFeast_73 : decode cX8_takeFeast 73 = .ok (.iload_n 2, 1) := by decide +kernel
theorem dX8_takeFeast_74 : decode cX8_takeFeast 74 = .ok (.iaload, 1) := by decide +kernel
theorem dX8_takeFeast_75 : decode cX8_takeFeast 75 = .ok (.aload_n 0, 1) := by decide +kernel
theorem dX8_takeFeast_76 : decode cX8_takeFeast 76 = .ok (.getfield 21, 3) := by decide +kernel
theorem dX8_takeFeast_79 : decode cX8_takeFeast 79 = .ok (.bipush 8, 2) := by decide +kernel
theorem dX8_takeFeast_81 : decode cX8_takeFeast 81 = .ok (.aload_n 0, 1) := by decide +kernel
theorem dX8_takeFeast_82 : decode cX8_takeFeast 82 = .ok (.getfield 39, 3) := by decide +kernel
theorem dX8_takeFeast_85 : decode cX8_takeFeast 85 = .ok (.iload_n 2, 1) := by decide +kernel
theorem dX8_takeFeast_86 : decode cX8_takeFeast 86 = .ok (.iaload, 1) := by decide +kernel
theorem dX8_takeFeast_87 : decode cX8_takeFeast 87 = .ok (.iadd, 1) := by decide +kernel
theorem dX8_takeFeast_88 : decode cX8_takeFeast 88 = .ok (.iaload, 1) := by decide +kernel
theorem dX8_takeFeast_89 : decode cX8_takeFeast 89 = .ok (.if_icmp .ge 7, 3) := by decide +kernel
theorem dX8_takeFeast_92 : decode cX8_takeFeast 92 = .ok (.iconst 1, 1) := by decide +kernel
theorem dX8_takeFeast_93 : decode cX8_takeFeast 93 = .ok (.goto 4, 3) := by decide +kernel
theorem dX8_takeFeast_96 : decode cX8_takeFeast 96 = .ok (.iconst 0, 1) := by decide +kernel
theorem dX8_takeFeast_97 : decode cX8_takeFeast 97 = .ok (.iconst 4, 1) := by decide +kernel
theorem dX8_takeFeast_98 : decode cX8_takeFeast 98 = .ok (.aload_n 0, 1) := by decide +kernel
theorem dX8_takeFeast_99 : decode cX8_takeFeast 99 = .ok (.getfield 110, 3) := by decide +kernel
theorem dX8_takeFeast_102 : decode cX8_takeFeast 102 = .ok (.invokevirtual 117, 3) := by decide +kernel
theorem dX8_takeFeast_105 : decode cX8_takeFeast 105 = .ok (.istore_n 3, 1) := by decide +kernel
theorem dX8_takeFeast_106 : decode cX8_takeFeast 106 = .ok (.aload_n 0, 1) := by decide +kernel
theorem dX8_takeFeast_107 : decode cX8_takeFeast 107 = .ok (.dup, 1) := by decide +kernel
theorem dX8_takeFeast_108 : decode cX8_takeFeast 108 = .ok (.getfield 146, 3) := by decide +kernel
theorem dX8_takeFeast_111 : decode cX8_takeFeast 111 = .ok (.iconst 1, 1) := by decide +kernel
theorem dX8_takeFeast_112 : decode cX8_takeFeast 112 = .ok (.iadd, 1) := by decide +kernel
theorem dX8_takeFeast_113 : decode cX8_takeFeast 113 = .ok (.putfield 146, 3) := by decide +kernel
theorem dX8_takeFeast_116 : decode cX8_takeFeast 116 = .ok (.return_, 1) := by decide +kernel
theorem dX8_takeClause_0 : decode cX8_takeClause 0 = .ok (.aload_n 0, 1) := by decide +kernel
theorem dX8_takeClause_1 : decode cX8_takeClause 1 = .ok (.invokevirtual 106, 3) := by decide +kernel
theorem dX8_takeClause_4 : decode cX8_takeClause 4 = .ok (.istore_n 1, 1) := by decide +kernel
theorem dX8_takeClause_5 : decode cX8_takeClause 5 = .ok (.aload_n 0, 1) := by decide +kernel
theorem dX8_takeClause_6 : decode cX8_takeClause 6 = .ok (.getfield 100, 3) := by decide +kernel
theorem dX8_takeClause_9 : decode cX8_takeClause 9 = .ok (.istore_n 2, 1) := by decide +kernel
theorem dX8_takeClause_10 : decode cX8_takeClause 10 = .ok (.aload_n 0, 1) := by decide +kernel
theorem dX8_takeClause_11 : decode cX8_takeClause 11 = .ok (.dup, 1) := by decide +kernel
theorem dX8_takeClause_12 : decode cX8_takeClause 12 = .ok (.getfield 100, 3) := by decide +kernel
theorem dX8_takeClause_15 : decode cX8_takeClause 15 = .ok (.iconst 1, 1) := by decide +kernel
theorem dX8_takeClause_16 : decode cX8_takeClause 16 = .ok (.iadd, 1) := by decide +kernel
theorem dX8_takeClause_17 : decode cX8_takeClause 17 = .ok (.putfield 100, 3) := by decide +kernel
theorem dX8_takeClause_20 : decode cX8_takeClause 20 = .ok (.iload_n 1, 1) := by decide +kernel
theorem dX8_takeClause_21 : decode cX8_takeClause 21 = .ok (.bipush 119, 2) := by decide +kernel
theorem dX8_takeClause_23 : decode cX8_takeClause 23 = .ok (.if_icmp .ne 11, 3) := by decide +kernel
theorem dX8_takeClause_26 : decode cX8_takeClause 26 = .ok (.aload_n 0, 1) := by decide +kernel
theorem dX8_takeClause_27 : decode cX8_takeClause 27 = .ok (.iload_n 2, 1) := by decide +kernel
theorem dX8_takeClause_28 : decode cX8_takeClause 28 = .ok (.invokevirtual 149, 3) := by decide +kernel
theorem dX8_takeClause_31 : decode cX8_takeClause 31 = .ok (.goto 56, 3) := by decide +kernel
theorem dX8_takeClause_34 : decode cX8_takeClause 34 = .ok (.iload_n 1, 1) := by decide +kernel
theorem dX8_takeClause_35 : decode cX8_takeClause 35 = .ok (.bipush 108, 2) := by decide +kernel
theorem dX8_takeClause_37 : decode cX8_takeClause 37 = .ok (.if_icmp .ne 11, 3) := by decide +kernel
theorem dX8_takeClause_40 : decode cX8_takeClause 40 = .ok (.aload_n 0, 1) := by decide +kernel
theorem dX8_takeClause_41 : decode cX8_takeClause 41 = .ok (.iload_n 2, 1) := by decide +kernel
theorem dX8_takeClause_42 : decode cX8_takeClause 42 = .ok (.invokevirtual 153, 3) := by decide +kernel
theorem dX8_takeClause_45 : decode cX8_takeClause 45 = .ok (.goto 42, 3) := by decide +kernel
theorem dX8_takeClause_48 : decode cX8_takeClause 48 = .ok (.iload_n 1, 1) := by decide +kernel
theorem dX8_takeClause_49 : decode cX8_takeClause 49 = .ok (.bipush 100, 2) := by decide +kernel
theorem dX8_takeClause_51 : decode cX8_takeClause 51 = .ok (.if_icmp .ne 11, 3) := by decide +kernel
theorem dX8_takeClause_54 : decode cX8_takeClause 54 = .ok (.aload_n 0, 1) := by decide +kernel
theorem dX8_takeClause_55 : decode cX8_takeClause 55 = .ok (.iload_n 2, 1) := by decide +kernel
theorem dX8_takeClause_56 : decode cX8_takeClause 56 = .ok (.invokevirtual 156, 3) := by decide +kernel
theorem dX8_takeClause_59 : decode cX8_takeClause 59 = .ok (.goto 28, 3) := by decide +kernel
theorem dX8_takeClause_62 : decode cX8_takeClause 62 = .ok (.aload_n 0, 1) := by decide +kernel
theorem dX8_takeClause_63 : decode cX8_takeClause 63 = .ok (.iload_n 1, 1) := by decide +kernel
theorem dX8_takeClause_64 : decode cX8_takeClause 64 = .ok (.bipush 102, 2) := by decide +kernel
theorem dX8_takeClause_66 : decode cX8_takeClause 66 = .ok (.if_icmp .ne 7, 3) := by decide +kernel
theorem dX8_takeClause_69 : decode cX8_takeClause 69 = .ok (.iconst 1, 1) := by decide +kernel
theorem dX8_takeClause_70 : decode cX8_takeClause 70 = .ok (.goto 4, 3) := by decide +kernel
theorem dX8_takeClause_73 : decode cX8_takeClause 73 = .ok (.iconst 0, 1) := by decide +kernel
theorem dX8_takeClause_74 : decode cX8_takeClause 74 = .ok (.iconst 1, 1) := by decide +kernel
theorem dX8_takeClause_75 : decode cX8_takeClause 75 = .ok (.iload_n 2, 1) := by decide +kernel
theorem dX8_takeClause_76 : decode cX8_takeClause 76 = .ok (.invokevirtual 117, 3) := by decide +kernel
theorem dX8_takeClause_79 : decode cX8_takeClause 79 = .ok (.ifCond .eq 8, 3) := by decide +kernel
theorem dX8_takeClause_82 : decode cX8_takeClause 82 = .ok (.aload_n 0, 1) := by decide +kernel
theorem dX8_takeClause_83 : decode cX8_takeClause 83 = .ok (.iload_n 2, 1) := by decide +kernel
theorem dX8_takeClause_84 : decode cX8_takeClause 84 = .ok (.invokevirtual 159, 3) := by decide +kernel
theorem dX8_takeClause_87 : decode cX8_takeClause 87 = .ok (.return_, 1) := by decide +kernel
theorem dX8_clock_0 : decode cX8_clock 0 = .ok (.aload_n 0, 1) := by decide +kernel
theorem dX8_clock_1 : decode cX8_clock 1 = .ok (.iconst 0, 1) := by decide +kernel
theorem dX8_clock_2 : decode cX8_clock 2 = .ok (.putfield 100, 3) := by decide +kernel
theorem dX8_clock_5 : decode cX8_clock 5 = .ok (.aload_n 0, 1) := by decide +kernel
theorem dX8_clock_6 : decode cX8_clock 6 = .ok (.iconst 0, 1) := by decide +kernel
theorem dX8_clock_7 : decode cX8_clock 7 = .ok (.putfield 103, 3) := by decide +kernel
theorem dX8_clock_10 : decode cX8_clock 10 = .ok (.aload_n 0, 1) := by decide +kernel
theorem dX8_clock_11 : decode cX8_clock 11 = .ok (.iconst (-1), 1) := by decide +kernel
theorem dX8_clock_12 : decode cX8_clock 12 = .ok (.putfield 48, 3) := by decide +kernel
theorem dX8_clock_15 : decode cX8_clock 15 = .ok (.aload_n 0, 1) := by decide +kernel
theorem dX8_clock_16 : decode cX8_clock 16 = .ok (.iconst 0, 1) := by decide +kernel
theorem dX8_clock_17 : decode cX8_clock 17 = .ok (.putfield 122, 3) := by decide +kernel
theorem dX8_clock_20 : decode cX8_clock 20 = .ok (.aload_n 0, 1) := by decide +kernel
theorem dX8_clock_21 : decode cX8_clock 21 = .ok (.iconst 0, 1) := by decide +kernel
theorem dX8_clock_22 : decode cX8_clock 22 = .ok (.putfield 129, 3) := by decide +kernel
theorem dX8_clock_25 : decode cX8_clock 25 = .ok (.aload_n 0, 1) := by decide +kernel
theorem dX8_clock_26 : decode cX8_clock 26 = .ok (.iconst 0, 1) := by decide +kernel
theorem dX8_clock_27 : decode cX8_clock 27 = .ok (.putfield 146, 3) := by decide +kernel
theorem dX8_clock_30 : decode cX8_clock 30 = .ok (.aload_n 0, 1) := by decide +kernel
theorem dX8_clock_31 : decode cX8_clock 31 = .ok (.iconst 0, 1) := by decide +kernel
theorem dX8_clock_32 : decode cX8_clock 32 = .ok (.putfield 140, 3) := by decide +kernel
theorem dX8_clock_35 : decode cX8_clock 35 = .ok (.aload_n 0, 1) := by decide +kernel
theorem dX8_clock_36 : decode cX8_clock 36 = .ok (.iconst 1, 1) := by decide +kernel
theorem dX8_clock_37 : decode cX8_clock 37 = .ok (.putfield 143, 3) := by decide +kernel
theorem dX8_clock_40 : decode cX8_clock 40 = .ok (.aload_n 0, 1) := by decide +kernel
theorem dX8_clock_41 : decode cX8_clock 41 = .ok (.iconst 0, 1) := by decide +kernel
theorem dX8_clock_42 : decode cX8_clock 42 = .ok (.putfield 136, 3) := by decide +kernel
theorem dX8_clock_45 : decode cX8_clock 45 = .ok (.aload_n 0, 1) := by decide +kernel
theorem dX8_clock_46 : decode cX8_clock 46 = .ok (.getfield 103, 3) := by decide +kernel
theorem dX8_clock_49 : decode cX8_clock 49 = .ok (.ifCond .ne 60, 3) := by decide +kernel
theorem dX8_clock_52 : decode cX8_clock 52 = .ok (.aload_n 0, 1) := by decide +kernel
theorem dX8_clock_53 : decode cX8_clock 53 = .ok (.invokevirtual 106, 3) := by decide +kernel
theorem dX8_clock_56 : decode cX8_clock 56 = .ok (.ifCond .lt 53, 3) := by decide +kernel
theorem dX8_clock_59 : decode cX8_clock 59 = .ok (.aload_n 0, 1) := by decide +kernel
theorem dX8_clock_60 : decode cX8_clock 60 = .ok (.invokevirtual 162, 3) := by decide +kernel
theorem dX8_clock_63 : decode cX8_clock 63 = .ok (.aload_n 0, 1) := by decide +kernel
theorem dX8_clock_64 : decode cX8_clock 64 = .ok (.getfield 103, 3) := by decide +kernel
theorem dX8_clock_67 : decode cX8_clock 67 = .ok (.ifCond .ne (-22), 3) := by decide +kernel
theorem dX8_clock_70 : decode cX8_clock 70 = .ok (.aload_n 0, 1) := by decide +kernel
theorem dX8_clock_71 : decode cX8_clock 71 = .ok (.aload_n 0, 1) := by decide +kernel
theorem dX8_clock_72 : decode cX8_clock 72 = .ok (.invokevirtual 106, 3) := by decide +kernel
theorem dX8_clock_75 : decode cX8_clock 75 = .ok (.bipush 59, 2) := by decide +kernel
theorem dX8_clock_77 : decode cX8_clock 77 = .ok (.if_icmp .ne 7, 3) := by decide +kernel
theorem dX8_clock_80 : decode cX8_clock 80 = .ok (.iconst 1, 1) := by decide +kernel
theorem dX8_clock_81 : decode cX8_clock 81 = .ok (.goto 4, 3) := by decide +kernel
theorem dX8_clock_84 : decode cX8_clock 84 = .ok (.iconst 0, 1) := by decide +kernel
theorem dX8_clock_85 : decode cX8_clock 85 = .ok (.iconst 1, 1) := by decide +kernel
theorem dX8_clock_86 : decode cX8_clock 86 = .ok (.aload_n 0, 1) := by decide +kernel
theorem dX8_clock_87 : decode cX8_clock 87 = .ok (.getfield 100, 3) := by decide +kernel
theorem dX8_clock_90 : decode cX8_clock 90 = .ok (.invokevirtual 117, 3) := by decide +kernel
theorem dX8_clock_93 : decode cX8_clock 93 = .ok (.ifCond .eq (-48), 3) := by decide +kernel
theorem dX8_clock_96 : decode cX8_clock 96 = .ok (.aload_n 0, 1) := by decide +kernel
theorem dX8_clock_97 : decode cX8_clock 97 = .ok (.dup, 1) := by decide +kernel
theorem dX8_clock_98 : decode cX8_clock 98 = .ok (.getfield 100, 3) := by decide +kernel
theorem dX8_clock_101 : decode cX8_clock 101 = .ok (.iconst 1, 1) := by decide +kernel
theorem dX8_clock_102 : decode cX8_clock 102 = .ok (.iadd, 1) := by decide +kernel
theorem dX8_clock_103 : decode cX8_clock 103 = .ok (.putfield 100, 3) := by decide +kernel
theorem dX8_clock_106 : decode cX8_clock 106 = .ok (.goto (-61), 3) := by decide +kernel
theorem dX8_clock_109 : decode cX8_clock 109 = .ok (.aload_n 0, 1) := by decide +kernel
theorem dX8_clock_110 : decode cX8_clock 110 = .ok (.iconst 0, 1) := by decide +kernel
theorem dX8_clock_111 : decode cX8_clock 111 = .ok (.putfield 96, 3) := by decide +kernel
theorem dX8_clock_114 : decode cX8_clock 114 = .ok (.aload_n 0, 1) := by decide +kernel
theorem dX8_clock_115 : decode cX8_clock 115 = .ok (.getfield 103, 3) := by decide +kernel
theorem dX8_clock_118 : decode cX8_clock 118 = .ok (.ifCond .le 11, 3) := by decide +kernel
theorem dX8_clock_121 : decode cX8_clock 121 = .ok (.bipush (-10), 2) := by decide +kernel
theorem dX8_clock_123 : decode cX8_clock 123 = .ok (.aload_n 0, 1) := by decide +kernel
theorem dX8_clock_124 : decode cX8_clock 124 = .ok (.getfield 103, 3) := by decide +kernel
theorem dX8_clock_127 : decode cX8_clock 127 = .ok (.isub, 1) := by decide +kernel
theorem dX8_clock_128 : decode cX8_clock 128 = .ok (.ireturn, 1) := by decide +kernel
theorem dX8_clock_129 : decode cX8_clock 129 = .ok (.aload_n 0, 1) := by decide +kernel
theorem dX8_clock_130 : decode cX8_clock 130 = .ok (.invokevirtual 165, 3) := by decide +kernel
theorem dX8_clock_133 : decode cX8_clock 133 = .ok (.iconst 0, 1) := by decide +kernel
theorem dX8_clock_134 : decode cX8_clock 134 = .ok (.istore_n 1, 1) := by decide +kernel
theorem dX8_clock_135 : decode cX8_clock 135 = .ok (.iload_n 1, 1) := by decide +kernel
theorem dX8_clock_136 : decode cX8_clock 136 = .ok (.bipush 8, 2) := by decide +kernel
theorem dX8_clock_138 : decode cX8_clock 138 = .ok (.if_icmp .ge 21, 3) := by decide +kernel
theorem dX8_clock_141 : decode cX8_clock 141 = .ok (.aload_n 0, 1) := by decide +kernel
theorem dX8_clock_142 : decode cX8_clock 142 = .ok (.getfield 7, 3) := by decide +kernel
theorem dX8_clock_145 : decode cX8_clock 145 = .ok (.iload_n 1, 1) := by decide +kernel
theorem dX8_clock_146 : decode cX8_clock 146 = .ok (.aload_n 0, 1) := by decide +kernel
theorem dX8_clock_147 : decode cX8_clock 147 = .ok (.getfield 24, 3) := by decide +kernel
theorem dX8_clock_150 : decode cX8_clock 150 = .ok (.iload_n 1, 1) := by decide +kernel
theorem dX8_clock_151 : decode cX8_clock 151 = .ok (.iaload, 1) := by decide +kernel
theorem dX8_clock_152 : decode cX8_clock 152 = .ok (.iastore, 1) := by decide +kernel
theorem dX8_clock_153 : decode cX8_clock 153 = .ok (.iinc 1 1, 3) := by decide +kernel
theorem dX8_clock_156 : decode cX8_clock 156 = .ok (.goto (-21), 3) := by decide +kernel
theorem dX8_clock_159 : decode cX8_clock 159 = .ok (.aload_n 0, 1) := by decide +kernel
theorem dX8_clock_160 : decode cX8_clock 160 = .ok (.getfield 7, 3) := by decide +kernel
theorem dX8_clock_163 : decode cX8_clock 163 = .ok (.bipush 8, 2) := by decide +kernel
theorem dX8_clock_165 : decode cX8_clock 165 = .ok (.iconst 0, 1) := by decide +kernel
theorem dX8_clock_166 : decode cX8_clock 166 = .ok (.iastore, 1) := by decide +kernel
theorem dX8_clock_167 : decode cX8_clock 167 = .ok (.aload_n 0, 1) := by decide +kernel
theorem dX8_clock_168 : decode cX8_clock 168 = .ok (.getfield 7, 3) := by decide +kernel
theorem dX8_clock_171 : decode cX8_clock 171 = .ok (.bipush 9, 2) := by decide +kernel
theorem dX8_clock_173 : decode cX8_clock 173 = .ok (.iconst 0, 1) := by decide +kernel
theorem dX8_clock_174 : decode cX8_clock 174 = .ok (.iastore, 1) := by decide +kernel
theorem dX8_clock_175 : decode cX8_clock 175 = .ok (.aload_n 0, 1) := by decide +kernel
theorem dX8_clock_176 : decode cX8_clock 176 = .ok (.getfield 7, 3) := by decide +kernel
theorem dX8_clock_179 : decode cX8_clock 179 = .ok (.bipush 10, 2) := by decide +kernel
theorem dX8_clock_181 : decode cX8_clock 181 = .ok (.iconst 0, 1) := by decide +kernel
theorem dX8_clock_182 : decode cX8_clock 182 = .ok (.iastore, 1) := by decide +kernel
theorem dX8_clock_183 : decode cX8_clock 183 = .ok (.aload_n 0, 1) := by decide +kernel
theorem dX8_clock_184 : decode cX8_clock 184 = .ok (.iconst 0, 1) := by decide +kernel
theorem dX8_clock_185 : decode cX8_clock 185 = .ok (.putfield 168, 3) := by decide +kernel
theorem dX8_clock_188 : decode cX8_clock 188 = .ok (.aload_n 0, 1) := by decide +kernel
theorem dX8_clock_189 : decode cX8_clock 189 = .ok (.iconst 0, 1) := by decide +kernel
theorem dX8_clock_190 : decode cX8_clock 190 = .ok (.putfield 171, 3) := by decide +kernel
theorem dX8_clock_193 : decode cX8_clock 193 = .ok (.aload_n 0, 1) := by decide +kernel
theorem dX8_clock_194 : decode cX8_clock 194 = .ok (.iconst 0, 1) := by decide +kernel
theorem dX8_clock_195 : decode cX8_clock 195 = .ok (.putfield 174, 3) := by decide +kernel
theorem dX8_clock_198 : decode cX8_clock 198 = .ok (.aload_n 0, 1) := by decide +kernel
theorem dX8_clock_199 : decode cX8_clock 199 = .ok (.getfield 13, 3) := by decide +kernel
theorem dX8_clock_202 : decode cX8_clock 202 = .ok (.iconst 0, 1) := by decide +kernel
theorem dX8_clock_203 : decode cX8_clock 203 = .ok (.iconst 0, 1) := by decide +kernel
theorem dX8_clock_204 : decode cX8_clock 204 = .ok (.bastore, 1) := by decide +kernel
theorem dX8_clock_205 : decode cX8_clock 205 = .ok (.aload_n 0, 1) := by decide +kernel
theorem dX8_clock_206 : decode cX8_clock 206 = .ok (.getfield 13, 3) := by decide +kernel
theorem dX8_clock_209 : decode cX8_clock 209 = .ok (.iconst 1, 1) := by decide +kernel
theorem dX8_clock_210 : decode cX8_clock 210 = .ok (.iconst 0, 1) := by decide +kernel
theorem dX8_clock_211 : decode cX8_clock 211 = .ok (.bastore, 1) := by decide +kernel
theorem dX8_clock_212 : decode cX8_clock 212 = .ok (.aload_n 0, 1) := by decide +kernel
theorem dX8_clock_213 : decode cX8_clock 213 = .ok (.getfield 177, 3) := by decide +kernel
theorem dX8_clock_216 : decode cX8_clock 216 = .ok (.ireturn, 1) := by decide +kernel
theorem dX8_take_0 : decode cX8_take 0 = .ok (.aload_n 0, 1) := by decide +kernel
theorem dX8_take_1 : decode cX8_take 1 = .ok (.aload_n 0, 1) := by decide +kernel
theorem dX8_take_2 : decode cX8_take 2 = .ok (.getfield 122, 3) := by decide +kernel
theorem dX8_take_5 : decode cX8_take 5 = .ok (.putfield 177, 3) := by decide +kernel
theorem dX8_take_8 : decode cX8_take 8 = .ok (.aload_n 0, 1) := by decide +kernel
theorem dX8_take_9 : decode cX8_take 9 = .ok (.aload_n 0, 1) := by decide +kernel
theorem dX8_take_10 : decode cX8_take 10 = .ok (.getfield 129, 3) := by decide +kernel
theorem dX8_take_13 : decode cX8_take 13 = .ok (.putfield 180, 3) := by decide +kernel
theorem dX8_take_16 : decode cX8_take 16 = .ok (.aload_n 0, 1) := by decide +kernel
theorem dX8_take_17 : decode cX8_take 17 = .ok (.aload_n 0, 1) := by decide +kernel
theorem dX8_take_18 : decode cX8_take 18 = .ok (.getfield 146, 3) := by decide +kernel
theorem dX8_take_21 : decode cX8_take 21 = .ok (.putfield 183, 3) := by decide +kernel
theorem dX8_take_24 : decode cX8_take 24 = .ok (.aload_n 0, 1) := by decide +kernel
theorem dX8_take_25 : decode cX8_take 25 = .ok (.aload_n 0, 1) := by decide +kernel
theorem dX8_take_26 : decode cX8_take 26 = .ok (.getfield 140, 3) := by decide +kernel
theorem dX8_take_29 : decode cX8_take 29 = .ok (.putfield 186, 3) := by decide +kernel
theorem dX8_take_32 : decode cX8_take 32 = .ok (.aload_n 0, 1) := by decide +kernel
theorem dX8_take_33 : decode cX8_take 33 = .ok (.aload_n 0, 1) := by decide +kernel
theorem dX8_take_34 : decode cX8_take 34 = .ok (.getfield 143, 3) := by decide +kernel
theorem dX8_take_37 : decode cX8_take 37 = .ok (.putfield 17, 3) := by decide +kernel
theorem dX8_take_40 : decode cX8_take 40 = .ok (.iconst 0, 1) := by decide +kernel
theorem dX8_take_41 : decode cX8_take 41 = .ok (.istore_n 1, 1) := by decide +kernel
theorem dX8_take_42 : decode cX8_take 42 = .ok (.iload_n 1, 1) := by decide +kernel
theorem dX8_take_43 : decode cX8_take 43 = .ok (.bipush 8, 2) := by decide +kernel
theorem dX8_take_45 : decode cX8_take 45 = .ok (.if_icmp .ge 39, 3) := by decide +kernel
theorem dX8_take_48 : decode cX8_take 48 = .ok (.aload_n 0, 1) := by decide +kernel
theorem dX8_take_49 : decode cX8_take 49 = .ok (.getfield 21, 3) := by decide +kernel
theorem dX8_take_52 : decode cX8_take 52 = .ok (.iload_n 1, 1) := by decide +kernel
theorem dX8_take_53 : decode cX8_take 53 = .ok (.aload_n 0, 1) := by decide +kernel
theorem dX8_take_54 : decode cX8_take 54 = .ok (.getfield 21, 3) := by decide +kernel
theorem dX8_take_57 : decode cX8_take 57 = .ok (.bipush 8, 2) := by decide +kernel
theorem dX8_take_59 : decode cX8_take 59 = .ok (.iload_n 1, 1) := by decide +kernel
theorem dX8_take_60 : decode cX8_take 60 = .ok (.iadd, 1) := by decide +kernel
theorem dX8_take_61 : decode cX8_take 61 = .ok (.iaload, 1) := by decide +kernel
theorem dX8_take_62 : decode cX8_take 62 = .ok (.iastore, 1) := by decide +kernel
theorem dX8_take_63 : decode cX8_take 63 = .ok (.aload_n 0, 1) := by decide +kernel
theorem dX8_take_64 : decode cX8_take 64 = .ok (.getfield 24, 3) := by decide +kernel
theorem dX8_take_67 : decode cX8_take 67 = .ok (.iload_n 1, 1) := by decide +kernel
theorem dX8_take_68 : decode cX8_take 68 = .ok (.aload_n 0, 1) := by decide +kernel
theorem dX8_take_69 : decode cX8_take 69 = .ok (.getfield 24, 3) := by decide +kernel
theorem dX8_take_72 : decode cX8_take 72 = .ok (.bipush 8, 2) := by decide +kernel
theorem dX8_take_74 : decode cX8_take 74 = .ok (.iload_n 1, 1) := by decide +kernel
theorem dX8_take_75 : decode cX8_take 75 = .ok (.iadd, 1) := by decide +kernel
theorem dX8_take_76 : decode cX8_take 76 = .ok (.iaload, 1) := by decide +kernel
theorem dX8_take_77 : decode cX8_take 77 = .ok (.iastore, 1) := by decide +kernel
theorem dX8_take_78 : decode cX8_take 78 = .ok (.iinc 1 1, 3) := by decide +kernel
theorem dX8_take_81 : decode cX8_take 81 = .ok (.goto (-39), 3) := by decide +kernel
theorem dX8_take_84 : decode cX8_take 84 = .ok (.iconst 0, 1) := by decide +kernel
theorem dX8_take_85 : decode cX8_take 85 = .ok (.istore_n 1, 1) := by decide +kernel
theorem dX8_take_86 : decode cX8_take 86 = .ok (.iload_n 1, 1) := by decide +kernel
theorem dX8_take_87 : decode cX8_take 87 = .ok (.bipush 10, 2) := by decide +kernel
theorem dX8_take_89 : decode cX8_take 89 = .ok (.if_icmp .ge 69, 3) := by decide +kernel
theorem dX8_take_92 : decode cX8_take 92 = .ok (.aload_n 0, 1) := by decide +kernel
theorem dX8_take_93 : decode cX8_take 93 = .ok (.getfield 27, 3) := by decide +kernel
theorem dX8_take_96 : decode cX8_take 96 = .ok (.iload_n 1, 1) := by decide +kernel
theorem dX8_take_97 : decode cX8_take 97 = .ok (.aload_n 0, 1) := by decide +kernel
theorem dX8_take_98 : decode cX8_take 98 = .ok (.getfield 27, 3) := by decide +kernel
theorem dX8_take_101 : decode cX8_take 101 = .ok (.bipush 10, 2) := by decide +kernel
theorem dX8_take_103 : decode cX8_take 103 = .ok (.iload_n 1, 1) := by decide +kernel
theorem dX8_take_104 : decode cX8_take 104 = .ok (.iadd, 1) := by decide +kernel
theorem dX8_take_105 : decode cX8_take 105 = .ok (.iaload, 1) := by decide +kernel
theorem dX8_take_106 : decode cX8_take 106 = .ok (.iastore, 1) := by decide +kernel
theorem dX8_take_107 : decode cX8_take 107 = .ok (.aload_n 0, 1) := by decide +kernel
theorem dX8_take_108 : decode cX8_take 108 = .ok (.getfield 30, 3) := by decide +kernel
theorem dX8_take_111 : decode cX8_take 111 = .ok (.iload_n 1, 1) := by decide +kernel
theorem dX8_take_112 : decode cX8_take 112 = .ok (.aload_n 0, 1) := by decide +kernel
theorem dX8_take_113 : decode cX8_take 113 = .ok (.getfield 30, 3) := by decide +kernel
theorem dX8_take_116 : decode cX8_take 116 = .ok (.bipush 10, 2) := by decide +kernel
theorem dX8_take_118 : decode cX8_take 118 = .ok (.iload_n 1, 1) := by decide +kernel
theorem dX8_take_119 : decode cX8_take 119 = .ok (.iadd, 1) := by decide +kernel
theorem dX8_take_120 : decode cX8_take 120 = .ok (.iaload, 1) := by decide +kernel
theorem dX8_take_121 : decode cX8_take 121 = .ok (.iastore, 1) := by decide +kernel
theorem dX8_take_122 : decode cX8_take 122 = .ok (.aload_n 0, 1) := by decide +kernel
theorem dX8_take_123 : decode cX8_take 123 = .ok (.getfield 33, 3) := by decide +kernel
theorem dX8_take_126 : decode cX8_take 126 = .ok (.iload_n 1, 1) := by decide +kernel
theorem dX8_take_127 : decode cX8_take 127 = .ok (.aload_n 0, 1) := by decide +kernel
theorem dX8_take_128 : decode cX8_take 128 = .ok (.getfield 33, 3) := by decide +kernel
theorem dX8_take_131 : decode cX8_take 131 = .ok (.bipush 10, 2) := by decide +kernel
theorem dX8_take_133 : decode cX8_take 133 = .ok (.iload_n 1, 1) := by decide +kernel
theorem dX8_take_134 : decode cX8_take 134 = .ok (.iadd, 1) := by decide +kernel
theorem dX8_take_135 : decode cX8_take 135 = .ok (.iaload, 1) := by decide +kernel
theorem dX8_take_136 : decode cX8_take 136 = .ok (.iastore, 1) := by decide +kernel
theorem dX8_take_137 : decode cX8_take 137 = .ok (.aload_n 0, 1) := by decide +kernel
theorem dX8_take_138 : decode cX8_take 138 = .ok (.getfield 36, 3) := by decide +kernel
theorem dX8_take_141 : decode cX8_take 141 = .ok (.iload_n 1, 1) := by decide +kernel
theorem dX8_take_142 : decode cX8_take 142 = .ok (.aload_n 0, 1) := by decide +kernel
theorem dX8_take_143 : decode cX8_take 143 = .ok (.getfield 36, 3) := by decide +kernel
theorem dX8_take_146 : decode cX8_take 146 = .ok (.bipush 10, 2) := by decide +kernel
theorem dX8_take_148 : decode cX8_take 148 = .ok (.iload_n 1, 1) := by decide +kernel
theorem dX8_take_149 : decode cX8_take 149 = .ok (.iadd, 1) := by decide +kernel
theorem dX8_take_150 : decode cX8_take 150 = .ok (.iaload, 1) := by decide +kernel
theorem dX8_take_151 : decode cX8_take 151 = .ok (.iastore, 1) := by decide +kernel
theorem dX8_take_152 : decode cX8_take 152 = .ok (.iinc 1 1, 3) := by decide +kernel
theorem dX8_take_155 : decode cX8_take 155 = .ok (.goto (-69), 3) := by decide +kernel
theorem dX8_take_158 : decode cX8_take 158 = .ok (.iconst 0, 1) := by decide +kernel
theorem dX8_take_159 : decode cX8_take 159 = .ok (.istore_n 1, 1) := by decide +kernel
theorem dX8_take_160 : decode cX8_take 160 = .ok (.iload_n 1, 1) := by decide +kernel
theorem dX8_take_161 : decode cX8_take 161 = .ok (.bipush 6, 2) := by decide +kernel
theorem dX8_take_163 : decode cX8_take 163 = .ok (.if_icmp .ge 39, 3) := by decide +kernel
theorem dX8_take_166 : decode cX8_take 166 = .ok (.aload_n 0, 1) := by decide +kernel
theorem dX8_take_167 : decode cX8_take 167 = .ok (.getfield 39, 3) := by decide +kernel
theorem dX8_take_170 : decode cX8_take 170 = .ok (.iload_n 1, 1) := by decide +kernel
theorem dX8_take_171 : decode cX8_take 171 = .ok (.aload_n 0, 1) := by decide +kernel
theorem dX8_take_172 : decode cX8_take 172 = .ok (.getfield 39, 3) := by decide +kernel
theorem dX8_take_175 : decode cX8_take 175 = .ok (.bipush 6, 2) := by decide +kernel
theorem dX8_take_177 : decode cX8_take 177 = .ok (.iload_n 1, 1) := by decide +kernel
theorem dX8_take_178 : decode cX8_take 178 = .ok (.iadd, 1) := by decide +kernel
theorem dX8_take_179 : decode cX8_take 179 = .ok (.iaload, 1) := by decide +kernel
theorem dX8_take_180 : decode cX8_take 180 = .ok (.iastore, 1) := by decide +kernel
theorem dX8_take_181 : decode cX8_take 181 = .ok (.aload_n 0, 1) := by decide +kernel
theorem dX8_take_182 : decode cX8_take 182 = .ok (.getfield 42, 3) := by decide +kernel
theorem dX8_take_185 : decode cX8_take 185 = .ok (.iload_n 1, 1) := by decide +kernel
theorem dX8_take_186 : decode cX8_take 186 = .ok (.aload_n 0, 1) := by decide +kernel
theorem dX8_take_187 : decode cX8_take 187 = .ok (.getfield 42, 3) := by decide +kernel
theorem dX8_take_190 : decode cX8_take 190 = .ok (.bipush 6, 2) := by decide +kernel
theorem dX8_take_192 : decode cX8_take 192 = .ok (.iload_n 1, 1) := by decide +kernel
theorem dX8_take_193 : decode cX8_take 193 = .ok (.iadd, 1) := by decide +kernel
theorem dX8_take_194 : decode cX8_take 194 = .ok (.iaload, 1) := by decide +kernel
theorem dX8_take_195 : decode cX8_take 195 = .ok (.iastore, 1) := by decide +kernel
theorem dX8_take_196 : decode cX8_take 196 = .ok (.iinc 1 1, 3) := by decide +kernel
theorem dX8_take_199 : decode cX8_take 199 = .ok (.goto (-39), 3) := by decide +kernel
theorem dX8_take_202 : decode cX8_take 202 = .ok (.return_, 1) := by decide +kernel
theorem dX8_fault_0 : decode cX8_fault 0 = .ok (.aload_n 0, 1) := by decide +kernel
theorem dX8_fault_1 : decode cX8_fault 1 = .ok (.getfield 48, 3) := by decide +kernel
theorem dX8_fault_4 : decode cX8_fault 4 = .ok (.ireturn, 1) := by decide +kernel
theorem dX8_isWheel_0 : decode cX8_isWheel 0 = .ok (.iload_n 1, 1) := by decide +kernel
theorem dX8_isWheel_1 : decode cX8_isWheel 1 = .ok (.i2l, 1) := by decide +kernel
theorem dX8_isWheel_2 : decode cX8_isWheel 2 = .ok (.lconst 0, 1) := by decide +kernel
theorem dX8_isWheel_3 : decode cX8_isWheel 3 = .ok (.aload_n 0, 1) := by decide +kernel
theorem dX8_isWheel_4 : decode cX8_isWheel 4 = .ok (.getfield 177, 3) := by decide +kernel
theorem dX8_isWheel_7 : decode cX8_isWheel 7 = .ok (.iconst 1, 1) := by decide +kernel
theorem dX8_isWheel_8 : decode cX8_isWheel 8 = .ok (.isub, 1) := by decide +kernel
theorem dX8_isWheel_9 : decode cX8_isWheel 9 = .ok (.i2l, 1) := by decide +kernel
theorem dX8_isWheel_10 : decode cX8_isWheel 10 = .ok (.invokestatic 91, 3) := by decide +kernel
theorem dX8_isWheel_13 : decode cX8_isWheel 13 = .ok (.ireturn, 1) := by decide +kernel
theorem dX8_isLink_0 : decode cX8_isLink 0 = .ok (.iload_n 1, 1) := by decide +kernel
theorem dX8_isLink_1 : decode cX8_isLink 1 = .ok (.i2l, 1) := by decide +kernel
theorem dX8_isLink_2 : decode cX8_isLink 2 = .ok (.lconst 0, 1) := by decide +kernel
theorem dX8_isLink_3 : decode cX8_isLink 3 = .ok (.aload_n 0, 1) := by decide +kernel
theorem dX8_isLink_4 : decode cX8_isLink 4 = .ok (.getfield 180, 3) := by decide +kernel
theorem dX8_isLink_7 : decode cX8_isLink 7 = .ok (.iconst 1, 1) := by decide +kernel
theorem dX8_isLink_8 : decode cX8_isLink 8 = .ok (.isub, 1) := by decide +kernel
theorem dX8_isLink_9 : decode cX8_isLink 9 = .ok (.i2l, 1) := by decide +kernel
theorem dX8_isLink_10 : decode cX8_isLink 10 = .ok (.invokestatic 91, 3) := by decide +kernel
theorem dX8_isLink_13 : decode cX8_isLink 13 = .ok (.ireturn, 1) := by decide +kernel
theorem dX8_isFeast_0 : decode cX8_isFeast 0 = .ok (.iload_n 1, 1) := by decide +kernel
theorem dX8_isFeast_1 : decode cX8_isFeast 1 = .ok (.i2l, 1) := by decide +kernel
theorem dX8_isFeast_2 : decode cX8_isFeast 2 = .ok (.lconst 0, 1) := by decide +kernel
theorem dX8_isFeast_3 : decode cX8_isFeast 3 = .ok (.aload_n 0, 1) := by decide +kernel
theorem dX8_isFeast_4 : decode cX8_isFeast 4 = .ok (.getfield 183, 3) := by decide +kernel
theorem dX8_isFeast_7 : decode cX8_isFeast 7 = .ok (.iconst 1, 1) := by decide +kernel
theorem dX8_isFeast_8 : decode cX8_isFeast 8 = .ok (.isub, 1) := by decide +kernel
theorem dX8_isFeast_9 : decode cX8_isFeast 9 = .ok (.i2l, 1) := by decide +kernel
theorem dX8_isFeast_10 : decode cX8_isFeast 10 = .ok (.invokestatic 91, 3) := by decide +kernel
theorem dX8_isFeast_13 : decode cX8_isFeast 13 = .ok (.ireturn, 1) := by decide +kernel
theorem dX8_isOn_0 : decode cX8_isOn 0 = .ok (.iload_n 1, 1) := by decide +kernel
theorem dX8_isOn_1 : decode cX8_isOn 1 = .ok (.bipush 20, 2) := by decide +kernel
theorem dX8_isOn_3 : decode cX8_isOn 3 = .ok (.if_icmp .ne 10, 3) := by decide +kernel
theorem dX8_isOn_6 : decode cX8_isOn 6 = .ok (.aload_n 0, 1) := by decide +kernel
theorem dX8_isOn_7 : decode cX8_isOn 7 = .ok (.getfield 189, 3) := by decide +kernel
theorem dX8_isOn_10 : decode cX8_isOn 10 = .ok (.goto 24, 3) := by decide +kernel
theorem dX8_isOn_13 : decode cX8_isOn 13 = .ok (.iload_n 1, 1) := by decide +kernel
theorem dX8_isOn_14 : decode cX8_isOn 14 = .ok (.aload_n 0, 1) := by decide +kernel
theorem dX8_isOn_15 : decode cX8_isOn 15 = .ok (.getfield 180, 3) := by decide +kernel
theorem dX8_isOn_18 : decode cX8_isOn 18 = .ok (.if_icmp .ge 15, 3) := by decide +kernel
theorem dX8_isOn_21 : decode cX8_isOn 21 = .ok (.iload_n 2, 1) := by decide +kernel
theorem dX8_isOn_22 : decode cX8_isOn 22 = .ok (.iload_n 1, 1) := by decide +kernel
theorem dX8_isOn_23 : decode cX8_isOn 23 = .ok (.invokestatic 192, 3) := by decide +kernel
theorem dX8_isOn_26 : decode cX8_isOn 26 = .ok (.ifCond .ne 7, 3) := by decide +kernel
theorem dX8_isOn_29 : decode cX8_isOn 29 = .ok (.iconst 1, 1) := by decide +kernel
theorem dX8_isOn_30 : decode cX8_isOn 30 = .ok (.goto 4, 3) := by decide +kernel
theorem dX8_isOn_33 : decode cX8_isOn 33 = .ok (.iconst 0, 1) := by decide +kernel
theorem dX8_isOn_34 : decode cX8_isOn 34 = .ok (.ireturn, 1) := by decide +kernel
theorem dX8_turn_0 : decode cX8_turn 0 = .ok (.aload_n 0, 1) := by decide +kernel
theorem dX8_turn_1 : decode cX8_turn 1 = .ok (.getfield 27, 3) := by decide +kernel
theorem dX8_turn_4 : decode cX8_turn 4 = .ok (.iload_n 1, 1) := by decide +kernel
theorem dX8_turn_5 : decode cX8_turn 5 = .ok (.iaload, 1) := by decide +kernel
theorem dX8_turn_6 : decode cX8_turn 6 = .ok (.ifCond .ne 22, 3) := by decide +kernel
theorem dX8_turn_9 : decode cX8_turn 9 = .ok (.iload_n 1, 1) := by decide +kernel
theorem dX8_turn_10 : decode cX8_turn 10 = .ok (.bipush 20, 2) := by decide +kernel
theorem dX8_turn_12 : decode cX8_turn 12 = .ok (.if_icmp .ge 12, 3) := by decide +kernel
theorem dX8_turn_15 : decode cX8_turn 15 = .ok (.iload 4, 2) := by decide +kernel
theorem dX8_turn_17 : decode cX8_turn 17 = .ok (.iload_n 1, 1) := by decide +kernel
theorem dX8_turn_18 : decode cX8_turn 18 = .ok (.invokestatic 192, 3) := by decide +kernel
theorem dX8_turn_21 : decode cX8_turn 21 = .ok (.ifCond .ne 7, 3) := by decide +kernel
theorem dX8_turn_24 : decode cX8_turn 24 = .ok (.iconst 1, 1) := by decide +kernel
theorem dX8_turn_25 : decode cX8_turn 25 = .ok (.goto 4, 3) := by decide +kernel
theorem dX8_turn_28 : decode cX8_turn 28 = .ok (.iconst 0, 1) := by decide +kernel
theorem dX8_turn_29 : decode cX8_turn 29 = .ok (.istore 5, 2) := by decide +kernel
theorem dX8_turn_31 : decode cX8_turn 31 = .ok (.iload 5, 2) := by decide +kernel
theorem dX8_turn_33 : decode cX8_turn 33 = .ok (.ifCond .eq 13, 3) := by decide +kernel
theorem dX8_turn_36 : decode cX8_turn 36 = .ok (.aload_n 0, 1) := by decide +kernel
theorem dX8_turn_37 : decode cX8_turn 37 = .ok (.getfield 51, 3) := by decide +kernel
theorem dX8_turn_40 : decode cX8_turn 40 = .ok (.iload_n 2, 1) := by decide +kernel
theorem dX8_turn_41 : decode cX8_turn 41 = .ok (.laload, 1) := by decide +kernel
theorem dX8_turn_42 : decode cX8_turn 42 = .ok (.lneg, 1) := by decide +kernel
theorem dX8_turn_43 : decode cX8_turn 43 = .ok (.goto 9, 3) := by decide +kernel
theorem dX8_turn_46 : decode cX8_turn 46 = .ok (.aload_n 0, 1) := by decide +kernel
theorem dX8_turn_47 : decode cX8_turn 47 = .ok (.getfield 51, 3) := by decide +kernel
theorem dX8_turn_50 : decode cX8_turn 50 = .ok (.iload_n 2, 1) := by decide +kernel
theorem dX8_turn_51 : decode cX8_turn 51 = .ok (.laload, 1) := by decide +kernel
theorem dX8_turn_52 : decode cX8_turn 52 = .ok (.lstore 6, 2) := by decide +kernel
theorem dX8_turn_54 : decode cX8_turn 54 = .ok (.aload_n 0, 1) := by decide +kernel
theorem dX8_turn_55 : decode cX8_turn 55 = .ok (.getfield 55, 3) := by decide +kernel
theorem dX8_turn_58 : decode cX8_turn 58 = .ok (.iload_n 2, 1) := by decide +kernel
theorem dX8_turn_59 : decode cX8_turn 59 = .ok (.laload, 1) := by decide +kernel
theorem dX8_turn_60 : decode cX8_turn 60 = .ok (.lstore 8, 2) := by decide +kernel
theorem dX8_turn_62 : decode cX8_turn 62 = .ok (.aload_n 0, 1) := by decide +kernel
theorem dX8_turn_63 : decode cX8_turn 63 = .ok (.getfield 27, 3) := by decide +kernel
theorem dX8_turn_66 : decode cX8_turn 66 = .ok (.iload_n 1, 1) := by decide +kernel
theorem dX8_turn_67 : decode cX8_turn 67 = .ok (.iaload, 1) := by decide +kernel
theorem dX8_turn_68 : decode cX8_turn 68 = .ok (.iconst 2, 1) := by decide +kernel
theorem dX8_turn_69 : decode cX8_turn 69 = .ok (.if_icmp .ne 27, 3) := by decide +kernel
theorem dX8_turn_72 : decode cX8_turn 72 = .ok (.lload 6, 2) := by decide +kernel
theorem dX8_turn_74 : decode cX8_turn 74 = .ok (.aload_n 0, 1) := by decide +kernel
theorem dX8_turn_75 : decode cX8_turn 75 = .ok (.getfield 21, 3) := by decide +kernel
theorem dX8_turn_78 : decode cX8_turn 78 = .ok (.iload_n 3, 1) := by decide +kernel
theorem dX8_turn_79 : decode cX8_turn 79 = .ok (.iaload, 1) := by decide +kernel
theorem dX8_turn_80 : decode cX8_turn 80 = .ok (.i2l, 1) := by decide +kernel
theorem dX8_turn_81 : decode cX8_turn 81 = .ok (.lmul, 1) := by decide +kernel
theorem dX8_turn_82 : decode cX8_turn 82 = .ok (.lstore 6, 2) := by decide +kernel
theorem dX8_turn_84 : decode cX8_turn 84 = .ok (.lload 8, 2) := by decide +kernel
theorem dX8_turn_86 : decode cX8_turn 86 = .ok (.aload_n 0, 1) := by decide +kernel
theorem dX8_turn_87 : decode cX8_turn 87 = .ok (.getfield 21, 3) := by decide +kernel
theorem dX8_turn_90 : decode cX8_turn 90 = .ok (.iload_n 2, 1) := by decide +kernel
theorem dX8_turn_91 : decode cX8_turn 91 = .ok (.iaload, 1) := by decide +kernel
theorem dX8_turn_92 : decode cX8_turn 92 = .ok (.i2l, 1) := by decide +kernel
theorem dX8_turn_93 : decode cX8_turn 93 = .ok (.lmul, 1) := by decide +kernel
theorem dX8_turn_94 : decode cX8_turn 94 = .ok (.lstore 8, 2) := by decide +kernel
theorem dX8_turn_96 : decode cX8_turn 96 = .ok (.lload 8, 2) := by decide +kernel
theorem dX8_turn_98 : decode cX8_turn 98 = .ok (.lload 6, 2) := by decide +kernel
theorem dX8_turn_100 : decode cX8_turn 100 = .ok (.invokestatic 196, 3) := by decide +kernel
theorem dX8_turn_103 : decode cX8_turn 103 = .ok (.lstore 10, 2) := by decide +kernel
theorem dX8_turn_105 : decode cX8_turn 105 = .ok (.lload 6, 2) := by decide +kernel
theorem dX8_turn_107 : decode cX8_turn 107 = .ok (.lload 10, 2) := by decide +kernel
theorem dX8_turn_109 : decode cX8_turn 109 = .ok (.ldiv, 1) := by decide +kernel
theorem dX8_turn_110 : decode cX8_turn 110 = .ok (.lstore 6, 2) := by decide +kernel
theorem dX8_turn_112 : decode cX8_turn 112 = .ok (.lload 8, 2) := by decide +kernel
theorem dX8_turn_114 : decode cX8_turn 114 = .ok (.lload 10, 2) := by decide +kernel
theorem dX8_turn_116 : decode cX8_turn 116 = .ok (.ldiv, 1) := by decide +kernel
theorem dX8_turn_117 : decode cX8_turn 117 = .ok (.lstore 8, 2) := by decide +kernel
theorem dX8_turn_119 : decode cX8_turn 119 = .ok (.aload_n 0, 1) := by decide +kernel
theorem dX8_turn_120 : decode cX8_turn 120 = .ok (.getfield 51, 3) := by decide +kernel
theorem dX8_turn_123 : decode cX8_turn 123 = .ok (.iload_n 3, 1) := by decide +kernel
theorem dX8_turn_124 : decode cX8_turn 124 = .ok (.laload, 1) := by decide +kernel
theorem dX8_turn_125 : decode cX8_turn 125 = .ok (.lconst 0, 1) := by decide +kernel
theorem dX8_turn_126 : decode cX8_turn 126 = .ok (.lcmp, 1) := by decide +kernel
theorem dX8_turn_127 : decode cX8_turn 127 = .ok (.ifCond .ne 22, 3) := by decide +kernel
theorem dX8_turn_130 : decode cX8_turn 130 = .ok (.aload_n 0, 1) := by decide +kernel
theorem dX8_turn_131 : decode cX8_turn 131 = .ok (.getfield 51, 3) := by decide +kernel
theorem dX8_turn_134 : decode cX8_turn 134 = .ok (.iload_n 3, 1) := by decide +kernel
theorem dX8_turn_135 : decode cX8_turn 135 = .ok (.lload 6, 2) := by decide +kernel
theorem dX8_turn_137 : decode cX8_turn 137 = .ok (.lastore, 1) := by decide +kernel
theorem dX8_turn_138 : decode cX8_turn 138 = .ok (.aload_n 0, 1) := by decide +kernel
theorem dX8_turn_139 : decode cX8_turn 139 = .ok (.getfield 55, 3) := by decide +kernel
theorem dX8_turn_142 : decode cX8_turn 142 = .ok (.iload_n 3, 1) := by decide +kernel
theorem dX8_turn_143 : decode cX8_turn 143 = .ok (.lload 8, 2) := by decide +kernel
theorem dX8_turn_145 : decode cX8_turn 145 = .ok (.lastore, 1) := by decide +kernel
theorem dX8_turn_146 : decode cX8_turn 146 = .ok (.goto 43, 3) := by decide +kernel
theorem dX8_turn_149 : decode cX8_turn 149 = .ok (.aload_n 0, 1) := by decide +kernel
theorem dX8_turn_150 : decode cX8_turn 150 = .ok (.aload_n 0, 1) := by decide +kernel
theorem dX8_turn_151 : decode cX8_turn 151 = .ok (.getfield 200, 3) := by decide +kernel
theorem dX8_turn_154 : decode cX8_turn 154 = .ok (.ifCond .ne 27, 3) := by decide +kernel
theorem dX8_turn_157 : decode cX8_turn 157 = .ok (.aload_n 0, 1) := by decide +kernel
theorem dX8_turn_158 : decode cX8_turn 158 = .ok (.getfield 51, 3) := by decide +kernel
theorem dX8_turn_161 : decode cX8_turn 161 = .ok (.iload_n 3, 1) := by decide +kernel
theorem dX8_turn_162 : decode cX8_turn 162 = .ok (.laload, 1) := by decide +kernel
theorem dX8_turn_163 : decode cX8_turn 163 = .ok (.lload 6, 2) := by decide +kernel
theorem dX8_turn_165 : decode cX8_turn 165 = .ok (.lcmp, 1) := by decide +kernel
theorem dX8_turn_166 : decode cX8_turn 166 = .ok (.ifCond .ne 15, 3) := by decide +kernel
theorem dX8_turn_169 : decode cX8_turn 169 = .ok (.aload_n 0, 1) := by decide +kernel
theorem dX8_turn_170 : decode cX8_turn 170 = .ok (.getfield 55, 3) := by decide +kernel
theorem dX8_turn_173 : decode cX8_turn 173 = .ok (.iload_n 3, 1) := by decide +kernel
theorem dX8_turn_174 : decode cX8_turn 174 = .ok (.laload, 1) := by decide +kernel
theorem dX8_turn_175 : decode cX8_turn 175 = .ok (.lload 8, 2) := by decide +kernel
theorem dX8_turn_177 : decode cX8_turn 177 = .ok (.lcmp, 1) := by decide +kernel
theorem dX8_turn_178 : decode cX8_turn 178 = .ok (.ifCond .eq 7, 3) := by decide +kernel
theorem dX8_turn_181 : decode cX8_turn 181 = .ok (.iconst 1, 1) := by decide +kernel
theorem dX8_turn_182 : decode cX8_turn 182 = .ok (.goto 4, 3) := by decide +kernel
theorem dX8_turn_185 : decode cX8_turn 185 = .ok (.iconst 0, 1) := by decide +kernel
theorem dX8_turn_186 : decode cX8_turn 186 = .ok (.putfield 200, 3) := by decide +kernel
theorem dX8_turn_189 : decode cX8_turn 189 = .ok (.return_, 1) := by decide +kernel
theorem dX8_mesh_0 : decode cX8_mesh 0 = .ok (.aload_n 0, 1) := by decide +kernel
theorem dX8_mesh_1 : decode cX8_mesh 1 = .ok (.getfield 51, 3) := by decide +kernel
theorem dX8_mesh_4 : decode cX8_mesh 4 = .ok (.aload_n 0, 1) := by decide +kernel
theorem dX8_mesh_5 : decode cX8_mesh 5 = .ok (.getfield 30, 3) := by decide +kernel
theorem dX8_mesh_8 : decode cX8_mesh 8 = .ok (.iload_n 1, 1) := by decide +kernel
theorem dX8_mesh_9 : decode cX8_mesh 9 = .ok (.iaload, 1) := by decide +kernel
theorem dX8_mesh_10 : decode cX8_mesh 10 = .ok (.laload, 1) := by decide +kernel
theorem dX8_mesh_11 : decode cX8_mesh 11 = .ok (.lconst 0, 1) := by decide +kernel
theorem dX8_mesh_12 : decode cX8_mesh 12 = .ok (.lcmp, 1) := by decide +kernel
theorem dX8_mesh_13 : decode cX8_mesh 13 = .ok (.ifCond .eq 21, 3) := by decide +kernel
theorem dX8_mesh_16 : decode cX8_mesh 16 = .ok (.aload_n 0, 1) := by decide +kernel
theorem dX8_mesh_17 : decode cX8_mesh 17 = .ok (.iload_n 1, 1) := by decide +kernel
theorem dX8_mesh_18 : decode cX8_mesh 18 = .ok (.aload_n 0, 1) := by decide +kernel
theorem dX8_mesh_19 : decode cX8_mesh 19 = .ok (.getfield 30, 3) := by decide +kernel
theorem dX8_mesh_22 : decode cX8_mesh 22 = .ok (.iload_n 1, 1) := by decide +kernel
theorem dX8_mesh_23 : decode cX8_mesh 23 = .ok (.iaload, 1) := by decide +kernel
theorem dX8_mesh_24 : decode cX8_mesh 24 = .ok (.aload_n 0, 1) := by decide +kernel
theorem dX8_mesh_25 : decode cX8_mesh 25 = .ok (.getfield 33, 3) := by decide +kernel
theorem dX8_mesh_28 : decode cX8_mesh 28 = .ok (.iload_n 1, 1) := by decide +kernel
theorem dX8_mesh_29 : decode cX8_mesh 29 = .ok (.iaload, 1) := by decide +kernel
theorem dX8_mesh_30 : decode cX8_mesh 30 = .ok (.iload_n 2, 1) := by decide +kernel
theorem dX8_mesh_31 : decode cX8_mesh 31 = .ok (.invokevirtual 203, 3) := by decide +kernel
theorem dX8_mesh_34 : decode cX8_mesh 34 = .ok (.aload_n 0, 1) := by decide +kernel
theorem dX8_mesh_35 : decode cX8_mesh 35 = .ok (.getfield 51, 3) := by decide +kernel
theorem dX8_mesh_38 : decode cX8_mesh 38 = .ok (.aload_n 0, 1) := by decide +kernel
theorem dX8_mesh_39 : decode cX8_mesh 39 = .ok (.getfield 33, 3) := by decide +kernel
theorem dX8_mesh_42 : decode cX8_mesh 42 = .ok (.iload_n 1, 1) := by decide +kernel
theorem dX8_mesh_43 : decode cX8_mesh 43 = .ok (.iaload, 1) := by decide +kernel
theorem dX8_mesh_44 : decode cX8_mesh 44 = .ok (.laload, 1) := by decide +kernel
theorem dX8_mesh_45 : decode cX8_mesh 45 = .ok (.lconst 0, 1) := by decide +kernel
theorem dX8_mesh_46 : decode cX8_mesh 46 = .ok (.lcmp, 1) := by decide +kernel
theorem dX8_mesh_47 : decode cX8_mesh 47 = .ok (.ifCond .eq 21, 3) := by decide +kernel
theorem dX8_mesh_50 : decode cX8_mesh 50 = .ok (.aload_n 0, 1) := by decide +kernel
theorem dX8_mesh_51 : decode cX8_mesh 51 = .ok (.iload_n 1, 1) := by decide +kernel
theorem dX8_mesh_52 : decode cX8_mesh 52 = .ok (.aload_n 0, 1) := by decide +kernel
theorem dX8_mesh_53 : decode cX8_mesh 53 = .ok (.getfield 33, 3) := by decide +kernel
theorem dX8_mesh_56 : decode cX8_mesh 56 = .ok (.iload_n 1, 1) := by decide +kernel
theorem dX8_mesh_57 : decode cX8_mesh 57 = .ok (.iaload, 1) := by decide +kernel
theorem dX8_mesh_58 : decode cX8_mesh 58 = .ok (.aload_n 0, 1) := by decide +kernel
theorem dX8_mesh_59 : decode cX8_mesh 59 = .ok (.getfield 30, 3) := by decide +kernel
theorem dX8_mesh_62 : decode cX8_mesh 62 = .ok (.iload_n 1, 1) := by decide +kernel
theorem dX8_mesh_63 : decode cX8_mesh 63 = .ok (.iaload, 1) := by decide +kernel
theorem dX8_mesh_64 : decode cX8_mesh 64 = .ok (.iload_n 2, 1) := by decide +kernel
theorem dX8_mesh_65 : decode cX8_mesh 65 = .ok (.invokevirtual 203, 3) := by decide +kernel
theorem dX8_mesh_68 : decode cX8_mesh 68 = .ok (.return_, 1) := by decide +kernel
theorem dX8_findRates_0 : decode cX8_findRates 0 = .ok (.aload_n 0, 1) := by decide +kernel
theorem dX8_findRates_1 : decode cX8_findRates 1 = .ok (.iconst 0, 1) := by decide +kernel
theorem dX8_findRates_2 : decode cX8_findRates 2 = .ok (.putfield 200, 3) := by decide +kernel
theorem dX8_findRates_5 : decode cX8_findRates 5 = .ok (.iconst 0, 1) := by decide +kernel
theorem dX8_findRates_6 : decode cX8_findRates 6 = .ok (.istore_n 3, 1) := by decide +kernel
theorem dX8_findRates_7 : decode cX8_findRates 7 = .ok (.iload_n 3, 1) := by decide +kernel
theorem dX8_findRates_8 : decode cX8_findRates 8 = .ok (.bipush 8, 2) := by decide +kernel
theorem dX8_findRates_10 : decode cX8_findRates 10 = .ok (.if_icmp .ge 23, 3) := by decide +kernel
theorem dX8_findRates_13 : decode cX8_findRates 13 = .ok (.aload_n 0, 1) := by decide +kernel
theorem dX8_findRates_14 : decode cX8_findRates 14 = .ok (.getfield 51, 3) := by decide +kernel
theorem dX8_findRates_17 : decode cX8_findRates 17 = .ok (.iload_n 3, 1) := by decide +kernel
theorem dX8_findRates_18 : decode cX8_findRates 18 = .ok (.lconst 0, 1) := by decide +kernel
theorem dX8_findRates_19 : decode cX8_findRates 19 = .ok (.lastore, 1) := by decide +kernel
theorem dX8_findRates_20 : decode cX8_findRates 20 = .ok (.aload_n 0, 1) := by decide +kernel
theorem dX8_findRates_21 : decode cX8_findRates 21 = .ok (.getfield 55, 3) := by decide +kernel
theorem dX8_findRates_24 : decode cX8_findRates 24 = .ok (.iload_n 3, 1) := by decide +kernel
theorem dX8_findRates_25 : decode cX8_findRates 25 = .ok (.lconst 1, 1) := by decide +kernel
theorem dX8_findRates_26 : decode cX8_findRates 26 = .ok (.lastore, 1) := by decide +kernel
theorem dX8_findRates_27 : decode cX8_findRates 27 = .ok (.iinc 3 1, 3) := by decide +kernel
theorem dX8_findRates_30 : decode cX8_findRates 30 = .ok (.goto (-23), 3) := by decide +kernel
theorem dX8_findRates_33 : decode cX8_findRates 33 = .ok (.aload_n 0, 1) := by decide +kernel
theorem dX8_findRates_34 : decode cX8_findRates 34 = .ok (.getfield 177, 3) := by decide +kernel
theorem dX8_findRates_37 : decode cX8_findRates 37 = .ok (.ifCond .le 17, 3) := by decide +kernel
theorem dX8_findRates_40 : decode cX8_findRates 40 = .ok (.aload_n 0, 1) := by decide +kernel
theorem dX8_findRates_41 : decode cX8_findRates 41 = .ok (.getfield 51, 3) := by decide +kernel
theorem dX8_findRates_44 : decode cX8_findRates 44 = .ok (.aload_n 0, 1) := by decide +kernel
theorem dX8_findRates_45 : decode cX8_findRates 45 = .ok (.getfield 186, 3) := by decide +kernel
theorem dX8_findRates_48 : decode cX8_findRates 48 = .ok (.aload_n 0, 1) := by decide +kernel
theorem dX8_findRates_49 : decode cX8_findRates 49 = .ok (.getfield 17, 3) := by decide +kernel
theorem dX8_findRates_52 : decode cX8_findRates 52 = .ok (.i2l, 1) := by decide +kernel
theorem dX8_findRates_53 : decode cX8_findRates 53 = .ok (.lastore, 1) := by decide +kernel
theorem dX8_findRates_54 : decode cX8_findRates 54 = .ok (.iconst 0, 1) := by decide +kernel
theorem dX8_findRates_55 : decode cX8_findRates 55 = .ok (.istore_n 3, 1) := by decide +kernel
theorem dX8_findRates_56 : decode cX8_findRates 56 = .ok (.iload_n 3, 1) := by decide +kernel
theorem dX8_findRates_57 : decode cX8_findRates 57 = .ok (.aload_n 0, 1) := by decide +kernel
theorem dX8_findRates_58 : decode cX8_findRates 58 = .ok (.getfield 177, 3) := by decide +kernel
theorem dX8_findRates_61 : decode cX8_findRates 61 = .ok (.if_icmp .gt 42, 3) := by decide +kernel
theorem dX8_findRates_64 : decode cX8_findRates 64 = .ok (.iconst 0, 1) := by decide +kernel
theorem dX8_findRates_65 : decode cX8_findRates 65 = .ok (.istore 4, 2) := by decide +kernel
theorem dX8_findRates_67 : decode cX8_findRates 67 = .ok (.iload 4, 2) := by decide +kernel
theorem dX8_findRates_69 : decode cX8_findRates 69 = .ok (.bipush 20, 2) := by decide +kernel
theorem dX8_findRates_71 : decode cX8_findRates 71 = .ok (.if_icmp .gt 26, 3) := by decide +kernel
theorem dX8_findRates_74 : decode cX8_findRates 74 = .ok (.aload_n 0, 1) := by decide +kernel
theorem dX8_findRates_75 : decode cX8_findRates 75 = .ok (.iload 4, 2) := by decide +kernel
theorem dX8_findRates_77 : decode cX8_findRates 77 = .ok (.iload_n 1, 1) := by decide +kernel
theorem dX8_findRates_78 : decode cX8_findRates 78 = .ok (.invokevirtual 207, 3) := by decide +kernel
theorem dX8_findRates_81 : decode cX8_findRates 81 = .ok (.ifCond .eq 10, 3) := by decide +kernel
theorem dX8_findRates_84 : decode cX8_findRates 84 = .ok (.aload_n 0, 1) := by decide +kernel
theorem dX8_findRates_85 : decode cX8_findRates 85 = .ok (.iload 4, 2) := by decide +kernel
theorem dX8_findRates_87 : decode cX8_findRates 87 = .ok (.iload_n 2, 1) := by decide +kernel
theorem dX8_findRates_88 : decode cX8_findRates 88 = .ok (.invokevirtual 210, 3) := by decide +kernel
theorem dX8_findRates_91 : decode cX8_findRates 91 = .ok (.iinc 4 1, 3) := by decide +kernel
theorem dX8_findRates_94 : decode cX8_findRates 94 = .ok (.goto (-27), 3) := by decide +kernel
theorem dX8_findRates_97 : decode cX8_findRates 97 = .ok (.iinc 3 1, 3) := by decide +kernel
theorem dX8_findRates_100 : decode cX8_findRates 100 = .ok (.goto (-44), 3) := by decide +kernel
theorem dX8_findRates_103 : decode cX8_findRates 103 = .ok (.iconst 0, 1) := by decide +kernel
theorem dX8_findRates_104 : decode cX8_findRates 104 = .ok (.istore_n 3, 1) := by decide +kernel
theorem dX8_findRates_105 : decode cX8_findRates 105 = .ok (.iload_n 3, 1) := by decide +kernel
theorem dX8_findRates_106 : decode cX8_findRates 106 = .ok (.bipush 8, 2) := by decide +kernel
theorem dX8_findRates_108 : decode cX8_findRates 108 = .ok (.if_icmp .ge 30, 3) := by decide +kernel
theorem dX8_findRates_111 : decode cX8_findRates 111 = .ok (.aload_n 0, 1) := by decide +kernel
theorem dX8_findRates_112 : decode cX8_findRates 112 = .ok (.getfield 200, 3) := by decide +kernel
theorem dX8_findRates_115 : decode cX8_findRates 115 = .ok (.ifCond .eq 23, 3) := by decide +kernel
theorem dX8_findRates_118 : decode cX8_findRates 118 = .ok (.aload_n 0, 1) := by decide +kernel
theorem dX8_findRates_119 : decode cX8_findRates 119 = .ok (.getfield 51, 3) := by decide +kernel
theorem dX8_findRates_122 : decode cX8_findRates 122 = .ok (.iload_n 3, 1) := by decide +kernel
theorem dX8_findRates_123 : decode cX8_findRates 123 = .ok (.lconst 0, 1) := by decide +kernel
theorem dX8_findRates_124 : decode cX8_findRates 124 = .ok (.lastore, 1) := by decide +kernel
theorem dX8_findRates_125 : decode cX8_findRates 125 = .ok (.aload_n 0, 1) := by decide +kernel
theorem dX8_findRates_126 : decode cX8_findRates 126 = .ok (.getfield 55, 3) := by decide +kernel
theorem dX8_findRates_129 : decode cX8_findRates 129 = .ok (.iload_n 3, 1) := by decide +kernel
theorem dX8_findRates_130 : decode cX8_findRates 130 = .ok (.lconst 1, 1) := by decide +kernel
theorem dX8_findRates_131 : decode cX8_findRates 131 = .ok (.lastore, 1) := by decide +kernel
theorem dX8_findRates_132 : decode cX8_findRates 132 = .ok (.iinc 3 1, 3) := by decide +kernel
theorem dX8_findRates_135 : decode cX8_findRates 135 = .ok (.goto (-30), 3) := by decide +kernel
theorem dX8_findRates_138 : decode cX8_findRates 138 = .ok (.return_, 1) := by decide +kernel
theorem dX8_ratesNow_0 : decode cX8_ratesNow 0 = .ok (.aload_n 0, 1) := by decide +kernel
theorem dX8_ratesNow_1 : decode cX8_ratesNow 1 = .ok (.iconst 0, 1) := by decide +kernel
theorem dX8_ratesNow_2 : decode cX8_ratesNow 2 = .ok (.putfield 189, 3) := by decide +kernel
theorem dX8_ratesNow_5 : decode cX8_ratesNow 5 = .ok (.aload_n 0, 1) := by decide +kernel
theorem dX8_ratesNow_6 : decode cX8_ratesNow 6 = .ok (.aload_n 0, 1) := by decide +kernel
theorem dX8_ratesNow_7 : decode cX8_ratesNow 7 = .ok (.getfield 7, 3) := by decide +kernel
theorem dX8_ratesNow_10 : decode cX8_ratesNow 10 = .ok (.bipush 10, 2) := by decide +kernel
theorem dX8_ratesNow_12 : decode cX8_ratesNow 12 = .ok (.iaload, 1) := by decide +kernel
theorem dX8_ratesNow_13 : decode cX8_ratesNow 13 = .ok (.iconst 0, 1) := by decide +kernel
theorem dX8_ratesNow_14 : decode cX8_ratesNow 14 = .ok (.invokevirtual 214, 3) := by decide +kernel
theorem dX8_ratesNow_17 : decode cX8_ratesNow 17 = .ok (.return_, 1) := by decide +kernel
theorem dX8_turning_0 : decode cX8_turning 0 = .ok (.iconst 0, 1) := by decide +kernel
theorem dX8_turning_1 : decode cX8_turning 1 = .ok (.istore_n 1, 1) := by decide +kernel
theorem dX8_turning_2 : decode cX8_turning 2 = .ok (.iconst 0, 1) := by decide +kernel
theorem dX8_turning_3 : decode cX8_turning 3 = .ok (.istore_n 2, 1) := by decide +kernel
theorem dX8_turning_4 : decode cX8_turning 4 = .ok (.iload_n 2, 1) := by decide +kernel
theorem dX8_turning_5 : decode cX8_turning 5 = .ok (.aload_n 0, 1) := by decide +kernel
theorem dX8_turning_6 : decode cX8_turning 6 = .ok (.getfield 177, 3) := by decide +kernel
theorem dX8_turning_9 : decode cX8_turning 9 = .ok (.if_icmp .ge 33, 3) := by decide +kernel
theorem dX8_turning_12 : decode cX8_turning 12 = .ok (.iload_n 1, 1) := by decide +kernel
theorem dX8_turning_13 : decode cX8_turning 13 = .ok (.aload_n 0, 1) := by decide +kernel
theorem dX8_turning_14 : decode cX8_turning 14 = .ok (.getfield 51, 3) := by decide +kernel
theorem dX8_turning_17 : decode cX8_turning 17 = .ok (.iload_n 2, 1) := by decide +kernel
theorem dX8_turning_18 : decode cX8_turning 18 = .ok (.laload, 1) := by decide +kernel
theorem dX8_turning_19 : decode cX8_turning 19 = .ok (.lconst 0, 1) := by decide +kernel
theorem dX8_turning_20 : decode cX8_turning 20 = .ok (.lcmp, 1) := by decide +kernel
theorem dX8_turning_21 : decode cX8_turning 21 = .ok (.ifCond .eq 7, 3) := by decide +kernel
theorem dX8_turning_24 : decode cX8_turning 24 = .ok (.iconst 1, 1) := by decide +kernel
theorem dX8_turning_25 : decode cX8_turning 25 = .ok (.goto 4, 3) := by decide +kernel
theorem dX8_turning_28 : decode cX8_turning 28 = .ok (.iconst 0, 1) := by decide +kernel
theorem dX8_turning_29 : decode cX8_turning 29 = .ok (.invokestatic 217, 3) := by decide +kernel
theorem dX8_turning_32 : decode cX8_turning 32 = .ok (.iload_n 2, 1) := by decide +kernel
theorem dX8_turning_33 : decode cX8_turning 33 = .ok (.ishl, 1) := by decide +kernel
theorem dX8_turning_34 : decode cX8_turning 34 = .ok (.ior, 1) := by decide +kernel
theorem dX8_turning_35 : decode cX8_turning 35 = .ok (.istore_n 1, 1) := by decide +kernel
theorem dX8_turning_36 : decode cX8_turning 36 = .ok (.iinc 2 1, 3) := by decide +kernel
theorem dX8_turning_39 : decode cX8_turning 39 = .ok (.goto (-35), 3) := by decide +kernel
theorem dX8_turning_42 : decode cX8_turning 42 = .ok (.iload_n 1, 1) := by decide +kernel
theorem dX8_turning_43 : decode cX8_turning 43 = .ok (.ireturn, 1) := by decide +kernel
theorem dX8_placeIn_0 : decode cX8_placeIn 0 = .ok (.aload_n 0, 1) := by decide +kernel
theorem dX8_placeIn_1 : decode cX8_placeIn 1 = .ok (.getfield 7, 3) := by decide +kernel
theorem dX8_placeIn_4 : decode cX8_placeIn 4 = .ok (.iload_n 1, 1) := by decide +kernel
theorem dX8_placeIn_5 : decode cX8_placeIn 5 = .ok (.iaload, 1) := by decide +kernel
theorem dX8_placeIn_6 : decode cX8_placeIn 6 = .ok (.i2l, 1) := by decide +kernel
theorem dX8_placeIn_7 : decode cX8_placeIn 7 = .ok (.aload_n 0, 1) := by decide +kernel
theorem dX8_placeIn_8 : decode cX8_placeIn 8 = .ok (.getfield 51, 3) := by decide +kernel
theorem dX8_placeIn_11 : decode cX8_placeIn 11 = .ok (.iload_n 1, 1) := by decide +kernel
theorem dX8_placeIn_12 : decode cX8_placeIn 12 = .ok (.laload, 1) := by decide +kernel
theorem dX8_placeIn_13 : decode cX8_placeIn 13 = .ok (.aload_n 0, 1) := by decide +kernel
theorem dX8_placeIn_14 : decode cX8_placeIn 14 = .ok (.getfield 7, 3) := by decide +kernel
theorem dX8_placeIn_17 : decode cX8_placeIn 17 = .ok (.bipush 8, 2) := by decide +kernel
theorem dX8_placeIn_19 : decode cX8_placeIn 19 = .ok (.iaload, 1) := by decide +kernel
theorem dX8_placeIn_20 : decode cX8_placeIn 20 = .ok (.aload_n 0, 1) := by decide +kernel
theorem dX8_placeIn_21 : decode cX8_placeIn 21 = .ok (.getfield 7, 3) := by decide +kernel
theorem dX8_placeIn_24 : decode cX8_placeIn 24 = .ok (.bipush 9, 2) := by decide +kernel
theorem dX8_placeIn_26 : decode cX8_placeIn 26 = .ok (.iaload, 1) := by decide +kernel
theorem dX8_placeIn_27 : decode cX8_placeIn 27 = .ok (.isub, 1) := by decide +kernel
theorem dX8_placeIn_28 : decode cX8_placeIn 28 = .ok (.i2l, 1) := by decide +kernel
theorem dX8_placeIn_29 : decode cX8_placeIn 29 = .ok (.lload_n 2, 1) := by decide +kernel
theorem dX8_placeIn_30 : decode cX8_placeIn 30 = .ok (.ladd, 1) := by decide +kernel
theorem dX8_placeIn_31 : decode cX8_placeIn 31 = .ok (.lmul, 1) := by decide +kernel
theorem dX8_placeIn_32 : decode cX8_placeIn 32 = .ok (.aload_n 0, 1) := by decide +kernel
theorem dX8_placeIn_33 : decode cX8_placeIn 33 = .ok (.getfield 55, 3) := by decide +kernel
theorem dX8_placeIn_36 : decode cX8_placeIn 36 = .ok (.iload_n 1, 1) := by decide +kernel
theorem dX8_placeIn_37 : decode cX8_placeIn 37 = .ok (.laload, 1) := by decide +kernel
theorem dX8_placeIn_38 : decode cX8_placeIn 38 = .ok (.invokestatic 220, 3) := by decide +kernel
theorem dX8_placeIn_41 : decode cX8_placeIn 41 = .ok (.ladd, 1) := by decide +kernel
theorem dX8_placeIn_42 : decode cX8_placeIn 42 = .ok (.aload_n 0, 1) := by decide +kernel
theorem dX8_placeIn_43 : decode cX8_placeIn 43 = .ok (.getfield 21, 3) := by decide +kernel
theorem dX8_placeIn_46 : decode cX8_placeIn 46 = .ok (.iload_n 1, 1) := by decide +kernel
theorem dX8_placeIn_47 : decode cX8_placeIn 47 = .ok (.iaload, 1) := by decide +kernel
theorem dX8_placeIn_48 : decode cX8_placeIn 48 = .ok (.invokestatic 223, 3) := by decide +kernel
theorem dX8_placeIn_51 : decode cX8_placeIn 51 = .ok (.ireturn, 1) := by decide +kernel
theorem dX8_feastsToday_0 : decode cX8_feastsToday 0 = .ok (.iconst 0, 1) := by decide +kernel
theorem dX8_feastsToday_1 : decode cX8_feastsToday 1 = .ok (.istore_n 1, 1) := by decide +kernel
theorem dX8_feastsToday_2 : decode cX8_feastsToday 2 = .ok (.iconst 0, 1) := by decide +kernel
theorem dX8_feastsToday_3 : decode cX8_feastsToday 3 = .ok (.istore_n 2, 1) := by decide +kernel
theorem dX8_feastsToday_4 : decode cX8_feastsToday 4 = .ok (.iload_n 2, 1) := by decide +kernel
theorem dX8_feastsToday_5 : decode cX8_feastsToday 5 = .ok (.aload_n 0, 1) := by decide +kernel
theorem dX8_feastsToday_6 : decode cX8_feastsToday 6 = .ok (.getfield 183, 3) := by decide +kernel
theorem dX8_feastsToday_9 : decode cX8_feastsToday 9 = .ok (.if_icmp .ge 42, 3) := by decide +kernel
theorem dX8_feastsToday_12 : decode cX8_feastsToday 12 = .ok (.iload_n 1, 1) := by decide +kernel
theorem dX8_feastsToday_13 : decode cX8_feastsToday 13 = .ok (.aload_n 0, 1) := by decide +kernel
theorem dX8_feastsToday_14 : decode cX8_feastsToday 14 = .ok (.aload_n 0, 1) := by decide +kernel
theorem dX8_feastsToday_15 : decode cX8_feastsToday 15 = .ok (.getfield 39, 3) := by decide +kernel
theorem dX8_feastsToday_18 : decode cX8_feastsToday 18 = .ok (.iload_n 2, 1) := by decide +kernel
theorem dX8_feastsToday_19 : decode cX8_feastsToday 19 = .ok (.iaload, 1) := by decide +kernel
theorem dX8_feastsToday_20 : decode cX8_feastsToday 20 = .ok (.lconst 0, 1) := by decide +kernel
theorem dX8_feastsToday_21 : decode cX8_feastsToday 21 = .ok (.invokevirtual 227, 3) := by decide +kernel
theorem dX8_feastsToday_24 : decode cX8_feastsToday 24 = .ok (.aload_n 0, 1) := by decide +kernel
theorem dX8_feastsToday_25 : decode cX8_feastsToday 25 = .ok (.getfield 42, 3) := by decide +kernel
theorem dX8_feastsToday_28 : decode cX8_feastsToday 28 = .ok (.iload_n 2, 1) := by decide +kernel
theorem dX8_feastsToday_29 : decode cX8_feastsToday 29 = .ok (.iaload, 1) := by decide +kernel
theorem dX8_feastsToday_30 : decode cX8_feastsToday 30 = .ok (.if_icmp .ne 7, 3) := by decide +kernel
theorem dX8_feastsToday_33 : decode cX8_feastsToday 33 = .ok (.iconst 1, 1) := by decide +kernel
theorem dX8_feastsToday_34 : decode cX8_feastsToday 34 = .ok (.goto 4, 3) := by decide +kernel
theorem dX8_feastsToday_37 : decode cX8_feastsToday 37 = .ok (.iconst 0, 1) := by decide +kernel
theorem dX8_feastsToday_38 : decode cX8_feastsToday 38 = .ok (.invokestatic 217, 3) := by decide +kernel
theorem dX8_feastsToday_41 : decode cX8_feastsToday 41 = .ok (.iload_n 2, 1) := by decide +kernel
theorem dX8_feastsToday_42 : decode cX8_feastsToday 42 = .ok (.ishl, 1) := by decide +kernel
theorem dX8_feastsToday_43 : decode cX8_feastsToday 43 = .ok (.ior, 1) := by decide +kernel
theorem dX8_feastsToday_44 : decode cX8_feastsToday 44 = .ok (.istore_n 1, 1) := by decide +kernel
theorem dX8_feastsToday_45 : decode cX8_feastsToday 45 = .ok (.iinc 2 1, 3) := by decide +kernel
theorem dX8_feastsToday_48 : decode cX8_feastsToday 48 = .ok (.goto (-44), 3) := by decide +kernel
theorem dX8_feastsToday_51 : decode cX8_feastsToday 51 = .ok (.iload_n 1, 1) := by decide +kernel
theorem dX8_feastsToday_52 : decode cX8_feastsToday 52 = .ok (.ireturn, 1) := by decide +kernel
theorem dX8_told_0 : decode cX8_told 0 = .ok (.aload_n 0, 1) := by decide +kernel
theorem dX8_told_1 : decode cX8_told 1 = .ok (.invokevirtual 231, 3) := by decide +kernel
theorem dX8_told_4 : decode cX8_told 4 = .ok (.iload_n 1, 1) := by decide +kernel
theorem dX8_told_5 : decode cX8_told 5 = .ok (.tableswitch 173 0 14 #[75, 80, 85, 90, 95, 103, 111, 127, 132, 140, 148, 153, 158, 163, 168], 75) := by decide +kernel
theorem dX8_told_80 : decode cX8_told 80 = .ok (.aload_n 0, 1) := by decide +kernel
theorem dX8_told_81 : decode cX8_told 81 = .ok (.getfield 177, 3) := by decide +kernel
theorem dX8_told_84 : decode cX8_told 84 = .ok (.ireturn, 1) := by decide +kernel
theorem dX8_told_85 : decode cX8_told 85 = .ok (.aload_n 0, 1) := by decide +kernel
theorem dX8_told_86 : decode cX8_told 86 = .ok (.getfield 180, 3) := by decide +kernel
theorem dX8_told_89 : decode cX8_told 89 = .ok (.ireturn, 1) := by decide +kernel
theorem dX8_told_90 : decode cX8_told 90 = .ok (.aload_n 0, 1) := by decide +kernel
theorem dX8_told_91 : decode cX8_told 91 = .ok (.getfield 183, 3) := by decide +kernel
theorem dX8_told_94 : decode cX8_told 94 = .ok (.ireturn, 1) := by decide +kernel
theorem dX8_told_95 : decode cX8_told 95 = .ok (.aload_n 0, 1) := by decide +kernel
theorem dX8_told_96 : decode cX8_told 96 = .ok (.getfield 96, 3) := by decide +kernel
theorem dX8_told_99 : decode cX8_told 99 = .ok (.ireturn, 1) := by decide +kernel
theorem dX8_told_100 : decode cX8_told 100 = .ok (.aload_n 0, 1) := by decide +kernel
theorem dX8_told_101 : decode cX8_told 101 = .ok (.getfield 7, 3) := by decide +kernel
theorem dX8_told_104 : decode cX8_told 104 = .ok (.bipush 8, 2) := by decide +kernel
theorem dX8_told_106 : decode cX8_told 106 = .ok (.iaload, 1) := by decide +kernel
theorem dX8_told_107 : decode cX8_told 107 = .ok (.ireturn, 1) := by decide +kernel
theorem dX8_told_108 : decode cX8_told 108 = .ok (.aload_n 0, 1) := by decide +kernel
theorem dX8_told_109 : decode cX8_told 109 = .ok (.getfield 7, 3) := by decide +kernel
theorem dX8_told_112 : decode cX8_told 112 = .ok (.bipush 9, 2) := by decide +kernel
theorem dX8_told_114 : decode cX8_told 114 = .ok (.iaload, 1) := by decide +kernel
theorem dX8_told_115 : decode cX8_told 115 = .ok (.ireturn, 1) := by decide +kernel
theorem dX8_told_116 : decode cX8_told 116 = .ok (.aload_n 0, 1) := by decide +kernel
theorem dX8_told_117 : decode cX8_told 117 = .ok (.getfield 177, 3) := by decide +kernel
theorem dX8_told_120 : decode cX8_told 120 = .ok (.ifCond .ne 7, 3) := by decide +kernel
theorem dX8_told_123 : decode cX8_told 123 = .ok (.iconst (-1), 1) := by decide +kernel
theorem dX8_told_124 : decode cX8_told 124 = .ok (.goto 7, 3) := by decide +kernel
theorem dX8_told_127 : decode cX8_told 127 = .ok (.aload_n 0, 1) := by decide +kernel
theorem dX8_told_128 : decode cX8_told 128 = .ok (.getfield 186, 3) := by decide +kernel
theorem dX8_told_131 : decode cX8_told 131 = .ok (.ireturn, 1) := by decide +kernel
theorem dX8_told_132 : decode cX8_told 132 = .ok (.aload_n 0, 1) := by decide +kernel
theorem dX8_told_133 : decode cX8_told 133 = .ok (.getfield 17, 3) := by decide +kernel
theorem dX8_told_136 : decode cX8_told 136 = .ok (.ireturn, 1) := by decide +kernel
theorem dX8_told_137 : decode cX8_told 137 = .ok (.aload_n 0, 1) := by decide +kernel
theorem dX8_told_138 : decode cX8_told 138 = .ok (.getfield 200, 3) := by decide +kernel
theorem dX8_told_141 : decode cX8_told 141 = .ok (.invokestatic 217, 3) := by decide +kernel
theorem dX8_told_144 : decode cX8_told 144 = .ok (.ireturn, 1) := by decide +kernel
theorem dX8_told_145 : decode cX8_told 145 = .ok (.aload_n 0, 1) := by decide +kernel
theorem dX8_told_146 : decode cX8_told 146 = .ok (.getfield 7, 3) := by decide +kernel
theorem dX8_told_149 : decode cX8_told 149 = .ok (.bipush 10, 2) := by decide +kernel
theorem dX8_told_151 : decode cX8_told 151 = .ok (.iaload, 1) := by decide +kernel
theorem dX8_told_152 : decode cX8_told 152 = .ok (.ireturn, 1) := by decide +kernel
theorem dX8_told_153 : decode cX8_told 153 = .ok (.aload_n 0, 1) := by decide +kernel
theorem dX8_told_154 : decode cX8_told 154 = .ok (.invokevirtual 234, 3) := by decide +kernel
theorem dX8_told_157 : decode cX8_told 157 = .ok (.ireturn, 1) := by decide +kernel
theorem dX8_told_158 : decode cX8_told 158 = .ok (.aload_n 0, 1) := by decide +kernel
theorem dX8_told_159 : decode cX8_told 159 = .ok (.getfield 168, 3) := by decide +kernel
theorem dX8_told_162 : decode cX8_told 162 = .ok (.ireturn, 1) := by decide +kernel
theorem dX8_told_163 : decode cX8_told 163 = .ok (.aload_n 0, 1) := by decide +kernel
theorem dX8_told_164 : decode cX8_told 164 = .ok (.getfield 171, 3) := by decide +kernel
theorem dX8_told_167 : decode cX8_told 167 = .ok (.ireturn, 1) := by decide +kernel
theorem dX8_told_168 : decode cX8_told 168 = .ok (.aload_n 0, 1) := by decide +kernel
theorem dX8_told_169 : decode cX8_told 169 = .ok (.getfield 174, 3) := by decide +kernel
theorem dX8_told_172 : decode cX8_told 172 = .ok (.ireturn, 1) := by decide +kernel
theorem dX8_told_173 : decode cX8_told 173 = .ok (.aload_n 0, 1) := by decide +kernel
theorem dX8_told_174 : decode cX8_told 174 = .ok (.invokevirtual 237, 3) := by decide +kernel
theorem dX8_told_177 : decode cX8_told 177 = .ok (.ireturn, 1) := by decide +kernel
theorem dX8_told_178 : decode cX8_told 178 = .ok (.ldc 95, 2) := by decide +kernel
theorem dX8_told_180 : decode cX8_told 180 = .ok (.ireturn, 1) := by decide +kernel
theorem dX8_wheel_0 : decode cX8_wheel 0 = .ok (.aload_n 0, 1) := by decide +kernel
theorem dX8_wheel_1 : decode cX8_wheel 1 = .ok (.iload_n 1, 1) := by decide +kernel
theorem dX8_wheel_2 : decode cX8_wheel 2 = .ok (.invokevirtual 240, 3) := by decide +kernel
theorem dX8_wheel_5 : decode cX8_wheel 5 = .ok (.ifCond .ne 6, 3) := by decide +kernel
theorem dX8_wheel_8 : decode cX8_wheel 8 = .ok (.ldc 244, 2) := by decide +kernel
theorem dX8_wheel_10 : decode cX8_wheel 10 = .ok (.ireturn, 1) := by decide +kernel
theorem dX8_wheel_11 : decode cX8_wheel 11 = .ok (.aload_n 0, 1) := by decide +kernel
theorem dX8_wheel_12 : decode cX8_wheel 12 = .ok (.invokevirtual 231, 3) := by decide +kernel
theorem dX8_wheel_15 : decode cX8_wheel 15 = .ok (.iload_n 2, 1) := by decide +kernel
theorem dX8_wheel_16 : decode cX8_wheel 16 = .ok (.ifCond .ne 12, 3) := by decide +kernel
theorem dX8_wheel_19 : decode cX8_wheel 19 = .ok (.aload_n 0, 1) := by decide +kernel
theorem dX8_wheel_20 : decode cX8_wheel 20 = .ok (.getfield 21, 3) := by decide +kernel
theorem dX8_wheel_23 : decode cX8_wheel 23 = .ok (.iload_n 1, 1) := by decide +kernel
theorem dX8_wheel_24 : decode cX8_wheel 24 = .ok (.iaload, 1) := by decide +kernel
theorem dX8_wheel_25 : decode cX8_wheel 25 = .ok (.goto 49, 3) := by decide +kernel
theorem dX8_wheel_28 : decode cX8_wheel 28 = .ok (.iload_n 2, 1) := by decide +kernel
theorem dX8_wheel_29 : decode cX8_wheel 29 = .ok (.iconst 1, 1) := by decide +kernel
theorem dX8_wheel_30 : decode cX8_wheel 30 = .ok (.if_icmp .ne 12, 3) := by decide +kernel
theorem dX8_wheel_33 : decode cX8_wheel 33 = .ok (.aload_n 0, 1) := by decide +kernel
theorem dX8_wheel_34 : decode cX8_wheel 34 = .ok (.iload_n 1, 1) := by decide +kernel
theorem dX8_wheel_35 : decode cX8_wheel 35 = .ok (.lconst 0, 1) := by decide +kernel
theorem dX8_wheel_36 : decode cX8_wheel 36 = .ok (.invokevirtual 227, 3) := by decide +kernel
theorem dX8_wheel_39 : decode cX8_wheel 39 = .ok (.goto 35, 3) := by decide +kernel
theorem dX8_wheel_42 : decode cX8_wheel 42 = .ok (.iload_n 2, 1) := by decide +kernel
theorem dX8_wheel_43 : decode cX8_wheel 43 = .ok (.iconst 2, 1) := by decide +kernel
theorem dX8_wheel_44 : decode cX8_wheel 44 = .ok (.if_icmp .ne 13, 3) := by decide +kernel
theorem dX8_wheel_47 : decode cX8_wheel 47 = .ok (.aload_n 0, 1) := by decide +kernel
theorem dX8_wheel_48 : decode cX8_wheel 48 = .ok (.getfield 51, 3) := by decide +kernel
theorem dX8_wheel_51 : decode cX8_wheel 51 = .ok (.iload_n 1, 1) := by decide +kernel
theorem dX8_wheel_52 : decode cX8_wheel 52 = .ok (.laload, 1) := by decide +kernel
theorem dX8_wheel_53 : decode cX8_wheel 53 = .ok (.l2i, 1) := by decide +kernel
theorem dX8_wheel_54 : decode cX8_wheel 54 = .ok (.goto 20, 3) := by decide +kernel
theorem dX8_wheel_57 : decode cX8_wheel 57 = .ok (.iload_n 2, 1) := by decide +kernel
theorem dX8_wheel_58 : decode cX8_wheel 58 = .ok (.iconst 3, 1) := by decide +kernel
theorem dX8_wheel_59 : decode cX8_wheel 59 = .ok (.if_icmp .ne 13, 3) := by decide +kernel
theorem dX8_wheel_62 : decode cX8_wheel 62 = .ok (.aload_n 0, 1) := by decide +kernel
theorem dX8_wheel_63 : decode cX8_wheel 63 = .ok (.getfield 55, 3) := by decide +kernel
theorem dX8_wheel_66 : decode cX8_wheel 66 = .ok (.iload_n 1, 1) := by decide +kernel
theorem dX8_wheel_67 : decode cX8_wheel 67 = .ok (.laload, 1) := by decide +kernel
theorem dX8_wheel_68 : decode cX8_wheel 68 = .ok (.l2i, 1) := by decide +kernel
theorem dX8_wheel_69 : decode cX8_wheel 69 = .ok (.goto 5, 3) := by decide +kernel
theorem dX8_wheel_72 : decode cX8_wheel 72 = .ok (.ldc 95, 2) := by decide +kernel
theorem dX8_wheel_74 : decode cX8_wheel 74 = .ok (.ireturn, 1) := by decide +kernel
theorem dX8_link_0 : decode cX8_link 0 = .ok (.aload_n 0, 1) := by decide +kernel
theorem dX8_link_1 : decode cX8_link 1 = .ok (.iload_n 1, 1) := by decide +kernel
theorem dX8_link_2 : decode cX8_link 2 = .ok (.invokevirtual 245, 3) := by decide +kernel
theorem dX8_link_5 : decode cX8_link 5 = .ok (.ifCond .ne 6, 3) := by decide +kernel
theorem dX8_link_8 : decode cX8_link 8 = .ok (.ldc 244, 2) := by decide +kernel
theorem dX8_link_10 : decode cX8_link 10 = .ok (.ireturn, 1) := by decide +kernel
theorem dX8_link_11 : decode cX8_link 11 = .ok (.iload_n 2, 1) := by decide +kernel
theorem dX8_link_12 : decode cX8_link 12 = .ok (.tableswitch 87 0 4 #[36, 43, 50, 57, 64], 36) := by decide +kernel
theorem dX8_link_48 : decode cX8_link 48 = .ok (.aload_n 0, 1) := by decide +kernel
theorem dX8_link_49 : decode cX8_link 49 = .ok (.getfield 27, 3) := by decide +kernel
theorem dX8_link_52 : decode cX8_link 52 = .ok (.iload_n 1, 1) := by decide +kernel
theorem dX8_link_53 : decode cX8_link 53 = .ok (.iaload, 1) := by decide +kernel
theorem dX8_link_54 : decode cX8_link 54 = .ok (.ireturn, 1) := by decide +kernel
theorem dX8_link_55 : decode cX8_link 55 = .ok (.aload_n 0, 1) := by decide +kernel
theorem dX8_link_56 : decode cX8_link 56 = .ok (.getfield 30, 3) := by decide +kernel
theorem dX8_link_59 : decode cX8_link 59 = .ok (.iload_n 1, 1) := by decide +kernel
theorem dX8_link_60 : decode cX8_link 60 = .ok (.iaload, 1) := by decide +kernel
theorem dX8_link_61 : decode cX8_link 61 = .ok (.ireturn, 1) := by decide +kernel
theorem dX8_link_62 : decode cX8_link 62 = .ok (.aload_n 0, 1) := by decide +kernel
theorem dX8_link_63 : decode cX8_link 63 = .ok (.getfield 33, 3) := by decide +kernel
theorem dX8_link_66 : decode cX8_link 66 = .ok (.iload_n 1, 1) := by decide +kernel
theorem dX8_link_67 : decode cX8_link 67 = .ok (.iaload, 1) := by decide +kernel
theorem dX8_link_68 : decode cX8_link 68 = .ok (.ireturn, 1) := by decide +kernel
theorem dX8_link_69 : decode cX8_link 69 = .ok (.aload_n 0, 1) := by decide +kernel
theorem dX8_link_70 : decode cX8_link 70 = .ok (.getfield 36, 3) := by decide +kernel
theorem dX8_link_73 : decode cX8_link 73 = .ok (.iload_n 1, 1) := by decide +kernel
theorem dX8_link_74 : decode cX8_link 74 = .ok (.iaload, 1) := by decide +kernel
theorem dX8_link_75 : decode cX8_link 75 = .ok (.ireturn, 1) := by decide +kernel
theorem dX8_link_76 : decode cX8_link 76 = .ok (.aload_n 0, 1) := by decide +kernel
theorem dX8_link_77 : decode cX8_link 77 = .ok (.getfield 7, 3) := by decide +kernel
theorem dX8_link_80 : decode cX8_link 80 = .ok (.bipush 10, 2) := by decide +kernel
theorem dX8_link_82 : decode cX8_link 82 = .ok (.iaload, 1) := by decide +kernel
theorem dX8_link_83 : decode cX8_link 83 = .ok (.iload_n 1, 1) := by decide +kernel
theorem dX8_link_84 : decode cX8_link 84 = .ok (.invokestatic 192, 3) := by decide +kernel
theorem dX8_link_87 : decode cX8_link 87 = .ok (.ifCond .ne 7, 3) := by decide +kernel
theorem dX8_link_90 : decode cX8_link 90 = .ok (.iconst 1, 1) := by decide +kernel
theorem dX8_link_91 : decode cX8_link 91 = .ok (.goto 4, 3) := by decide +kernel
theorem dX8_link_94 : decode cX8_link 94 = .ok (.iconst 0, 1) := by decide +kernel
theorem dX8_link_95 : decode cX8_link 95 = .ok (.invokestatic 217, 3) := by decide +kernel
theorem dX8_link_98 : decode cX8_link 98 = .ok (.ireturn, 1) := by decide +kernel
theorem dX8_link_99 : decode cX8_link 99 = .ok (.ldc 95, 2) := by decide +kernel
theorem dX8_link_101 : decode cX8_link 101 = .ok (.ireturn, 1) := by decide +kernel
theorem dX8_feast_0 : decode cX8_feast 0 = .ok (.aload_n 0, 1) := by decide +kernel
theorem dX8_feast_1 : decode cX8_feast 1 = .ok (.iload_n 1, 1) := by decide +kernel
theorem dX8_feast_2 : decode cX8_feast 2 = .ok (.invokevirtual 248, 3) := by decide +kernel
theorem dX8_feast_5 : decode cX8_feast 5 = .ok (.ifCond .ne 8, 3) := by decide +kernel
theorem dX8_feast_8 : decode cX8_feast 8 = .ok (.ldc 244, 2) := by decide +kernel
theorem dX8_feast_10 : decode cX8_feast 10 = .ok (.goto 32, 3) := by decide +kernel
theorem dX8_feast_13 : decode cX8_feast 13 = .ok (.iload_n 2, 1) := by decide +kernel
theorem dX8_feast_14 : decode cX8_feast 14 = .ok (.ifCond .ne 12, 3) := by decide +kernel
theorem dX8_feast_17 : decode cX8_feast 17 = .ok (.aload_n 0, 1) := by decide +kernel
theorem dX8_feast_18 : decode cX8_feast 18 = .ok (.getfield 39, 3) := by decide +kernel
theorem dX8_feast_21 : decode cX8_feast 21 = .ok (.iload_n 1, 1) := by decide +kernel
theorem dX8_feast_22 : decode cX8_feast 22 = .ok (.iaload, 1) := by decide +kernel
theorem dX8_feast_23 : decode cX8_feast 23 = .ok (.goto 19, 3) := by decide +kernel
theorem dX8_feast_26 : decode cX8_feast 26 = .ok (.iload_n 2, 1) := by decide +kernel
theorem dX8_feast_27 : decode cX8_feast 27 = .ok (.iconst 1, 1) := by decide +kernel
theorem dX8_feast_28 : decode cX8_feast 28 = .ok (.if_icmp .ne 12, 3) := by decide +kernel
theorem dX8_feast_31 : decode cX8_feast 31 = .ok (.aload_n 0, 1) := by decide +kernel
theorem dX8_feast_32 : decode cX8_feast 32 = .ok (.getfield 42, 3) := by decide +kernel
theorem dX8_feast_35 : decode cX8_feast 35 = .ok (.iload_n 1, 1) := by decide +kernel
theorem dX8_feast_36 : decode cX8_feast 36 = .ok (.iaload, 1) := by decide +kernel
theorem dX8_feast_37 : decode cX8_feast 37 = .ok (.goto 5, 3) := by decide +kernel
theorem dX8_feast_40 : decode cX8_feast 40 = .ok (.ldc 95, 2) := by decide +kernel
theorem dX8_feast_42 : decode cX8_feast 42 = .ok (.ireturn, 1) := by decide +kernel
theorem dX8_stands_0 : decode cX8_stands 0 = .ok (.aload_n 0, 1) := by decide +kernel
theorem dX8_stands_1 : decode cX8_stands 1 = .ok (.iload_n 1, 1) := by decide +kernel
theorem dX8_stands_2 : decode cX8_stands 2 = .ok (.invokevirtual 240, 3) := by decide +kernel
theorem dX8_stands_5 : decode cX8_stands 5 = .ok (.ifCond .ne 6, 3) := by decide +kernel
theorem dX8_stands_8 : decode cX8_stands 8 = .ok (.ldc 244, 2) := by decide +kernel
theorem dX8_stands_10 : decode cX8_stands 10 = .ok (.ireturn, 1) := by decide +kernel
theorem dX8_stands_11 : decode cX8_stands 11 = .ok (.iload_n 2, 1) := by decide +kernel
theorem dX8_stands_12 : decode cX8_stands 12 = .ok (.i2l, 1) := by decide +kernel
theorem dX8_stands_13 : decode cX8_stands 13 = .ok (.lconst 0, 1) := by decide +kernel
theorem dX8_stands_14 : decode cX8_stands 14 = .ok (.ldc2_w 251, 3) := by decide +kernel
theorem dX8_stands_17 : decode cX8_stands 17 = .ok (.invokestatic 91, 3) := by decide +kernel
theorem dX8_stands_20 : decode cX8_stands 20 = .ok (.ifCond .ne 6, 3) := by decide +kernel
theorem dX8_stands_23 : decode cX8_stands 23 = .ok (.ldc 95, 2) := by decide +kernel
theorem dX8_stands_25 : decode cX8_stands 25 = .ok (.ireturn, 1) := by decide +kernel
theorem dX8_stands_26 : decode cX8_stands 26 = .ok (.aload_n 0, 1) := by decide +kernel
theorem dX8_stands_27 : decode cX8_stands 27 = .ok (.invokevirtual 231, 3) := by decide +kernel
theorem dX8_stands_30 : decode cX8_stands 30 = .ok (.aload_n 0, 1) := by decide +kernel
theorem dX8_stands_31 : decode cX8_stands 31 = .ok (.iload_n 1, 1) := by decide +kernel
theorem dX8_stands_32 : decode cX8_stands 32 = .ok (.iload_n 2, 1) := by decide +kernel
theorem dX8_stands_33 : decode cX8_stands 33 = .ok (.i2l, 1) := by decide +kernel
theorem dX8_stands_34 : decode cX8_stands 34 = .ok (.invokevirtual 227, 3) := by decide +kernel
theorem dX8_stands_37 : decode cX8_stands 37 = .ok (.ireturn, 1) := by decide +kernel
theorem dX8_copy_0 : decode cX8_copy 0 = .ok (.iconst 0, 1) := by decide +kernel
theorem dX8_copy_1 : decode cX8_copy 1 = .ok (.istore_n 3, 1) := by decide +kernel
theorem dX8_copy_2 : decode cX8_copy 2 = .ok (.iload_n 3, 1) := by decide +kernel
theorem dX8_copy_3 : decode cX8_copy 3 = .ok (.bipush 12, 2) := by decide +kernel
theorem dX8_copy_5 : decode cX8_copy 5 = .ok (.if_icmp .ge 25, 3) := by decide +kernel
theorem dX8_copy_8 : decode cX8_copy 8 = .ok (.aload_n 0, 1) := by decide +kernel
theorem dX8_copy_9 : decode cX8_copy 9 = .ok (.getfield 7, 3) := by decide +kernel
theorem dX8_copy_12 : decode cX8_copy 12 = .ok (.iload_n 2, 1) := by decide +kernel
theorem dX8_copy_13 : decode cX8_copy 13 = .ok (.iload_n 3, 1) := by decide +kernel
theorem dX8_copy_14 : decode cX8_copy 14 = .ok (.iadd, 1) := by decide +kernel
theorem dX8_copy_15 : decode cX8_copy 15 = .ok (.aload_n 0, 1) := by decide +kernel
theorem dX8_copy_16 : decode cX8_copy 16 = .ok (.getfield 7, 3) := by decide +kernel
theorem dX8_copy_19 : decode cX8_copy 19 = .ok (.iload_n 1, 1) := by decide +kernel
theorem dX8_copy_20 : decode cX8_copy 20 = .ok (.iload_n 3, 1) := by decide +kernel
theorem dX8_copy_21 : decode cX8_copy 21 = .ok (.iadd, 1) := by decide +kernel
theorem dX8_copy_22 : decode cX8_copy 22 = .ok (.iaload, 1) := by decide +kernel
theorem dX8_copy_23 : decode cX8_copy 23 = .ok (.iastore, 1) := by decide +kernel
theorem dX8_copy_24 : decode cX8_copy 24 = .ok (.iinc 3 1, 3) := by decide +kernel
theorem dX8_copy_27 : decode cX8_copy 27 = .ok (.goto (-25), 3) := by decide +kernel
theorem dX8_copy_30 : decode cX8_copy 30 = .ok (.return_, 1) := by decide +kernel
theorem dX8_remember_0 : decode cX8_remember 0 = .ok (.aload_n 0, 1) := by decide +kernel
theorem dX8_remember_1 : decode cX8_remember 1 = .ok (.getfield 174, 3) := by decide +kernel
theorem dX8_remember_4 : decode cX8_remember 4 = .ok (.bipush 30, 2) := by decide +kernel
theorem dX8_remember_6 : decode cX8_remember 6 = .ok (.if_icmp .ne 47, 3) := by decide +kernel
theorem dX8_remember_9 : decode cX8_remember 9 = .ok (.iconst 1, 1) := by decide +kernel
theorem dX8_remember_10 : decode cX8_remember 10 = .ok (.istore_n 1, 1) := by decide +kernel
theorem dX8_remember_11 : decode cX8_remember 11 = .ok (.iload_n 1, 1) := by decide +kernel
theorem dX8_remember_12 : decode cX8_remember 12 = .ok (.bipush 30, 2) := by decide +kernel
theorem dX8_remember_14 : decode cX8_remember 14 = .ok (.if_icmp .ge 29, 3) := by decide +kernel
theorem dX8_remember_17 : decode cX8_remember 17 = .ok (.aload_n 0, 1) := by decide +kernel
theorem dX8_remember_18 : decode cX8_remember 18 = .ok (.bipush 36, 2) := by decide +kernel
theorem dX8_remember_20 : decode cX8_remember 20 = .ok (.bipush 12, 2) := by decide +kernel
theorem dX8_remember_22 : decode cX8_remember 22 = .ok (.iload_n 1, 1) := by decide +kernel
theorem dX8_remember_23 : decode cX8_remember 23 = .ok (.imul, 1) := by decide +kernel
theorem dX8_remember_24 : decode cX8_remember 24 = .ok (.iadd, 1) := by decide +kernel
theorem dX8_remember_25 : decode cX8_remember 25 = .ok (.bipush 36, 2) := by decide +kernel
theorem dX8_remember_27 : decode cX8_remember 27 = .ok (.bipush 12, 2) := by decide +kernel
theorem dX8_remember_29 : decode cX8_remember 29 = .ok (.iload_n 1, 1) := by decide +kernel
theorem dX8_remember_30 : decode cX8_remember 30 = .ok (.iconst 1, 1) := by decide +kernel
theorem dX8_remember_31 : decode cX8_remember 31 = .ok (.isub, 1) := by decide +kernel
theorem dX8_remember_32 : decode cX8_remember 32 = .ok (.imul, 1) := by decide +kernel
theorem dX8_remember_33 : decode cX8_remember 33 = .ok (.iadd, 1) := by decide +kernel
theorem dX8_remember_34 : decode cX8_remember 34 = .ok (.invokevirtual 253, 3) := by decide +kernel
theorem dX8_remember_37 : decode cX8_remember 37 = .ok (.iinc 1 1, 3) := by decide +kernel
theorem dX8_remember_40 : decode cX8_remember 40 = .ok (.goto (-29), 3) := by decide +kernel
theorem dX8_remember_43 : decode cX8_remember 43 = .ok (.aload_n 0, 1) := by decide +kernel
theorem dX8_remember_44 : decode cX8_remember 44 = .ok (.dup, 1) := by decide +kernel
theorem dX8_remember_45 : decode cX8_remember 45 = .ok (.getfield 174, 3) := by decide +kernel
theorem dX8_remember_48 : decode cX8_remember 48 = .ok (.iconst 1, 1) := by decide +kernel
theorem dX8_remember_49 : decode cX8_remember 49 = .ok (.isub, 1) := by decide +kernel
theorem dX8_remember_50 : decode cX8_remember 50 = .ok (.putfield 174, 3) := by decide +kernel
theorem dX8_remember_53 : decode cX8_remember 53 = .ok (.aload_n 0, 1) := by decide +kernel
theorem dX8_remember_54 : decode cX8_remember 54 = .ok (.iconst 0, 1) := by decide +kernel
theorem dX8_remember_55 : decode cX8_remember 55 = .ok (.bipush 36, 2) := by decide +kernel
theorem dX8_remember_57 : decode cX8_remember 57 = .ok (.bipush 12, 2) := by decide +kernel
theorem dX8_remember_59 : decode cX8_remember 59 = .ok (.aload_n 0, 1) := by decide +kernel
theorem dX8_remember_60 : decode cX8_remember 60 = .ok (.getfield 174, 3) := by decide +kernel
theorem dX8_remember_63 : decode cX8_remember 63 = .ok (.imul, 1) := by decide +kernel
theorem dX8_remember_64 : decode cX8_remember 64 = .ok (.iadd, 1) := by decide +kernel
theorem dX8_remember_65 : decode cX8_remember 65 = .ok (.invokevirtual 253, 3) := by decide +kernel
theorem dX8_remember_68 : decode cX8_remember 68 = .ok (.aload_n 0, 1) := by decide +kernel
theorem dX8_remember_69 : decode cX8_remember 69 = .ok (.dup, 1) := by decide +kernel
theorem dX8_remember_70 : decode cX8_remember 70 = .ok (.getfield 174, 3) := by decide +kernel
theorem dX8_remember_73 : decode cX8_remember 73 = .ok (.iconst 1, 1) := by decide +kernel
theorem dX8_remember_74 : decode cX8_remember 74 = .ok (.iadd, 1) := by decide +kernel
theorem dX8_remember_75 : decode cX8_remember 75 = .ok (.putfield 174, 3) := by decide +kernel
theorem dX8_remember_78 : decode cX8_remember 78 = .ok (.return_, 1) := by decide +kernel
theorem dX8_days_0 : decode cX8_days 0 = .ok (.iload_n 1, 1) := by decide +kernel
theorem dX8_days_1 : decode cX8_days 1 = .ok (.i2l, 1) := by decide +kernel
theorem dX8_days_2 : decode cX8_days 2 = .ok (.lconst 1, 1) := by decide +kernel
theorem dX8_days_3 : decode cX8_days 3 = .ok (.ldc2_w 256, 3) := by decide +kernel
theorem dX8_days_6 : decode cX8_days 6 = .ok (.invokestatic 91, 3) := by decide +kernel
theorem dX8_days_9 : decode cX8_days 9 = .ok (.ifCond .ne 6, 3) := by decide +kernel
theorem dX8_days_12 : decode cX8_days 12 = .ok (.ldc 95, 2) := by decide +kernel
theorem dX8_days_14 : decode cX8_days 14 = .ok (.ireturn, 1) := by decide +kernel
theorem dX8_days_15 : decode cX8_days 15 = .ok (.aload_n 0, 1) := by decide +kernel
theorem dX8_days_16 : decode cX8_days 16 = .ok (.invokevirtual 231, 3) := by decide +kernel
theorem dX8_days_19 : decode cX8_days 19 = .ok (.aload_n 0, 1) := by decide +kernel
theorem dX8_days_20 : decode cX8_days 20 = .ok (.getfield 200, 3) := by decide +kernel
theorem dX8_days_23 : decode cX8_days 23 = .ok (.ifCond .eq 7, 3) := by decide +kernel
theorem dX8_days_26 : decode cX8_days 26 = .ok (.ldc_w 258, 3) := by decide +kernel
theorem dX8_days_29 : decode cX8_days 29 = .ok (.ireturn, 1) := by decide +kernel
theorem dX8_days_30 : decode cX8_days 30 = .ok (.aload_n 0, 1) := by decide +kernel
theorem dX8_days_31 : decode cX8_days 31 = .ok (.getfield 7, 3) := by decide +kernel
theorem dX8_days_34 : decode cX8_days 34 = .ok (.bipush 8, 2) := by decide +kernel
theorem dX8_days_36 : decode cX8_days 36 = .ok (.iaload, 1) := by decide +kernel
theorem dX8_days_37 : decode cX8_days 37 = .ok (.ldc_w 259, 3) := by decide +kernel
theorem dX8_days_40 : decode cX8_days 40 = .ok (.if_icmp .le 6, 3) := by decide +kernel
theorem dX8_days_43 : decode cX8_days 43 = .ok (.ldc 99, 2) := by decide +kernel
theorem dX8_days_45 : decode cX8_days 45 = .ok (.ireturn, 1) := by decide +kernel
theorem dX8_days_46 : decode cX8_days 46 = .ok (.aload_n 0, 1) := by decide +kernel
theorem dX8_days_47 : decode cX8_days 47 = .ok (.invokevirtual 260, 3) := by decide +kernel
theorem dX8_days_50 : decode cX8_days 50 = .ok (.aload_n 0, 1) := by decide +kernel
theorem dX8_days_51 : decode cX8_days 51 = .ok (.getfield 7, 3) := by decide +kernel
theorem dX8_days_54 : decode cX8_days 54 = .ok (.bipush 8, 2) := by decide +kernel
theorem dX8_days_56 : decode cX8_days 56 = .ok (.dup2, 1) := by decide +kernel
theorem dX8_days_57 : decode cX8_days 57 = .ok (.iaload, 1) := by decide +kernel
theorem dX8_days_58 : decode cX8_days 58 = .ok (.iload_n 1, 1) := by decide +kernel
theorem dX8_days_59 : decode cX8_days 59 = .ok (.iadd, 1) := by decide +kernel
theorem dX8_days_60 : decode cX8_days 60 = .ok (.iastore, 1) := by decide +kernel
theorem dX8_days_61 : decode cX8_days 61 = .ok (.aload_n 0, 1) := by decide +kernel
theorem dX8_days_62 : decode cX8_days 62 = .ok (.getfield 7, 3) := by decide +kernel
theorem dX8_days_65 : decode cX8_days 65 = .ok (.bipush 8, 2) := by decide +kernel
theorem dX8_days_67 : decode cX8_days 67 = .ok (.iaload, 1) := by decide +kernel
theorem dX8_days_68 : decode cX8_days 68 = .ok (.ireturn, 1) := by decide +kernel
theorem dX8_markToday_0 : decode cX8_markToday 0 = .ok (.aload_n 0, 1) := by decide +kernel
theorem dX8_markToday_1 : decode cX8_markToday 1 = .ok (.invokevirtual 231, 3) := by decide +kernel
theorem dX8_markToday_4 : decode cX8_markToday 4 = .ok (.iconst 0, 1) := by decide +kernel
theorem dX8_markToday_5 : decode cX8_markToday 5 = .ok (.istore_n 1, 1) := by decide +kernel
theorem dX8_markToday_6 : decode cX8_markToday 6 = .ok (.iload_n 1, 1) := by decide +kernel
theorem dX8_markToday_7 : decode cX8_markToday 7 = .ok (.aload_n 0, 1) := by decide +kernel
theorem dX8_markToday_8 : decode cX8_markToday 8 = .ok (.getfield 177, 3) := by decide +kernel
theorem dX8_markToday_11 : decode cX8_markToday 11 = .ok (.if_icmp .ge 21, 3) := by decide +kernel
theorem dX8_markToday_14 : decode cX8_markToday 14 = .ok (.aload_n 0, 1) := by decide +kernel
theorem dX8_markToday_15 : decode cX8_markToday 15 = .ok (.getfield 7, 3) := by decide +kernel
theorem dX8_markToday_18 : decode cX8_markToday 18 = .ok (.iload_n 1, 1) := by decide +kernel
theorem dX8_markToday_19 : decode cX8_markToday 19 = .ok (.aload_n 0, 1) := by decide +kernel
theorem dX8_markToday_20 : decode cX8_markToday 20 = .ok (.iload_n 1, 1) := by decide +kernel
theorem dX8_markToday_21 : decode cX8_markToday 21 = .ok (.lconst 0, 1) := by decide +kernel
theorem dX8_markToday_22 : decode cX8_markToday 22 = .ok (.invokevirtual 227, 3) := by decide +kernel
theorem dX8_markToday_25 : decode cX8_markToday 25 = .ok (.iastore, 1) := by decide +kernel
theorem dX8_markToday_26 : decode cX8_markToday 26 = .ok (.iinc 1 1, 3) := by decide +kernel
theorem dX8_markToday_29 : decode cX8_markToday 29 = .ok (.goto (-23), 3) := by decide +kernel
theorem dX8_markToday_32 : decode cX8_markToday 32 = .ok (.aload_n 0, 1) := by decide +kernel
theorem dX8_markToday_33 : decode cX8_markToday 33 = .ok (.getfield 7, 3) := by decide +kernel
theorem dX8_markToday_36 : decode cX8_markToday 36 = .ok (.bipush 9, 2) := by decide +kernel
theorem dX8_markToday_38 : decode cX8_markToday 38 = .ok (.aload_n 0, 1) := by decide +kernel
theorem dX8_markToday_39 : decode cX8_markToday 39 = .ok (.getfield 7, 3) := by decide +kernel
theorem dX8_markToday_42 : decode cX8_markToday 42 = .ok (.bipush 8, 2) := by decide +kernel
theorem dX8_markToday_44 : decode cX8_markToday 44 = .ok (.iaload, 1) := by decide +kernel
theorem dX8_markToday_45 : decode cX8_markToday 45 = .ok (.iastore, 1) := by decide +kernel
theorem dX8_markToday_46 : decode cX8_markToday 46 = .ok (.return_, 1) := by decide +kernel
theorem dX8_cut_0 : decode cX8_cut 0 = .ok (.aload_n 0, 1) := by decide +kernel
theorem dX8_cut_1 : decode cX8_cut 1 = .ok (.iload_n 1, 1) := by decide +kernel
theorem dX8_cut_2 : decode cX8_cut 2 = .ok (.invokevirtual 245, 3) := by decide +kernel
theorem dX8_cut_5 : decode cX8_cut 5 = .ok (.ifCond .ne 6, 3) := by decide +kernel
theorem dX8_cut_8 : decode cX8_cut 8 = .ok (.ldc 244, 2) := by decide +kernel
theorem dX8_cut_10 : decode cX8_cut 10 = .ok (.ireturn, 1) := by decide +kernel
theorem dX8_cut_11 : decode cX8_cut 11 = .ok (.aload_n 0, 1) := by decide +kernel
theorem dX8_cut_12 : decode cX8_cut 12 = .ok (.getfield 7, 3) := by decide +kernel
theorem dX8_cut_15 : decode cX8_cut 15 = .ok (.bipush 10, 2) := by decide +kernel
theorem dX8_cut_17 : decode cX8_cut 17 = .ok (.iaload, 1) := by decide +kernel
theorem dX8_cut_18 : decode cX8_cut 18 = .ok (.iload_n 1, 1) := by decide +kernel
theorem dX8_cut_19 : decode cX8_cut 19 = .ok (.invokestatic 192, 3) := by decide +kernel
theorem dX8_cut_22 : decode cX8_cut 22 = .ok (.ifCond .ne 7, 3) := by decide +kernel
theorem dX8_cut_25 : decode cX8_cut 25 = .ok (.iconst 1, 1) := by decide +kernel
theorem dX8_cut_26 : decode cX8_cut 26 = .ok (.goto 4, 3) := by decide +kernel
theorem dX8_cut_29 : decode cX8_cut 29 = .ok (.iconst 0, 1) := by decide +kernel
theorem dX8_cut_30 : decode cX8_cut 30 = .ok (.invokestatic 217, 3) := by decide +kernel
theorem dX8_cut_33 : decode cX8_cut 33 = .ok (.istore_n 3, 1) := by decide +kernel
theorem dX8_cut_34 : decode cX8_cut 34 = .ok (.iload_n 3, 1) := by decide +kernel
theorem dX8_cut_35 : decode cX8_cut 35 = .ok (.iload_n 2, 1) := by decide +kernel
theorem dX8_cut_36 : decode cX8_cut 36 = .ok (.invokestatic 217, 3) := by decide +kernel
theorem dX8_cut_39 : decode cX8_cut 39 = .ok (.if_icmp .ne 24, 3) := by decide +kernel
theorem dX8_cut_42 : decode cX8_cut 42 = .ok (.aload_n 0, 1) := by decide +kernel
theorem dX8_cut_43 : decode cX8_cut 43 = .ok (.invokevirtual 260, 3) := by decide +kernel
theorem dX8_cut_46 : decode cX8_cut 46 = .ok (.aload_n 0, 1) := by decide +kernel
theorem dX8_cut_47 : decode cX8_cut 47 = .ok (.invokevirtual 263, 3) := by decide +kernel
theorem dX8_cut_50 : decode cX8_cut 50 = .ok (.aload_n 0, 1) := by decide +kernel
theorem dX8_cut_51 : decode cX8_cut 51 = .ok (.getfield 7, 3) := by decide +kernel
theorem dX8_cut_54 : decode cX8_cut 54 = .ok (.bipush 10, 2) := by decide +kernel
theorem dX8_cut_56 : decode cX8_cut 56 = .ok (.dup2, 1) := by decide +kernel
theorem dX8_cut_57 : decode cX8_cut 57 = .ok (.iaload, 1) := by decide +kernel
theorem dX8_cut_58 : decode cX8_cut 58 = .ok (.iconst 1, 1) := by decide +kernel
theorem dX8_cut_59 : decode cX8_cut 59 = .ok (.iload_n 1, 1) := by decide +kernel
theorem dX8_cut_60 : decode cX8_cut 60 = .ok (.ishl, 1) := by decide +kernel
theorem dX8_cut_61 : decode cX8_cut 61 = .ok (.ixor, 1) := by decide +kernel
theorem dX8_cut_62 : decode cX8_cut 62 = .ok (.iastore, 1) := by decide +kernel
theorem dX8_cut_63 : decode cX8_cut 63 = .ok (.iload_n 3, 1) := by decide +kernel
theorem dX8_cut_64 : decode cX8_cut 64 = .ok (.ireturn, 1) := by decide +kernel
theorem dX8_slipBy_0 : decode cX8_slipBy 0 = .ok (.aload_n 0, 1) := by decide +kernel
theorem dX8_slipBy_1 : decode cX8_slipBy 1 = .ok (.invokevirtual 263, 3) := by decide +kernel
theorem dX8_slipBy_4 : decode cX8_slipBy 4 = .ok (.aload_n 0, 1) := by decide +kernel
theorem dX8_slipBy_5 : decode cX8_slipBy 5 = .ok (.getfield 7, 3) := by decide +kernel
theorem dX8_slipBy_8 : decode cX8_slipBy 8 = .ok (.iload_n 1, 1) := by decide +kernel
theorem dX8_slipBy_9 : decode cX8_slipBy 9 = .ok (.aload_n 0, 1) := by decide +kernel
theorem dX8_slipBy_10 : decode cX8_slipBy 10 = .ok (.getfield 7, 3) := by decide +kernel
theorem dX8_slipBy_13 : decode cX8_slipBy 13 = .ok (.iload_n 1, 1) := by decide +kernel
theorem dX8_slipBy_14 : decode cX8_slipBy 14 = .ok (.iaload, 1) := by decide +kernel
theorem dX8_slipBy_15 : decode cX8_slipBy 15 = .ok (.iload_n 2, 1) := by decide +kernel
theorem dX8_slipBy_16 : decode cX8_slipBy 16 = .ok (.iadd, 1) := by decide +kernel
theorem dX8_slipBy_17 : decode cX8_slipBy 17 = .ok (.i2l, 1) := by decide +kernel
theorem dX8_slipBy_18 : decode cX8_slipBy 18 = .ok (.aload_n 0, 1) := by decide +kernel
theorem dX8_slipBy_19 : decode cX8_slipBy 19 = .ok (.getfield 21, 3) := by decide +kernel
theorem dX8_slipBy_22 : decode cX8_slipBy 22 = .ok (.iload_n 1, 1) := by decide +kernel
theorem dX8_slipBy_23 : decode cX8_slipBy 23 = .ok (.iaload, 1) := by decide +kernel
theorem dX8_slipBy_24 : decode cX8_slipBy 24 = .ok (.invokestatic 223, 3) := by decide +kernel
theorem dX8_slipBy_27 : decode cX8_slipBy 27 = .ok (.iastore, 1) := by decide +kernel
theorem dX8_slipBy_28 : decode cX8_slipBy 28 = .ok (.return_, 1) := by decide +kernel
theorem dX8_slip_0 : decode cX8_slip 0 = .ok (.aload_n 0, 1) := by decide +kernel
theorem dX8_slip_1 : decode cX8_slip 1 = .ok (.iload_n 1, 1) := by decide +kernel
theorem dX8_slip_2 : decode cX8_slip 2 = .ok (.invokevirtual 240, 3) := by decide +kernel
theorem dX8_slip_5 : decode cX8_slip 5 = .ok (.ifCond .ne 6, 3) := by decide +kernel
theorem dX8_slip_8 : decode cX8_slip 8 = .ok (.ldc 244, 2) := by decide +kernel
theorem dX8_slip_10 : decode cX8_slip 10 = .ok (.ireturn, 1) := by decide +kernel
theorem dX8_slip_11 : decode cX8_slip 11 = .ok (.iload_n 2, 1) := by decide +kernel
theorem dX8_slip_12 : decode cX8_slip 12 = .ok (.i2l, 1) := by decide +kernel
theorem dX8_slip_13 : decode cX8_slip 13 = .ok (.ldc2_w 266, 3) := by decide +kernel
theorem dX8_slip_16 : decode cX8_slip 16 = .ok (.ldc2_w 268, 3) := by decide +kernel
theorem dX8_slip_19 : decode cX8_slip 19 = .ok (.invokestatic 91, 3) := by decide +kernel
theorem dX8_slip_22 : decode cX8_slip 22 = .ok (.ifCond .ne 6, 3) := by decide +kernel
theorem dX8_slip_25 : decode cX8_slip 25 = .ok (.ldc 95, 2) := by decide +kernel
theorem dX8_slip_27 : decode cX8_slip 27 = .ok (.ireturn, 1) := by decide +kernel
theorem dX8_slip_28 : decode cX8_slip 28 = .ok (.aload_n 0, 1) := by decide +kernel
theorem dX8_slip_29 : decode cX8_slip 29 = .ok (.invokevirtual 260, 3) := by decide +kernel
theorem dX8_slip_32 : decode cX8_slip 32 = .ok (.aload_n 0, 1) := by decide +kernel
theorem dX8_slip_33 : decode cX8_slip 33 = .ok (.iload_n 1, 1) := by decide +kernel
theorem dX8_slip_34 : decode cX8_slip 34 = .ok (.iload_n 2, 1) := by decide +kernel
theorem dX8_slip_35 : decode cX8_slip 35 = .ok (.invokevirtual 270, 3) := by decide +kernel
theorem dX8_slip_38 : decode cX8_slip 38 = .ok (.aload_n 0, 1) := by decide +kernel
theorem dX8_slip_39 : decode cX8_slip 39 = .ok (.getfield 7, 3) := by decide +kernel
theorem dX8_slip_42 : decode cX8_slip 42 = .ok (.iload_n 1, 1) := by decide +kernel
theorem dX8_slip_43 : decode cX8_slip 43 = .ok (.iaload, 1) := by decide +kernel
theorem dX8_slip_44 : decode cX8_slip 44 = .ok (.ireturn, 1) := by decide +kernel
theorem dX8_draw_0 : decode cX8_draw 0 = .ok (.aload_n 0, 1) := by decide +kernel
theorem dX8_draw_1 : decode cX8_draw 1 = .ok (.getfield 7, 3) := by decide +kernel
theorem dX8_draw_4 : decode cX8_draw 4 = .ok (.bipush 11, 2) := by decide +kernel
theorem dX8_draw_6 : decode cX8_draw 6 = .ok (.aload_n 0, 1) := by decide +kernel
theorem dX8_draw_7 : decode cX8_draw 7 = .ok (.getfield 7, 3) := by decide +kernel
theorem dX8_draw_10 : decode cX8_draw 10 = .ok (.bipush 11, 2) := by decide +kernel
theorem dX8_draw_12 : decode cX8_draw 12 = .ok (.iaload, 1) := by decide +kernel
theorem dX8_draw_13 : decode cX8_draw 13 = .ok (.i2l, 1) := by decide +kernel
theorem dX8_draw_14 : decode cX8_draw 14 = .ok (.ldc2_w 273, 3) := by decide +kernel
theorem dX8_draw_17 : decode cX8_draw 17 = .ok (.lmul, 1) := by decide +kernel
theorem dX8_draw_18 : decode cX8_draw 18 = .ok (.ldc2_w 275, 3) := by decide +kernel
theorem dX8_draw_21 : decode cX8_draw 21 = .ok (.ladd, 1) := by decide +kernel
theorem dX8_draw_22 : decode cX8_draw 22 = .ok (.ldc2_w 277, 3) := by decide +kernel
theorem dX8_draw_25 : decode cX8_draw 25 = .ok (.lrem, 1) := by decide +kernel
theorem dX8_draw_26 : decode cX8_draw 26 = .ok (.l2i, 1) := by decide +kernel
theorem dX8_draw_27 : decode cX8_draw 27 = .ok (.iastore, 1) := by decide +kernel
theorem dX8_draw_28 : decode cX8_draw 28 = .ok (.aload_n 0, 1) := by decide +kernel
theorem dX8_draw_29 : decode cX8_draw 29 = .ok (.getfield 7, 3) := by decide +kernel
theorem dX8_draw_32 : decode cX8_draw 32 = .ok (.bipush 11, 2) := by decide +kernel
theorem dX8_draw_34 : decode cX8_draw 34 = .ok (.iaload, 1) := by decide +kernel
theorem dX8_draw_35 : decode cX8_draw 35 = .ok (.ldc_w 279, 3) := by decide +kernel
theorem dX8_draw_38 : decode cX8_draw 38 = .ok (.idiv, 1) := by decide +kernel
theorem dX8_draw_39 : decode cX8_draw 39 = .ok (.iload_n 1, 1) := by decide +kernel
theorem dX8_draw_40 : decode cX8_draw 40 = .ok (.irem, 1) := by decide +kernel
theorem dX8_draw_41 : decode cX8_draw 41 = .ok (.ireturn, 1) := by decide +kernel
theorem dX8_drift_0 : decode cX8_drift 0 = .ok (.iload_n 1, 1) := by decide +kernel
theorem dX8_drift_1 : decode cX8_drift 1 = .ok (.i2l, 1) := by decide +kernel
theorem dX8_drift_2 : decode cX8_drift 2 = .ok (.lconst 1, 1) := by decide +kernel
theorem dX8_drift_3 : decode cX8_drift 3 = .ok (.ldc2_w 268, 3) := by decide +kernel
theorem dX8_drift_6 : decode cX8_drift 6 = .ok (.invokestatic 91, 3) := by decide +kernel
theorem dX8_drift_9 : decode cX8_drift 9 = .ok (.ifCond .ne 6, 3) := by decide +kernel
theorem dX8_drift_12 : decode cX8_drift 12 = .ok (.ldc 95, 2) := by decide +kernel
theorem dX8_drift_14 : decode cX8_drift 14 = .ok (.ireturn, 1) := by decide +kernel
theorem dX8_drift_15 : decode cX8_drift 15 = .ok (.aload_n 0, 1) := by decide +kernel
theorem dX8_drift_16 : decode cX8_drift 16 = .ok (.invokevirtual 231, 3) := by decide +kernel
theorem dX8_drift_19 : decode cX8_drift 19 = .ok (.aload_n 0, 1) := by decide +kernel
theorem dX8_drift_20 : decode cX8_drift 20 = .ok (.getfield 200, 3) := by decide +kernel
theorem dX8_drift_23 : decode cX8_drift 23 = .ok (.ifCond .ne 10, 3) := by decide +kernel
theorem dX8_drift_26 : decode cX8_drift 26 = .ok (.aload_n 0, 1) := by decide +kernel
theorem dX8_drift_27 : decode cX8_drift 27 = .ok (.getfield 177, 3) := by decide +kernel
theorem dX8_drift_30 : decode cX8_drift 30 = .ok (.ifCond .ne 7, 3) := by decide +kernel
theorem dX8_drift_33 : decode cX8_drift 33 = .ok (.ldc_w 258, 3) := by decide +kernel
theorem dX8_drift_36 : decode cX8_drift 36 = .ok (.ireturn, 1) := by decide +kernel
theorem dX8_drift_37 : decode cX8_drift 37 = .ok (.aload_n 0, 1) := by decide +kernel
theorem dX8_drift_38 : decode cX8_drift 38 = .ok (.getfield 7, 3) := by decide +kernel
theorem dX8_drift_41 : decode cX8_drift 41 = .ok (.bipush 8, 2) := by decide +kernel
theorem dX8_drift_43 : decode cX8_drift 43 = .ok (.iaload, 1) := by decide +kernel
theorem dX8_drift_44 : decode cX8_drift 44 = .ok (.ldc_w 259, 3) := by decide +kernel
theorem dX8_drift_47 : decode cX8_drift 47 = .ok (.if_icmp .le 6, 3) := by decide +kernel
theorem dX8_drift_50 : decode cX8_drift 50 = .ok (.ldc 99, 2) := by decide +kernel
theorem dX8_drift_52 : decode cX8_drift 52 = .ok (.ireturn, 1) := by decide +kernel
theorem dX8_drift_53 : decode cX8_drift 53 = .ok (.aload_n 0, 1) := by decide +kernel
theorem dX8_drift_54 : decode cX8_drift 54 = .ok (.invokevirtual 260, 3) := by decide +kernel
theorem dX8_drift_57 : decode cX8_drift 57 = .ok (.iconst 0, 1) := by decide +kernel
theorem dX8_drift_58 : decode cX8_drift 58 = .ok (.istore_n 2, 1) := by decide +kernel
theorem dX8_drift_59 : decode cX8_drift 59 = .ok (.iload_n 2, 1) := by decide +kernel
theorem dX8_drift_60 : decode cX8_drift 60 = .ok (.iload_n 1, 1) := by decide +kernel
theorem dX8_drift_61 : decode cX8_drift 61 = .ok (.if_icmp .ge 42, 3) := by decide +kernel
theorem dX8_drift_64 : decode cX8_drift 64 = .ok (.aload_n 0, 1) := by decide +kernel
theorem dX8_drift_65 : decode cX8_drift 65 = .ok (.bipush 8, 2) := by decide +kernel
theorem dX8_drift_67 : decode cX8_drift 67 = .ok (.invokevirtual 280, 3) := by decide +kernel
theorem dX8_drift_70 : decode cX8_drift 70 = .ok (.ifCond .ne 16, 3) := by decide +kernel
theorem dX8_drift_73 : decode cX8_drift 73 = .ok (.aload_n 0, 1) := by decide +kernel
theorem dX8_drift_74 : decode cX8_drift 74 = .ok (.aload_n 0, 1) := by decide +kernel
theorem dX8_drift_75 : decode cX8_drift 75 = .ok (.aload_n 0, 1) := by decide +kernel
theorem dX8_drift_76 : decode cX8_drift 76 = .ok (.getfield 177, 3) := by decide +kernel
theorem dX8_drift_79 : decode cX8_drift 79 = .ok (.invokevirtual 280, 3) := by decide +kernel
theorem dX8_drift_82 : decode cX8_drift 82 = .ok (.iconst 1, 1) := by decide +kernel
theorem dX8_drift_83 : decode cX8_drift 83 = .ok (.invokevirtual 270, 3) := by decide +kernel
theorem dX8_drift_86 : decode cX8_drift 86 = .ok (.aload_n 0, 1) := by decide +kernel
theorem dX8_drift_87 : decode cX8_drift 87 = .ok (.getfield 7, 3) := by decide +kernel
theorem dX8_drift_90 : decode cX8_drift 90 = .ok (.bipush 8, 2) := by decide +kernel
theorem dX8_drift_92 : decode cX8_drift 92 = .ok (.dup2, 1) := by decide +kernel
theorem dX8_drift_93 : decode cX8_drift 93 = .ok (.iaload, 1) := by decide +kernel
theorem dX8_drift_94 : decode cX8_drift 94 = .ok (.iconst 1, 1) := by decide +kernel
theorem dX8_drift_95 : decode cX8_drift 95 = .ok (.iadd, 1) := by decide +kernel
theorem dX8_drift_96 : decode cX8_drift 96 = .ok (.iastore, 1) := by decide +kernel
theorem dX8_drift_97 : decode cX8_drift 97 = .ok (.iinc 2 1, 3) := by decide +kernel
theorem dX8_drift_100 : decode cX8_drift 100 = .ok (.goto (-41), 3) := by decide +kernel
theorem dX8_drift_103 : decode cX8_drift 103 = .ok (.aload_n 0, 1) := by decide +kernel
theorem dX8_drift_104 : decode cX8_drift 104 = .ok (.getfield 7, 3) := by decide +kernel
theorem dX8_drift_107 : decode cX8_drift 107 = .ok (.bipush 8, 2) := by decide +kernel
theorem dX8_drift_109 : decode cX8_drift 109 = .ok (.iaload, 1) := by decide +kernel
theorem dX8_drift_110 : decode cX8_drift 110 = .ok (.ireturn, 1) := by decide +kernel
theorem dX8_undo_0 : decode cX8_undo 0 = .ok (.iload_n 1, 1) := by decide +kernel
theorem dX8_undo_1 : decode cX8_undo 1 = .ok (.i2l, 1) := by decide +kernel
theorem dX8_undo_2 : decode cX8_undo 2 = .ok (.lconst 1, 1) := by decide +kernel
theorem dX8_undo_3 : decode cX8_undo 3 = .ok (.ldc2_w 283, 3) := by decide +kernel
theorem dX8_undo_6 : decode cX8_undo 6 = .ok (.invokestatic 91, 3) := by decide +kernel
theorem dX8_undo_9 : decode cX8_undo 9 = .ok (.ifCond .ne 6, 3) := by decide +kernel
theorem dX8_undo_12 : decode cX8_undo 12 = .ok (.ldc 95, 2) := by decide +kernel
theorem dX8_undo_14 : decode cX8_undo 14 = .ok (.ireturn, 1) := by decide +kernel
theorem dX8_undo_15 : decode cX8_undo 15 = .ok (.iload_n 1, 1) := by decide +kernel
theorem dX8_undo_16 : decode cX8_undo 16 = .ok (.aload_n 0, 1) := by decide +kernel
theorem dX8_undo_17 : decode cX8_undo 17 = .ok (.getfield 174, 3) := by decide +kernel
theorem dX8_undo_20 : decode cX8_undo 20 = .ok (.if_icmp .le 7, 3) := by decide +kernel
theorem dX8_undo_23 : decode cX8_undo 23 = .ok (.ldc_w 258, 3) := by decide +kernel
theorem dX8_undo_26 : decode cX8_undo 26 = .ok (.ireturn, 1) := by decide +kernel
theorem dX8_undo_27 : decode cX8_undo 27 = .ok (.aload_n 0, 1) := by decide +kernel
theorem dX8_undo_28 : decode cX8_undo 28 = .ok (.dup, 1) := by decide +kernel
theorem dX8_undo_29 : decode cX8_undo 29 = .ok (.getfield 174, 3) := by decide +kernel
theorem dX8_undo_32 : decode cX8_undo 32 = .ok (.iload_n 1, 1) := by decide +kernel
theorem dX8_undo_33 : decode cX8_undo 33 = .ok (.isub, 1) := by decide +kernel
theorem dX8_undo_34 : decode cX8_undo 34 = .ok (.putfield 174, 3) := by decide +kernel
theorem dX8_undo_37 : decode cX8_undo 37 = .ok (.aload_n 0, 1) := by decide +kernel
theorem dX8_undo_38 : decode cX8_undo 38 = .ok (.getfield 7, 3) := by decide +kernel
theorem dX8_undo_41 : decode cX8_undo 41 = .ok (.bipush 11, 2) := by decide +kernel
theorem dX8_undo_43 : decode cX8_undo 43 = .ok (.iaload, 1) := by decide +kernel
theorem dX8_undo_44 : decode cX8_undo 44 = .ok (.istore_n 2, 1) := by decide +kernel
theorem dX8_undo_45 : decode cX8_undo 45 = .ok (.aload_n 0, 1) := by decide +kernel
theorem dX8_undo_46 : decode cX8_undo 46 = .ok (.bipush 36, 2) := by decide +kernel
theorem dX8_undo_48 : decode cX8_undo 48 = .ok (.bipush 12, 2) := by decide +kernel
theorem dX8_undo_50 : decode cX8_undo 50 = .ok (.aload_n 0, 1) := by decide +kernel
theorem dX8_undo_51 : decode cX8_undo 51 = .ok (.getfield 174, 3) := by decide +kernel
theorem dX8_undo_54 : decode cX8_undo 54 = .ok (.imul, 1) := by decide +kernel
theorem dX8_undo_55 : decode cX8_undo 55 = .ok (.iadd, 1) := by decide +kernel
theorem dX8_undo_56 : decode cX8_undo 56 = .ok (.iconst 0, 1) := by decide +kernel
theorem dX8_undo_57 : decode cX8_undo 57 = .ok (.invokevirtual 253, 3) := by decide +kernel
theorem dX8_undo_60 : decode cX8_undo 60 = .ok (.aload_n 0, 1) := by decide +kernel
theorem dX8_undo_61 : decode cX8_undo 61 = .ok (.getfield 7, 3) := by decide +kernel
theorem dX8_undo_64 : decode cX8_undo 64 = .ok (.bipush 11, 2) := by decide +kernel
theorem dX8_undo_66 : decode cX8_undo 66 = .ok (.iload_n 2, 1) := by decide +kernel
theorem dX8_undo_67 : decode cX8_undo 67 = .ok (.iastore, 1) := by decide +kernel
theorem dX8_undo_68 : decode cX8_undo 68 = .ok (.aload_n 0, 1) := by decide +kernel
theorem dX8_undo_69 : decode cX8_undo 69 = .ok (.getfield 7, 3) := by decide +kernel
theorem dX8_undo_72 : decode cX8_undo 72 = .ok (.bipush 8, 2) := by decide +kernel
theorem dX8_undo_74 : decode cX8_undo 74 = .ok (.iaload, 1) := by decide +kernel
theorem dX8_undo_75 : decode cX8_undo 75 = .ok (.ireturn, 1) := by decide +kernel
theorem dX8_next_0 : decode cX8_next 0 = .ok (.aload_n 0, 1) := by decide +kernel
theorem dX8_next_1 : decode cX8_next 1 = .ok (.iload_n 1, 1) := by decide +kernel
theorem dX8_next_2 : decode cX8_next 2 = .ok (.invokevirtual 248, 3) := by decide +kernel
theorem dX8_next_5 : decode cX8_next 5 = .ok (.ifCond .ne 6, 3) := by decide +kernel
theorem dX8_next_8 : decode cX8_next 8 = .ok (.ldc 244, 2) := by decide +kernel
theorem dX8_next_10 : decode cX8_next 10 = .ok (.ireturn, 1) := by decide +kernel
theorem dX8_next_11 : decode cX8_next 11 = .ok (.aload_n 0, 1) := by decide +kernel
theorem dX8_next_12 : decode cX8_next 12 = .ok (.invokevirtual 231, 3) := by decide +kernel
theorem dX8_next_15 : decode cX8_next 15 = .ok (.iconst 0, 1) := by decide +kernel
theorem dX8_next_16 : decode cX8_next 16 = .ok (.istore_n 2, 1) := by decide +kernel
theorem dX8_next_17 : decode cX8_next 17 = .ok (.iload_n 2, 1) := by decide +kernel
theorem dX8_next_18 : decode cX8_next 18 = .ok (.sipush 10000, 3) := by decide +kernel
theorem dX8_next_21 : decode cX8_next 21 = .ok (.if_icmp .ge 32, 3) := by decide +kernel
theorem dX8_next_24 : decode cX8_next 24 = .ok (.aload_n 0, 1) := by decide +kernel
theorem dX8_next_25 : decode cX8_next 25 = .ok (.aload_n 0, 1) := by decide +kernel
theorem dX8_next_26 : decode cX8_next 26 = .ok (.getfield 39, 3) := by decide +kernel
theorem dX8_next_29 : decode cX8_next 29 = .ok (.iload_n 1, 1) := by decide +kernel
theorem dX8_next_30 : decode cX8_next 30 = .ok (.iaload, 1) := by decide +kernel
theorem dX8_next_31 : decode cX8_next 31 = .ok (.iload_n 2, 1) := by decide +kernel
theorem dX8_next_32 : decode cX8_next 32 = .ok (.i2l, 1) := by decide +kernel
theorem dX8_next_33 : decode cX8_next 33 = .ok (.invokevirtual 227, 3) := by decide +kernel
theorem dX8_next_36 : decode cX8_next 36 = .ok (.aload_n 0, 1) := by decide +kernel
theorem dX8_next_37 : decode cX8_next 37 = .ok (.getfield 42, 3) := by decide +kernel
theorem dX8_next_40 : decode cX8_next 40 = .ok (.iload_n 1, 1) := by decide +kernel
theorem dX8_next_41 : decode cX8_next 41 = .ok (.iaload, 1) := by decide +kernel
theorem dX8_next_42 : decode cX8_next 42 = .ok (.if_icmp .ne 5, 3) := by decide +kernel
theorem dX8_next_45 : decode cX8_next 45 = .ok (.iload_n 2, 1) := by decide +kernel
theorem dX8_next_46 : decode cX8_next 46 = .ok (.ireturn, 1) := by decide +kernel
theorem dX8_next_47 : decode cX8_next 47 = .ok (.iinc 2 1, 3) := by decide +kernel
theorem dX8_next_50 : decode cX8_next 50 = .ok (.goto (-33), 3) := by decide +kernel
theorem dX8_next_53 : decode cX8_next 53 = .ok (.iconst (-1), 1) := by decide +kernel
theorem dX8_next_54 : decode cX8_next 54 = .ok (.ireturn, 1) := by decide +kernel
theorem dX8_areAll_0 : decode cX8_areAll 0 = .ok (.iconst 1, 1) := by decide +kernel
theorem dX8_areAll_1 : decode cX8_areAll 1 = .ok (.istore_n 3, 1) := by decide +kernel
theorem dX8_areAll_2 : decode cX8_areAll 2 = .ok (.iconst 0, 1) := by decide +kernel
theorem dX8_areAll_3 : decode cX8_areAll 3 = .ok (.istore 4, 2) := by decide +kernel
theorem dX8_areAll_5 : decode cX8_areAll 5 = .ok (.iload 4, 2) := by decide +kernel
theorem dX8_areAll_7 : decode cX8_areAll 7 = .ok (.aload_n 0, 1) := by decide +kernel
theorem dX8_areAll_8 : decode cX8_areAll 8 = .ok (.getfield 183, 3) := by decide +kernel
theorem dX8_areAll_11 : decode cX8_areAll 11 = .ok (.if_icmp .ge 51, 3) := by decide +kernel
theorem dX8_areAll_14 : decode cX8_areAll 14 = .ok (.iload_n 3, 1) := by decide +kernel
theorem dX8_areAll_15 : decode cX8_areAll 15 = .ok (.ifCond .eq 47, 3) := by decide +kernel
theorem dX8_areAll_18 : decode cX8_areAll 18 = .ok (.iload_n 1, 1) := by decide +kernel
theorem dX8_areAll_19 : decode cX8_areAll 19 = .ok (.iload 4, 2) := by decide +kernel
theorem dX8_areAll_21 : decode cX8_areAll 21 = .ok (.invokestatic 192, 3) := by decide +kernel
theorem dX8_areAll_24 : decode cX8_areAll 24 = .ok (.ifCond .eq 26, 3) := by decide +kernel
theorem dX8_areAll_27 : decode cX8_areAll 27 = .ok (.aload_n 0, 1) := by decide +kernel
theorem dX8_areAll_28 : decode cX8_areAll 28 = .ok (.aload_n 0, 1) := by decide +kernel
theorem dX8_areAll_29 : decode cX8_areAll 29 = .ok (.getfield 39, 3) := by decide +kernel
theorem dX8_areAll_32 : decode cX8_areAll 32 = .ok (.iload 4, 2) := by decide +kernel
theorem dX8_areAll_34 : decode cX8_areAll 34 = .ok (.iaload, 1) := by decide +kernel
theorem dX8_areAll_35 : decode cX8_areAll 35 = .ok (.iload_n 2, 1) := by decide +kernel
theorem dX8_areAll_36 : decode cX8_areAll 36 = .ok (.i2l, 1) := by decide +kernel
theorem dX8_areAll_37 : decode cX8_areAll 37 = .ok (.invokevirtual 227, 3) := by decide +kernel
theorem dX8_areAll_40 : decode cX8_areAll 40 = .ok (.aload_n 0, 1) := by decide +kernel
theorem dX8_areAll_41 : decode cX8_areAll 41 = .ok (.getfield 42, 3) := by decide +kernel
theorem dX8_areAll_44 : decode cX8_areAll 44 = .ok (.iload 4, 2) := by decide +kernel
theorem dX8_areAll_46 : decode cX8_areAll 46 = .ok (.iaload, 1) := by decide +kernel
theorem dX8_areAll_47 : decode cX8_areAll 47 = .ok (.if_icmp .ne 7, 3) := by decide +kernel
theorem dX8_areAll_50 : decode cX8_areAll 50 = .ok (.iconst 1, 1) := by decide +kernel
theorem dX8_areAll_51 : decode cX8_areAll 51 = .ok (.goto 4, 3) := by decide +kernel
theorem dX8_areAll_54 : decode cX8_areAll 54 = .ok (.iconst 0, 1) := by decide +kernel
theorem dX8_areAll_55 : decode cX8_areAll 55 = .ok (.istore_n 3, 1) := by decide +kernel
theorem dX8_areAll_56 : decode cX8_areAll 56 = .ok (.iinc 4 1, 3) := by decide +kernel
theorem dX8_areAll_59 : decode cX8_areAll 59 = .ok (.goto (-54), 3) := by decide +kernel
theorem dX8_areAll_62 : decode cX8_areAll 62 = .ok (.iload_n 3, 1) := by decide +kernel
theorem dX8_areAll_63 : decode cX8_areAll 63 = .ok (.ireturn, 1) := by decide +kernel
theorem dX8_together_0 : decode cX8_together 0 = .ok (.iload_n 1, 1) := by decide +kernel
theorem dX8_together_1 : decode cX8_together 1 = .ok (.i2l, 1) := by decide +kernel
theorem dX8_together_2 : decode cX8_together 2 = .ok (.lconst 0, 1) := by decide +kernel
theorem dX8_together_3 : decode cX8_together 3 = .ok (.iconst 1, 1) := by decide +kernel
theorem dX8_together_4 : decode cX8_together 4 = .ok (.aload_n 0, 1) := by decide +kernel
theorem dX8_together_5 : decode cX8_together 5 = .ok (.getfield 183, 3) := by decide +kernel
theorem dX8_together_8 : decode cX8_together 8 = .ok (.ishl, 1) := by decide +kernel
theorem dX8_together_9 : decode cX8_together 9 = .ok (.iconst 1, 1) := by decide +kernel
theorem dX8_together_10 : decode cX8_together 10 = .ok (.isub, 1) := by decide +kernel
theorem dX8_together_11 : decode cX8_together 11 = .ok (.i2l, 1) := by decide +kernel
theorem dX8_together_12 : decode cX8_together 12 = .ok (.invokestatic 91, 3) := by decide +kernel
theorem dX8_together_15 : decode cX8_together 15 = .ok (.ifCond .ne 6, 3) := by decide +kernel
theorem dX8_together_18 : decode cX8_together 18 = .ok (.ldc 244, 2) := by decide +kernel
theorem dX8_together_20 : decode cX8_together 20 = .ok (.ireturn, 1) := by decide +kernel
theorem dX8_together_21 : decode cX8_together 21 = .ok (.aload_n 0, 1) := by decide +kernel
theorem dX8_together_22 : decode cX8_together 22 = .ok (.invokevirtual 231, 3) := by decide +kernel
theorem dX8_together_25 : decode cX8_together 25 = .ok (.iconst 0, 1) := by decide +kernel
theorem dX8_together_26 : decode cX8_together 26 = .ok (.istore_n 2, 1) := by decide +kernel
theorem dX8_together_27 : decode cX8_together 27 = .ok (.iload_n 2, 1) := by decide +kernel
theorem dX8_together_28 : decode cX8_together 28 = .ok (.ldc_w 285, 3) := by decide +kernel
theorem dX8_together_31 : decode cX8_together 31 = .ok (.if_icmp .ge 20, 3) := by decide +kernel
theorem dX8_together_34 : decode cX8_together 34 = .ok (.aload_n 0, 1) := by decide +kernel
theorem dX8_together_35 : decode cX8_together 35 = .ok (.iload_n 1, 1) := by decide +kernel
theorem dX8_together_36 : decode cX8_together 36 = .ok (.iload_n 2, 1) := by decide +kernel
theorem dX8_together_37 : decode cX8_together 37 = .ok (.invokevirtual 286, 3) := by decide +kernel
theorem dX8_together_40 : decode cX8_together 40 = .ok (.ifCond .eq 5, 3) := by decide +kernel
theorem dX8_together_43 : decode cX8_together 43 = .ok (.iload_n 2, 1) := by decide +kernel
theorem dX8_together_44 : decode cX8_together 44 = .ok (.ireturn, 1) := by decide +kernel
theorem dX8_together_45 : decode cX8_together 45 = .ok (.iinc 2 1, 3) := by decide +kernel
theorem dX8_together_48 : decode cX8_together 48 = .ok (.goto (-21), 3) := by decide +kernel
theorem dX8_together_51 : decode cX8_together 51 = .ok (.iconst (-1), 1) := by decide +kernel
theorem dX8_together_52 : decode cX8_together 52 = .ok (.ireturn, 1) := by decide +kernel
theorem dX8_again_0 : decode cX8_again 0 = .ok (.aload_n 0, 1) := by decide +kernel
theorem dX8_again_1 : decode cX8_again 1 = .ok (.invokevirtual 231, 3) := by decide +kernel
theorem dX8_again_4 : decode cX8_again 4 = .ok (.lconst 0, 1) := by decide +kernel
theorem dX8_again_5 : decode cX8_again 5 = .ok (.lstore_n 1, 1) := by decide +kernel
theorem dX8_again_6 : decode cX8_again 6 = .ok (.iconst 0, 1) := by decide +kernel
theorem dX8_again_7 : decode cX8_again 7 = .ok (.istore_n 3, 1) := by decide +kernel
theorem dX8_again_8 : decode cX8_again 8 = .ok (.iload_n 3, 1) := by decide +kernel
theorem dX8_again_9 : decode cX8_again 9 = .ok (.aload_n 0, 1) := by decide +kernel
theorem dX8_again_10 : decode cX8_again 10 = .ok (.getfield 177, 3) := by decide +kernel
theorem dX8_again_13 : decode cX8_again 13 = .ok (.if_icmp .ge 85, 3) := by decide +kernel
theorem dX8_again_16 : decode cX8_again 16 = .ok (.aload_n 0, 1) := by decide +kernel
theorem dX8_again_17 : decode cX8_again 17 = .ok (.getfield 51, 3) := by decide +kernel
theorem dX8_again_20 : decode cX8_again 20 = .ok (.iload_n 3, 1) := by decide +kernel
theorem dX8_again_21 : decode cX8_again 21 = .ok (.laload, 1) := by decide +kernel
theorem dX8_again_22 : decode cX8_again 22 = .ok (.lconst 0, 1) := by decide +kernel
theorem dX8_again_23 : decode cX8_again 23 = .ok (.lcmp, 1) := by decide +kernel
theorem dX8_again_24 : decode cX8_again 24 = .ok (.ifCond .eq 68, 3) := by decide +kernel
theorem dX8_again_27 : decode cX8_again 27 = .ok (.aload_n 0, 1) := by decide +kernel
theorem dX8_again_28 : decode cX8_again 28 = .ok (.getfield 21, 3) := by decide +kernel
theorem dX8_again_31 : decode cX8_again 31 = .ok (.iload_n 3, 1) := by decide +kernel
theorem dX8_again_32 : decode cX8_again 32 = .ok (.iaload, 1) := by decide +kernel
theorem dX8_again_33 : decode cX8_again 33 = .ok (.i2l, 1) := by decide +kernel
theorem dX8_again_34 : decode cX8_again 34 = .ok (.aload_n 0, 1) := by decide +kernel
theorem dX8_again_35 : decode cX8_again 35 = .ok (.getfield 55, 3) := by decide +kernel
theorem dX8_again_38 : decode cX8_again 38 = .ok (.iload_n 3, 1) := by decide +kernel
theorem dX8_again_39 : decode cX8_again 39 = .ok (.laload, 1) := by decide +kernel
theorem dX8_again_40 : decode cX8_again 40 = .ok (.lmul, 1) := by decide +kernel
theorem dX8_again_41 : decode cX8_again 41 = .ok (.lstore 4, 2) := by decide +kernel
theorem dX8_again_43 : decode cX8_again 43 = .ok (.lload 4, 2) := by decide +kernel
theorem dX8_again_45 : decode cX8_again 45 = .ok (.lload 4, 2) := by decide +kernel
theorem dX8_again_47 : decode cX8_again 47 = .ok (.aload_n 0, 1) := by decide +kernel
theorem dX8_again_48 : decode cX8_again 48 = .ok (.getfield 51, 3) := by decide +kernel
theorem dX8_again_51 : decode cX8_again 51 = .ok (.iload_n 3, 1) := by decide +kernel
theorem dX8_again_52 : decode cX8_again 52 = .ok (.laload, 1) := by decide +kernel
theorem dX8_again_53 : decode cX8_again 53 = .ok (.invokestatic 196, 3) := by decide +kernel
theorem dX8_again_56 : decode cX8_again 56 = .ok (.ldiv, 1) := by decide +kernel
theorem dX8_again_57 : decode cX8_again 57 = .ok (.lstore 6, 2) := by decide +kernel
theorem dX8_again_59 : decode cX8_again 59 = .ok (.lload_n 1, 1) := by decide +kernel
theorem dX8_again_60 : decode cX8_again 60 = .ok (.lconst 0, 1) := by decide +kernel
theorem dX8_again_61 : decode cX8_again 61 = .ok (.lcmp, 1) := by decide +kernel
theorem dX8_again_62 : decode cX8_again 62 = .ok (.ifCond .ne 8, 3) := by decide +kernel
theorem dX8_again_65 : decode cX8_again 65 = .ok (.lload 6, 2) := by decide +kernel
theorem dX8_again_67 : decode cX8_again 67 = .ok (.goto 14, 3) := by decide +kernel
theorem dX8_again_70 : decode cX8_again 70 = .ok (.lload_n 1, 1) := by decide +kernel
theorem dX8_again_71 : decode cX8_again 71 = .ok (.lload_n 1, 1) := by decide +kernel
theorem dX8_again_72 : decode cX8_again 72 = .ok (.lload 6, 2) := by decide +kernel
theorem dX8_again_74 : decode cX8_again 74 = .ok (.invokestatic 196, 3) := by decide +kernel
theorem dX8_again_77 : decode cX8_again 77 = .ok (.ldiv, 1) := by decide +kernel
theorem dX8_again_78 : decode cX8_again 78 = .ok (.lload 6, 2) := by decide +kernel
theorem dX8_again_80 : decode cX8_again 80 = .ok (.lmul, 1) := by decide +kernel
theorem dX8_again_81 : decode cX8_again 81 = .ok (.lstore_n 1, 1) := by decide +kernel
theorem dX8_again_82 : decode cX8_again 82 = .ok (.lload_n 1, 1) := by decide +kernel
theorem dX8_again_83 : decode cX8_again 83 = .ok (.ldc2_w 289, 3) := by decide +kernel
theorem dX8_again_86 : decode cX8_again 86 = .ok (.lcmp, 1) := by decide +kernel
theorem dX8_again_87 : decode cX8_again 87 = .ok (.ifCond .le 5, 3) := by decide +kernel
theorem dX8_again_90 : decode cX8_again 90 = .ok (.iconst (-1), 1) := by decide +kernel
theorem dX8_again_91 : decode cX8_again 91 = .ok (.ireturn, 1) := by decide +kernel
theorem dX8_again_92 : decode cX8_again 92 = .ok (.iinc 3 1, 3) := by decide +kernel
theorem dX8_again_95 : decode cX8_again 95 = .ok (.goto (-87), 3) := by decide +kernel
theorem dX8_again_98 : decode cX8_again 98 = .ok (.lload_n 1, 1) := by decide +kernel
theorem dX8_again_99 : decode cX8_again 99 = .ok (.lconst 0, 1) := by decide +kernel
theorem dX8_again_100 : decode cX8_again 100 = .ok (.lcmp, 1) := by decide +kernel
theorem dX8_again_101 : decode cX8_again 101 = .ok (.ifCond .ne 7, 3) := by decide +kernel
theorem dX8_again_104 : decode cX8_again 104 = .ok (.iconst (-1), 1) := by decide +kernel
theorem dX8_again_105 : decode cX8_again 105 = .ok (.goto 5, 3) := by decide +kernel
theorem dX8_again_108 : decode cX8_again 108 = .ok (.lload_n 1, 1) := by decide +kernel
theorem dX8_again_109 : decode cX8_again 109 = .ok (.l2i, 1) := by decide +kernel
theorem dX8_again_110 : decode cX8_again 110 = .ok (.ireturn, 1) := by decide +kernel
theorem dX8_added_0 : decode cX8_added 0 = .ok (.aload_n 0, 1) := by decide +kernel
theorem dX8_added_1 : decode cX8_added 1 = .ok (.iload_n 1, 1) := by decide +kernel
theorem dX8_added_2 : decode cX8_added 2 = .ok (.invokevirtual 240, 3) := by decide +kernel
theorem dX8_added_5 : decode cX8_added 5 = .ok (.ifCond .ne 6, 3) := by decide +kernel
theorem dX8_added_8 : decode cX8_added 8 = .ok (.ldc 244, 2) := by decide +kernel
theorem dX8_added_10 : decode cX8_added 10 = .ok (.ireturn, 1) := by decide +kernel
theorem dX8_added_11 : decode cX8_added 11 = .ok (.iload_n 2, 1) := by decide +kernel
theorem dX8_added_12 : decode cX8_added 12 = .ok (.i2l, 1) := by decide +kernel
theorem dX8_added_13 : decode cX8_added 13 = .ok (.lconst 0, 1) := by decide +kernel
theorem dX8_added_14 : decode cX8_added 14 = .ok (.ldc2_w 291, 3) := by decide +kernel
theorem dX8_added_17 : decode cX8_added 17 = .ok (.invokestatic 91, 3) := by decide +kernel
theorem dX8_added_20 : decode cX8_added 20 = .ok (.ifCond .eq 15, 3) := by decide +kernel
theorem dX8_added_23 : decode cX8_added 23 = .ok (.iload_n 3, 1) := by decide +kernel
theorem dX8_added_24 : decode cX8_added 24 = .ok (.i2l, 1) := by decide +kernel
theorem dX8_added_25 : decode cX8_added 25 = .ok (.lconst 0, 1) := by decide +kernel
theorem dX8_added_26 : decode cX8_added 26 = .ok (.ldc2_w 256, 3) := by decide +kernel
theorem dX8_added_29 : decode cX8_added 29 = .ok (.invokestatic 91, 3) := by decide +kernel
theorem dX8_added_32 : decode cX8_added 32 = .ok (.ifCond .ne 6, 3) := by decide +kernel
theorem dX8_added_35 : decode cX8_added 35 = .ok (.ldc 95, 2) := by decide +kernel
theorem dX8_added_37 : decode cX8_added 37 = .ok (.ireturn, 1) := by decide +kernel
theorem dX8_added_38 : decode cX8_added 38 = .ok (.aload_n 0, 1) := by decide +kernel
theorem dX8_added_39 : decode cX8_added 39 = .ok (.invokevirtual 231, 3) := by decide +kernel
theorem dX8_added_42 : decode cX8_added 42 = .ok (.aload_n 0, 1) := by decide +kernel
theorem dX8_added_43 : decode cX8_added 43 = .ok (.getfield 51, 3) := by decide +kernel
theorem dX8_added_46 : decode cX8_added 46 = .ok (.iload_n 1, 1) := by decide +kernel
theorem dX8_added_47 : decode cX8_added 47 = .ok (.laload, 1) := by decide +kernel
theorem dX8_added_48 : decode cX8_added 48 = .ok (.lneg, 1) := by decide +kernel
theorem dX8_added_49 : decode cX8_added 49 = .ok (.iload_n 3, 1) := by decide +kernel
theorem dX8_added_50 : decode cX8_added 50 = .ok (.i2l, 1) := by decide +kernel
theorem dX8_added_51 : decode cX8_added 51 = .ok (.lmul, 1) := by decide +kernel
theorem dX8_added_52 : decode cX8_added 52 = .ok (.aload_n 0, 1) := by decide +kernel
theorem dX8_added_53 : decode cX8_added 53 = .ok (.getfield 55, 3) := by decide +kernel
theorem dX8_added_56 : decode cX8_added 56 = .ok (.iload_n 1, 1) := by decide +kernel
theorem dX8_added_57 : decode cX8_added 57 = .ok (.laload, 1) := by decide +kernel
theorem dX8_added_58 : decode cX8_added 58 = .ok (.invokestatic 220, 3) := by decide +kernel
theorem dX8_added_61 : decode cX8_added 61 = .ok (.lstore 5, 2) := by decide +kernel
theorem dX8_added_63 : decode cX8_added 63 = .ok (.iconst 0, 1) := by decide +kernel
theorem dX8_added_64 : decode cX8_added 64 = .ok (.istore 7, 2) := by decide +kernel
theorem dX8_added_66 : decode cX8_added 66 = .ok (.iconst 3, 1) := by decide +kernel
theorem dX8_added_67 : decode cX8_added 67 = .ok (.istore 8, 2) := by decide +kernel
theorem dX8_added_69 : decode cX8_added 69 = .ok (.iload 8, 2) := by decide +kernel
theorem dX8_added_71 : decode cX8_added 71 = .ok (.bipush 31, 2) := by decide +kernel
theorem dX8_added_73 : decode cX8_added 73 = .ok (.if_icmp .ge 33, 3) := by decide +kernel
theorem dX8_added_76 : decode cX8_added 76 = .ok (.lload 5, 2) := by decide +kernel
theorem dX8_added_78 : decode cX8_added 78 = .ok (.iload 8, 2) := by decide +kernel
theorem dX8_added_80 : decode cX8_added 80 = .ok (.invokestatic 223, 3) := by decide +kernel
theorem dX8_added_83 : decode cX8_added 83 = .ok (.iload_n 2, 1) := by decide +kernel
theorem dX8_added_84 : decode cX8_added 84 = .ok (.if_icmp .ne 16, 3) := by decide +kernel
theorem dX8_added_87 : decode cX8_added 87 = .ok (.iload 7, 2) := by decide +kernel
theorem dX8_added_89 : decode cX8_added 89 = .ok (.iload 4, 2) := by decide +kernel
theorem dX8_added_91 : decode cX8_added 91 = .ok (.if_icmp .ne 6, 3) := by decide +kernel
theorem dX8_added_94 : decode cX8_added 94 = .ok (.iload 8, 2) := by decide +kernel
theorem dX8_added_96 : decode cX8_added 96 = .ok (.ireturn, 1) := by decide +kernel
theorem dX8_added_97 : decode cX8_added 97 = .ok (.iinc 7 1, 3) := by decide +kernel
theorem dX8_added_100 : decode cX8_added 100 = .ok (.iinc 8 1, 3) := by decide +kernel
theorem dX8_added_103 : decode cX8_added 103 = .ok (.goto (-34), 3) := by decide +kernel
theorem dX8_added_106 : decode cX8_added 106 = .ok (.iload 4, 2) := by decide +kernel
theorem dX8_added_108 : decode cX8_added 108 = .ok (.iconst (-1), 1) := by decide +kernel
theorem dX8_added_109 : decode cX8_added 109 = .ok (.if_icmp .ne 8, 3) := by decide +kernel
theorem dX8_added_112 : decode cX8_added 112 = .ok (.iload 7, 2) := by decide +kernel
theorem dX8_added_114 : decode cX8_added 114 = .ok (.goto 4, 3) := by decide +kernel
theorem dX8_added_117 : decode cX8_added 117 = .ok (.iconst (-1), 1) := by decide +kernel
theorem dX8_added_118 : decode cX8_added 118 = .ok (.ireturn, 1) := by decide +kernel
theorem dX8_alike_0 : decode cX8_alike 0 = .ok (.aload_n 0, 1) := by decide +kernel
theorem dX8_alike_1 : decode cX8_alike 1 = .ok (.iload_n 1, 1) := by decide +kernel
theorem dX8_alike_2 : decode cX8_alike 2 = .ok (.invokevirtual 240, 3) := by decide +kernel
theorem dX8_alike_5 : decode cX8_alike 5 = .ok (.ifCond .eq 16, 3) := by decide +kernel
theorem dX8_alike_8 : decode cX8_alike 8 = .ok (.aload_n 0, 1) := by decide +kernel
theorem dX8_alike_9 : decode cX8_alike 9 = .ok (.iload_n 2, 1) := by decide +kernel
theorem dX8_alike_10 : decode cX8_alike 10 = .ok (.invokevirtual 240, 3) := by decide +kernel
theorem dX8_alike_13 : decode cX8_alike 13 = .ok (.ifCond .eq 8, 3) := by decide +kernel
theorem dX8_alike_16 : decode cX8_alike 16 = .ok (.iload_n 1, 1) := by decide +kernel
theorem dX8_alike_17 : decode cX8_alike 17 = .ok (.iload_n 2, 1) := by decide +kernel
theorem dX8_alike_18 : decode cX8_alike 18 = .ok (.if_icmp .ne 6, 3) := by decide +kernel
theorem dX8_alike_21 : decode cX8_alike 21 = .ok (.ldc 244, 2) := by decide +kernel
theorem dX8_alike_23 : decode cX8_alike 23 = .ok (.ireturn, 1) := by decide +kernel
theorem dX8_alike_24 : decode cX8_alike 24 = .ok (.aload_n 0, 1) := by decide +kernel
theorem dX8_alike_25 : decode cX8_alike 25 = .ok (.invokevirtual 231, 3) := by decide +kernel
theorem dX8_alike_28 : decode cX8_alike 28 = .ok (.aload_n 0, 1) := by decide +kernel
theorem dX8_alike_29 : decode cX8_alike 29 = .ok (.getfield 51, 3) := by decide +kernel
theorem dX8_alike_32 : decode cX8_alike 32 = .ok (.iload_n 1, 1) := by decide +kernel
theorem dX8_alike_33 : decode cX8_alike 33 = .ok (.laload, 1) := by decide +kernel
theorem dX8_alike_34 : decode cX8_alike 34 = .ok (.lconst 0, 1) := by decide +kernel
theorem dX8_alike_35 : decode cX8_alike 35 = .ok (.lcmp, 1) := by decide +kernel
theorem dX8_alike_36 : decode cX8_alike 36 = .ok (.ifCond .eq 14, 3) := by decide +kernel
theorem dX8_alike_39 : decode cX8_alike 39 = .ok (.aload_n 0, 1) := by decide +kernel
theorem dX8_alike_40 : decode cX8_alike 40 = .ok (.getfield 51, 3) := by decide +kernel
theorem dX8_alike_43 : decode cX8_alike 43 = .ok (.iload_n 2, 1) := by decide +kernel
theorem dX8_alike_44 : decode cX8_alike 44 = .ok (.laload, 1) := by decide +kernel
theorem dX8_alike_45 : decode cX8_alike 45 = .ok (.lconst 0, 1) := by decide +kernel
theorem dX8_alike_46 : decode cX8_alike 46 = .ok (.lcmp, 1) := by decide +kernel
theorem dX8_alike_47 : decode cX8_alike 47 = .ok (.ifCond .ne 9, 3) := by decide +kernel
theorem dX8_alike_50 : decode cX8_alike 50 = .ok (.ldc_w 258, 3) := by decide +kernel
theorem dX8_alike_53 : decode cX8_alike 53 = .ok (.goto 46, 3) := by decide +kernel
theorem dX8_alike_56 : decode cX8_alike 56 = .ok (.aload_n 0, 1) := by decide +kernel
theorem dX8_alike_57 : decode cX8_alike 57 = .ok (.getfield 51, 3) := by decide +kernel
theorem dX8_alike_60 : decode cX8_alike 60 = .ok (.iload_n 1, 1) := by decide +kernel
theorem dX8_alike_61 : decode cX8_alike 61 = .ok (.laload, 1) := by decide +kernel
theorem dX8_alike_62 : decode cX8_alike 62 = .ok (.lconst 0, 1) := by decide +kernel
theorem dX8_alike_63 : decode cX8_alike 63 = .ok (.lcmp, 1) := by decide +kernel
theorem dX8_alike_64 : decode cX8_alike 64 = .ok (.ifCond .le 7, 3) := by decide +kernel
theorem dX8_alike_67 : decode cX8_alike 67 = .ok (.iconst 1, 1) := by decide +kernel
theorem dX8_alike_68 : decode cX8_alike 68 = .ok (.goto 4, 3) := by decide +kernel
theorem dX8_alike_71 : decode cX8_alike 71 = .ok (.iconst 0, 1) := by decide +kernel
theorem dX8_alike_72 : decode cX8_alike 72 = .ok (.aload_n 0, 1) := by decide +kernel
theorem dX8_alike_73 : decode cX8_alike 73 = .ok (.getfield 51, 3) := by decide +kernel
theorem dX8_alike_76 : decode cX8_alike 76 = .ok (.iload_n 2, 1) := by decide +kernel
theorem dX8_alike_77 : decode cX8_alike 77 = .ok (.laload, 1) := by decide +kernel
theorem dX8_alike_78 : decode cX8_alike 78 = .ok (.lconst 0, 1) := by decide +kernel
theorem dX8_alike_79 : decode cX8_alike 79 = .ok (.lcmp, 1) := by decide +kernel
theorem dX8_alike_80 : decode cX8_alike 80 = .ok (.ifCond .le 7, 3) := by decide +kernel
theorem dX8_alike_83 : decode cX8_alike 83 = .ok (.iconst 1, 1) := by decide +kernel
theorem dX8_alike_84 : decode cX8_alike 84 = .ok (.goto 4, 3) := by decide +kernel
theorem dX8_alike_87 : decode cX8_alike 87 = .ok (.iconst 0, 1) := by decide +kernel
theorem dX8_alike_88 : decode cX8_alike 88 = .ok (.if_icmp .ne 7, 3) := by decide +kernel
theorem dX8_alike_91 : decode cX8_alike 91 = .ok (.iconst 1, 1) := by decide +kernel
theorem dX8_alike_92 : decode cX8_alike 92 = .ok (.goto 4, 3) := by decide +kernel
theorem dX8_alike_95 : decode cX8_alike 95 = .ok (.iconst 0, 1) := by decide +kernel
theorem dX8_alike_96 : decode cX8_alike 96 = .ok (.invokestatic 217, 3) := by decide +kernel
theorem dX8_alike_99 : decode cX8_alike 99 = .ok (.ireturn, 1) := by decide +kernel
theorem dX8_meshing_0 : decode cX8_meshing 0 = .ok (.iconst 0, 1) := by decide +kernel
theorem dX8_meshing_1 : decode cX8_meshing 1 = .ok (.istore_n 1, 1) := by decide +kernel
theorem dX8_meshing_2 : decode cX8_meshing 2 = .ok (.iconst 0, 1) := by decide +kernel
theorem dX8_meshing_3 : decode cX8_meshing 3 = .ok (.istore_n 2, 1) := by decide +kernel
theorem dX8_meshing_4 : decode cX8_meshing 4 = .ok (.iload_n 2, 1) := by decide +kernel
theorem dX8_meshing_5 : decode cX8_meshing 5 = .ok (.aload_n 0, 1) := by decide +kernel
theorem dX8_meshing_6 : decode cX8_meshing 6 = .ok (.getfield 180, 3) := by decide +kernel
theorem dX8_meshing_9 : decode cX8_meshing 9 = .ok (.if_icmp .ge 45, 3) := by decide +kernel
theorem dX8_meshing_12 : decode cX8_meshing 12 = .ok (.iload_n 1, 1) := by decide +kernel
theorem dX8_meshing_13 : decode cX8_meshing 13 = .ok (.aload_n 0, 1) := by decide +kernel
theorem dX8_meshing_14 : decode cX8_meshing 14 = .ok (.getfield 27, 3) := by decide +kernel
theorem dX8_meshing_17 : decode cX8_meshing 17 = .ok (.iload_n 2, 1) := by decide +kernel
theorem dX8_meshing_18 : decode cX8_meshing 18 = .ok (.iaload, 1) := by decide +kernel
theorem dX8_meshing_19 : decode cX8_meshing 19 = .ok (.ifCond .ne 21, 3) := by decide +kernel
theorem dX8_meshing_22 : decode cX8_meshing 22 = .ok (.aload_n 0, 1) := by decide +kernel
theorem dX8_meshing_23 : decode cX8_meshing 23 = .ok (.getfield 7, 3) := by decide +kernel
theorem dX8_meshing_26 : decode cX8_meshing 26 = .ok (.bipush 10, 2) := by decide +kernel
theorem dX8_meshing_28 : decode cX8_meshing 28 = .ok (.iaload, 1) := by decide +kernel
theorem dX8_meshing_29 : decode cX8_meshing 29 = .ok (.iload_n 2, 1) := by decide +kernel
theorem dX8_meshing_30 : decode cX8_meshing 30 = .ok (.invokestatic 192, 3) := by decide +kernel
theorem dX8_meshing_33 : decode cX8_meshing 33 = .ok (.ifCond .ne 7, 3) := by decide +kernel
theorem dX8_meshing_36 : decode cX8_meshing 36 = .ok (.iconst 1, 1) := by decide +kernel
theorem dX8_meshing_37 : decode cX8_meshing 37 = .ok (.goto 4, 3) := by decide +kernel
theorem dX8_meshing_40 : decode cX8_meshing 40 = .ok (.iconst 0, 1) := by decide +kernel
theorem dX8_meshing_41 : decode cX8_meshing 41 = .ok (.invokestatic 217, 3) := by decide +kernel
theorem dX8_meshing_44 : decode cX8_meshing 44 = .ok (.iload_n 2, 1) := by decide +kernel
theorem dX8_meshing_45 : decode cX8_meshing 45 = .ok (.ishl, 1) := by decide +kernel
theorem dX8_meshing_46 : decode cX8_meshing 46 = .ok (.ior, 1) := by decide +kernel
theorem dX8_meshing_47 : decode cX8_meshing 47 = .ok (.istore_n 1, 1) := by decide +kernel
theorem dX8_meshing_48 : decode cX8_meshing 48 = .ok (.iinc 2 1, 3) := by decide +kernel
theorem dX8_meshing_51 : decode cX8_meshing 51 = .ok (.goto (-47), 3) := by decide +kernel
theorem dX8_meshing_54 : decode cX8_meshing 54 = .ok (.iload_n 1, 1) := by decide +kernel
theorem dX8_meshing_55 : decode cX8_meshing 55 = .ok (.ireturn, 1) := by decide +kernel
theorem dX8_idlers_0 : decode cX8_idlers 0 = .ok (.aload_n 0, 1) := by decide +kernel
theorem dX8_idlers_1 : decode cX8_idlers 1 = .ok (.iload_n 1, 1) := by decide +kernel
theorem dX8_idlers_2 : decode cX8_idlers 2 = .ok (.invokevirtual 240, 3) := by decide +kernel
theorem dX8_idlers_5 : decode cX8_idlers 5 = .ok (.ifCond .eq 16, 3) := by decide +kernel
theorem dX8_idlers_8 : decode cX8_idlers 8 = .ok (.aload_n 0, 1) := by decide +kernel
theorem dX8_idlers_9 : decode cX8_idlers 9 = .ok (.iload_n 2, 1) := by decide +kernel
theorem dX8_idlers_10 : decode cX8_idlers 10 = .ok (.invokevirtual 240, 3) := by decide +kernel
theorem dX8_idlers_13 : decode cX8_idlers 13 = .ok (.ifCond .eq 8, 3) := by decide +kernel
theorem dX8_idlers_16 : decode cX8_idlers 16 = .ok (.iload_n 1, 1) := by decide +kernel
theorem dX8_idlers_17 : decode cX8_idlers 17 = .ok (.iload_n 2, 1) := by decide +kernel
theorem dX8_idlers_18 : decode cX8_idlers 18 = .ok (.if_icmp .ne 6, 3) := by decide +kernel
theorem dX8_idlers_21 : decode cX8_idlers 21 = .ok (.ldc 244, 2) := by decide +kernel
theorem dX8_idlers_23 : decode cX8_idlers 23 = .ok (.ireturn, 1) := by decide +kernel
theorem dX8_idlers_24 : decode cX8_idlers 24 = .ok (.iload_n 3, 1) := by decide +kernel
theorem dX8_idlers_25 : decode cX8_idlers 25 = .ok (.i2l, 1) := by decide +kernel
theorem dX8_idlers_26 : decode cX8_idlers 26 = .ok (.lconst 0, 1) := by decide +kernel
theorem dX8_idlers_27 : decode cX8_idlers 27 = .ok (.lconst 1, 1) := by decide +kernel
theorem dX8_idlers_28 : decode cX8_idlers 28 = .ok (.invokestatic 91, 3) := by decide +kernel
theorem dX8_idlers_31 : decode cX8_idlers 31 = .ok (.ifCond .ne 6, 3) := by decide +kernel
theorem dX8_idlers_34 : decode cX8_idlers 34 = .ok (.ldc 95, 2) := by decide +kernel
theorem dX8_idlers_36 : decode cX8_idlers 36 = .ok (.ireturn, 1) := by decide +kernel
theorem dX8_idlers_37 : decode cX8_idlers 37 = .ok (.aload_n 0, 1) := by decide +kernel
theorem dX8_idlers_38 : decode cX8_idlers 38 = .ok (.iconst 0, 1) := by decide +kernel
theorem dX8_idlers_39 : decode cX8_idlers 39 = .ok (.putfield 189, 3) := by decide +kernel
theorem dX8_idlers_42 : decode cX8_idlers 42 = .ok (.iconst (-1), 1) := by decide +kernel
theorem dX8_idlers_43 : decode cX8_idlers 43 = .ok (.istore 4, 2) := by decide +kernel
theorem dX8_idlers_45 : decode cX8_idlers 45 = .ok (.iconst 0, 1) := by decide +kernel
theorem dX8_idlers_46 : decode cX8_idlers 46 = .ok (.istore 5, 2) := by decide +kernel
theorem dX8_idlers_48 : decode cX8_idlers 48 = .ok (.iload 5, 2) := by decide +kernel
theorem dX8_idlers_50 : decode cX8_idlers 50 = .ok (.iconst 1, 1) := by decide +kernel
theorem dX8_idlers_51 : decode cX8_idlers 51 = .ok (.aload_n 0, 1) := by decide +kernel
theorem dX8_idlers_52 : decode cX8_idlers 52 = .ok (.getfield 180, 3) := by decide +kernel
theorem dX8_idlers_55 : decode cX8_idlers 55 = .ok (.ishl, 1) := by decide +kernel
theorem dX8_idlers_56 : decode cX8_idlers 56 = .ok (.if_icmp .ge 137, 3) := by decide +kernel
theorem dX8_idlers_59 : decode cX8_idlers 59 = .ok (.iload 5, 2) := by decide +kernel
theorem dX8_idlers_61 : decode cX8_idlers 61 = .ok (.aload_n 0, 1) := by decide +kernel
theorem dX8_idlers_62 : decode cX8_idlers 62 = .ok (.invokevirtual 293, 3) := by decide +kernel
theorem dX8_idlers_65 : decode cX8_idlers 65 = .ok (.iconst (-1), 1) := by decide +kernel
theorem dX8_idlers_66 : decode cX8_idlers 66 = .ok (.ixor, 1) := by decide +kernel
theorem dX8_idlers_67 : decode cX8_idlers 67 = .ok (.iand, 1) := by decide +kernel
theorem dX8_idlers_68 : decode cX8_idlers 68 = .ok (.ifCond .ne 119, 3) := by decide +kernel
theorem dX8_idlers_71 : decode cX8_idlers 71 = .ok (.iload 4, 2) := by decide +kernel
theorem dX8_idlers_73 : decode cX8_idlers 73 = .ok (.ifCond .lt 16, 3) := by decide +kernel
theorem dX8_idlers_76 : decode cX8_idlers 76 = .ok (.iload 5, 2) := by decide +kernel
theorem dX8_idlers_78 : decode cX8_idlers 78 = .ok (.invokestatic 296, 3) := by decide +kernel
theorem dX8_idlers_81 : decode cX8_idlers 81 = .ok (.iload 4, 2) := by decide +kernel
theorem dX8_idlers_83 : decode cX8_idlers 83 = .ok (.invokestatic 296, 3) := by decide +kernel
theorem dX8_idlers_86 : decode cX8_idlers 86 = .ok (.if_icmp .ge 101, 3) := by decide +kernel
theorem dX8_idlers_89 : decode cX8_idlers 89 = .ok (.aload_n 0, 1) := by decide +kernel
theorem dX8_idlers_90 : decode cX8_idlers 90 = .ok (.aload_n 0, 1) := by decide +kernel
theorem dX8_idlers_91 : decode cX8_idlers 91 = .ok (.getfield 7, 3) := by decide +kernel
theorem dX8_idlers_94 : decode cX8_idlers 94 = .ok (.bipush 10, 2) := by decide +kernel
theorem dX8_idlers_96 : decode cX8_idlers 96 = .ok (.iaload, 1) := by decide +kernel
theorem dX8_idlers_97 : decode cX8_idlers 97 = .ok (.iload 5, 2) := by decide +kernel
theorem dX8_idlers_99 : decode cX8_idlers 99 = .ok (.invokevirtual 214, 3) := by decide +kernel
theorem dX8_idlers_102 : decode cX8_idlers 102 = .ok (.aload_n 0, 1) := by decide +kernel
theorem dX8_idlers_103 : decode cX8_idlers 103 = .ok (.getfield 200, 3) := by decide +kernel
theorem dX8_idlers_106 : decode cX8_idlers 106 = .ok (.ifCond .ne 64, 3) := by decide +kernel
theorem dX8_idlers_109 : decode cX8_idlers 109 = .ok (.aload_n 0, 1) := by decide +kernel
theorem dX8_idlers_110 : decode cX8_idlers 110 = .ok (.getfield 51, 3) := by decide +kernel
theorem dX8_idlers_113 : decode cX8_idlers 113 = .ok (.iload_n 1, 1) := by decide +kernel
theorem dX8_idlers_114 : decode cX8_idlers 114 = .ok (.laload, 1) := by decide +kernel
theorem dX8_idlers_115 : decode cX8_idlers 115 = .ok (.lconst 0, 1) := by decide +kernel
theorem dX8_idlers_116 : decode cX8_idlers 116 = .ok (.lcmp, 1) := by decide +kernel
theorem dX8_idlers_117 : decode cX8_idlers 117 = .ok (.ifCond .eq 53, 3) := by decide +kernel
theorem dX8_idlers_120 : decode cX8_idlers 120 = .ok (.aload_n 0, 1) := by decide +kernel
theorem dX8_idlers_121 : decode cX8_idlers 121 = .ok (.getfield 51, 3) := by decide +kernel
theorem dX8_idlers_124 : decode cX8_idlers 124 = .ok (.iload_n 2, 1) := by decide +kernel
theorem dX8_idlers_125 : decode cX8_idlers 125 = .ok (.laload, 1) := by decide +kernel
theorem dX8_idlers_126 : decode cX8_idlers 126 = .ok (.lconst 0, 1) := by decide +kernel
theorem dX8_idlers_127 : decode cX8_idlers 127 = .ok (.lcmp, 1) := by decide +kernel
theorem dX8_idlers_128 : decode cX8_idlers 128 = .ok (.ifCond .eq 42, 3) := by decide +kernel
theorem dX8_idlers_131 : decode cX8_idlers 131 = .ok (.aload_n 0, 1) := by decide +kernel
theorem dX8_idlers_132 : decode cX8_idlers 132 = .ok (.getfield 51, 3) := by decide +kernel
theorem dX8_idlers_135 : decode cX8_idlers 135 = .ok (.iload_n 1, 1) := by decide +kernel
theorem dX8_idlers_136 : decode cX8_idlers 136 = .ok (.laload, 1) := by decide +kernel
theorem dX8_idlers_137 : decode cX8_idlers 137 = .ok (.lconst 0, 1) := by decide +kernel
theorem dX8_idlers_138 : decode cX8_idlers 138 = .ok (.lcmp, 1) := by decide +kernel
theorem dX8_idlers_139 : decode cX8_idlers 139 = .ok (.ifCond .le 7, 3) := by decide +kernel
theorem dX8_idlers_142 : decode cX8_idlers 142 = .ok (.iconst 1, 1) := by decide +kernel
theorem dX8_idlers_143 : decode cX8_idlers 143 = .ok (.goto 4, 3) := by decide +kernel
theorem dX8_idlers_146 : decode cX8_idlers 146 = .ok (.iconst 0, 1) := by decide +kernel
theorem dX8_idlers_147 : decode cX8_idlers 147 = .ok (.aload_n 0, 1) := by decide +kernel
theorem dX8_idlers_148 : decode cX8_idlers 148 = .ok (.getfield 51, 3) := by decide +kernel
theorem dX8_idlers_151 : decode cX8_idlers 151 = .ok (.iload_n 2, 1) := by decide +kernel
theorem dX8_idlers_152 : decode cX8_idlers 152 = .ok (.laload, 1) := by decide +kernel
theorem dX8_idlers_153 : decode cX8_idlers 153 = .ok (.lconst 0, 1) := by decide +kernel
theorem dX8_idlers_154 : decode cX8_idlers 154 = .ok (.lcmp, 1) := by decide +kernel
theorem dX8_idlers_155 : decode cX8_idlers 155 = .ok (.ifCond .le 7, 3) := by decide +kernel
theorem dX8_idlers_158 : decode cX8_idlers 158 = .ok (.iconst 1, 1) := by decide +kernel
theorem dX8_idlers_159 : decode cX8_idlers 159 = .ok (.goto 4, 3) := by decide +kernel
theorem dX8_idlers_162 : decode cX8_idlers 162 = .ok (.iconst 0, 1) := by decide +kernel
theorem dX8_idlers_163 : decode cX8_idlers 163 = .ok (.if_icmp .ne 7, 3) := by decide +kernel
theorem dX8_idlers_166 : decode cX8_idlers 166 = .ok (.iconst 1, 1) := by decide +kernel
theorem dX8_idlers_167 : decode cX8_idlers 167 = .ok (.goto 4, 3) := by decide +kernel
theorem dX8_idlers_170 : decode cX8_idlers 170 = .ok (.iconst 0, 1) := by decide +kernel
theorem dX8_idlers_171 : decode cX8_idlers 171 = .ok (.istore 6, 2) := by decide +kernel
theorem dX8_idlers_173 : decode cX8_idlers 173 = .ok (.iload 6, 2) := by decide +kernel
theorem dX8_idlers_175 : decode cX8_idlers 175 = .ok (.ifCond .eq 8, 3) := by decide +kernel
theorem dX8_idlers_178 : decode cX8_idlers 178 = .ok (.iload 5, 2) := by decide +kernel
theorem dX8_idlers_180 : decode cX8_idlers 180 = .ok (.goto 5, 3) := by decide +kernel
theorem dX8_idlers_183 : decode cX8_idlers 183 = .ok (.iload 4, 2) := by decide +kernel
theorem dX8_idlers_185 : decode cX8_idlers 185 = .ok (.istore 4, 2) := by decide +kernel
theorem dX8_idlers_187 : decode cX8_idlers 187 = .ok (.iinc 5 1, 3) := by decide +kernel
theorem dX8_idlers_190 : decode cX8_idlers 190 = .ok (.goto (-142), 3) := by decide +kernel
theorem dX8_idlers_193 : decode cX8_idlers 193 = .ok (.iload 4, 2) := by decide +kernel
theorem dX8_idlers_195 : decode cX8_idlers 195 = .ok (.ifCond .lt 8, 3) := by decide +kernel
theorem dX8_idlers_198 : decode cX8_idlers 198 = .ok (.iload_n 3, 1) := by decide +kernel
theorem dX8_idlers_199 : decode cX8_idlers 199 = .ok (.iconst 1, 1) := by decide +kernel
theorem dX8_idlers_200 : decode cX8_idlers 200 = .ok (.if_icmp .ne 8, 3) := by decide +kernel
theorem dX8_idlers_203 : decode cX8_idlers 203 = .ok (.iload 4, 2) := by decide +kernel
theorem dX8_idlers_205 : decode cX8_idlers 205 = .ok (.goto 8, 3) := by decide +kernel
theorem dX8_idlers_208 : decode cX8_idlers 208 = .ok (.iload 4, 2) := by decide +kernel
theorem dX8_idlers_210 : decode cX8_idlers 210 = .ok (.invokestatic 296, 3) := by decide +kernel
theorem dX8_idlers_213 : decode cX8_idlers 213 = .ok (.ireturn, 1) := by decide +kernel
theorem dX8_fewestCut_0 : decode cX8_fewestCut 0 = .ok (.aload_n 0, 1) := by decide +kernel
theorem dX8_fewestCut_1 : decode cX8_fewestCut 1 = .ok (.iconst 0, 1) := by decide +kernel
theorem dX8_fewestCut_2 : decode cX8_fewestCut 2 = .ok (.putfield 189, 3) := by decide +kernel
theorem dX8_fewestCut_5 : decode cX8_fewestCut 5 = .ok (.iconst (-1), 1) := by decide +kernel
theorem dX8_fewestCut_6 : decode cX8_fewestCut 6 = .ok (.istore_n 2, 1) := by decide +kernel
theorem dX8_fewestCut_7 : decode cX8_fewestCut 7 = .ok (.iconst 0, 1) := by decide +kernel
theorem dX8_fewestCut_8 : decode cX8_fewestCut 8 = .ok (.istore_n 3, 1) := by decide +kernel
theorem dX8_fewestCut_9 : decode cX8_fewestCut 9 = .ok (.iload_n 3, 1) := by decide +kernel
theorem dX8_fewestCut_10 : decode cX8_fewestCut 10 = .ok (.iconst 1, 1) := by decide +kernel
theorem dX8_fewestCut_11 : decode cX8_fewestCut 11 = .ok (.aload_n 0, 1) := by decide +kernel
theorem dX8_fewestCut_12 : decode cX8_fewestCut 12 = .ok (.getfield 180, 3) := by decide +kernel
theorem dX8_fewestCut_15 : decode cX8_fewestCut 15 = .ok (.ishl, 1) := by decide +kernel
theorem dX8_fewestCut_16 : decode cX8_fewestCut 16 = .ok (.if_icmp .ge 72, 3) := by decide +kernel
theorem dX8_fewestCut_19 : decode cX8_fewestCut 19 = .ok (.iload_n 3, 1) := by decide +kernel
theorem dX8_fewestCut_20 : decode cX8_fewestCut 20 = .ok (.aload_n 0, 1) := by decide +kernel
theorem dX8_fewestCut_21 : decode cX8_fewestCut 21 = .ok (.getfield 7, 3) := by decide +kernel
theorem dX8_fewestCut_24 : decode cX8_fewestCut 24 = .ok (.bipush 10, 2) := by decide +kernel
theorem dX8_fewestCut_26 : decode cX8_fewestCut 26 = .ok (.iaload, 1) := by decide +kernel
theorem dX8_fewestCut_27 : decode cX8_fewestCut 27 = .ok (.iand, 1) := by decide +kernel
theorem dX8_fewestCut_28 : decode cX8_fewestCut 28 = .ok (.ifCond .ne 54, 3) := by decide +kernel
theorem dX8_fewestCut_31 : decode cX8_fewestCut 31 = .ok (.iload_n 2, 1) := by decide +kernel
theorem dX8_fewestCut_32 : decode cX8_fewestCut 32 = .ok (.ifCond .lt 14, 3) := by decide +kernel
theorem dX8_fewestCut_35 : decode cX8_fewestCut 35 = .ok (.iload_n 3, 1) := by decide +kernel
theorem dX8_fewestCut_36 : decode cX8_fewestCut 36 = .ok (.invokestatic 296, 3) := by decide +kernel
theorem dX8_fewestCut_39 : decode cX8_fewestCut 39 = .ok (.iload_n 2, 1) := by decide +kernel
theorem dX8_fewestCut_40 : decode cX8_fewestCut 40 = .ok (.invokestatic 296, 3) := by decide +kernel
theorem dX8_fewestCut_43 : decode cX8_fewestCut 43 = .ok (.if_icmp .ge 39, 3) := by decide +kernel
theorem dX8_fewestCut_46 : decode cX8_fewestCut 46 = .ok (.aload_n 0, 1) := by decide +kernel
theorem dX8_fewestCut_47 : decode cX8_fewestCut 47 = .ok (.aload_n 0, 1) := by decide +kernel
theorem dX8_fewestCut_48 : decode cX8_fewestCut 48 = .ok (.getfield 7, 3) := by decide +kernel
theorem dX8_fewestCut_51 : decode cX8_fewestCut 51 = .ok (.bipush 10, 2) := by decide +kernel
theorem dX8_fewestCut_53 : decode cX8_fewestCut 53 = .ok (.iaload, 1) := by decide +kernel
theorem dX8_fewestCut_54 : decode cX8_fewestCut 54 = .ok (.iload_n 3, 1) := by decide +kernel
theorem dX8_fewestCut_55 : decode cX8_fewestCut 55 = .ok (.ior, 1) := by decide +kernel
theorem dX8_fewestCut_56 : decode cX8_fewestCut 56 = .ok (.iconst 0, 1) := by decide +kernel
theorem dX8_fewestCut_57 : decode cX8_fewestCut 57 = .ok (.invokevirtual 214, 3) := by decide +kernel
theorem dX8_fewestCut_60 : decode cX8_fewestCut 60 = .ok (.aload_n 0, 1) := by decide +kernel
theorem dX8_fewestCut_61 : decode cX8_fewestCut 61 = .ok (.getfield 200, 3) := by decide +kernel
theorem dX8_fewestCut_64 : decode cX8_fewestCut 64 = .ok (.ifCond .ne 16, 3) := by decide +kernel
theorem dX8_fewestCut_67 : decode cX8_fewestCut 67 = .ok (.aload_n 0, 1) := by decide +kernel
theorem dX8_fewestCut_68 : decode cX8_fewestCut 68 = .ok (.invokevirtual 234, 3) := by decide +kernel
theorem dX8_fewestCut_71 : decode cX8_fewestCut 71 = .ok (.iload_n 1, 1) := by decide +kernel
theorem dX8_fewestCut_72 : decode cX8_fewestCut 72 = .ok (.iand, 1) := by decide +kernel
theorem dX8_fewestCut_73 : decode cX8_fewestCut 73 = .ok (.ifCond .ne 7, 3) := by decide +kernel
theorem dX8_fewestCut_76 : decode cX8_fewestCut 76 = .ok (.iload_n 3, 1) := by decide +kernel
theorem dX8_fewestCut_77 : decode cX8_fewestCut 77 = .ok (.goto 4, 3) := by decide +kernel
theorem dX8_fewestCut_80 : decode cX8_fewestCut 80 = .ok (.iload_n 2, 1) := by decide +kernel
theorem dX8_fewestCut_81 : decode cX8_fewestCut 81 = .ok (.istore_n 2, 1) := by decide +kernel
theorem dX8_fewestCut_82 : decode cX8_fewestCut 82 = .ok (.iinc 3 1, 3) := by decide +kernel
theorem dX8_fewestCut_85 : decode cX8_fewestCut 85 = .ok (.goto (-76), 3) := by decide +kernel
theorem dX8_fewestCut_88 : decode cX8_fewestCut 88 = .ok (.iload_n 2, 1) := by decide +kernel
theorem dX8_fewestCut_89 : decode cX8_fewestCut 89 = .ok (.ireturn, 1) := by decide +kernel
theorem dX8_free_0 : decode cX8_free 0 = .ok (.iload_n 1, 1) := by decide +kernel
theorem dX8_free_1 : decode cX8_free 1 = .ok (.i2l, 1) := by decide +kernel
theorem dX8_free_2 : decode cX8_free 2 = .ok (.lconst 0, 1) := by decide +kernel
theorem dX8_free_3 : decode cX8_free 3 = .ok (.lconst 1, 1) := by decide +kernel
theorem dX8_free_4 : decode cX8_free 4 = .ok (.invokestatic 91, 3) := by decide +kernel
theorem dX8_free_7 : decode cX8_free 7 = .ok (.ifCond .ne 6, 3) := by decide +kernel
theorem dX8_free_10 : decode cX8_free 10 = .ok (.ldc 95, 2) := by decide +kernel
theorem dX8_free_12 : decode cX8_free 12 = .ok (.ireturn, 1) := by decide +kernel
theorem dX8_free_13 : decode cX8_free 13 = .ok (.aload_n 0, 1) := by decide +kernel
theorem dX8_free_14 : decode cX8_free 14 = .ok (.iconst 0, 1) := by decide +kernel
theorem dX8_free_15 : decode cX8_free 15 = .ok (.invokevirtual 299, 3) := by decide +kernel
theorem dX8_free_18 : decode cX8_free 18 = .ok (.istore_n 2, 1) := by decide +kernel
theorem dX8_free_19 : decode cX8_free 19 = .ok (.iload_n 1, 1) := by decide +kernel
theorem dX8_free_20 : decode cX8_free 20 = .ok (.iconst 1, 1) := by decide +kernel
theorem dX8_free_21 : decode cX8_free 21 = .ok (.if_icmp .ne 7, 3) := by decide +kernel
theorem dX8_free_24 : decode cX8_free 24 = .ok (.iload_n 2, 1) := by decide +kernel
theorem dX8_free_25 : decode cX8_free 25 = .ok (.goto 7, 3) := by decide +kernel
theorem dX8_free_28 : decode cX8_free 28 = .ok (.iload_n 2, 1) := by decide +kernel
theorem dX8_free_29 : decode cX8_free 29 = .ok (.invokestatic 296, 3) := by decide +kernel
theorem dX8_free_32 : decode cX8_free 32 = .ok (.ireturn, 1) := by decide +kernel
theorem dX8_rest_0 : decode cX8_rest 0 = .ok (.iload_n 1, 1) := by decide +kernel
theorem dX8_rest_1 : decode cX8_rest 1 = .ok (.i2l, 1) := by decide +kernel
theorem dX8_rest_2 : decode cX8_rest 2 = .ok (.lconst 0, 1) := by decide +kernel
theorem dX8_rest_3 : decode cX8_rest 3 = .ok (.iconst 1, 1) := by decide +kernel
theorem dX8_rest_4 : decode cX8_rest 4 = .ok (.aload_n 0, 1) := by decide +kernel
theorem dX8_rest_5 : decode cX8_rest 5 = .ok (.getfield 177, 3) := by decide +kernel
theorem dX8_rest_8 : decode cX8_rest 8 = .ok (.ishl, 1) := by decide +kernel
theorem dX8_rest_9 : decode cX8_rest 9 = .ok (.iconst 1, 1) := by decide +kernel
theorem dX8_rest_10 : decode cX8_rest 10 = .ok (.isub, 1) := by decide +kernel
theorem dX8_rest_11 : decode cX8_rest 11 = .ok (.i2l, 1) := by decide +kernel
theorem dX8_rest_12 : decode cX8_rest 12 = .ok (.invokestatic 91, 3) := by decide +kernel
theorem dX8_rest_15 : decode cX8_rest 15 = .ok (.ifCond .ne 6, 3) := by decide +kernel
theorem dX8_rest_18 : decode cX8_rest 18 = .ok (.ldc 244, 2) := by decide +kernel
theorem dX8_rest_20 : decode cX8_rest 20 = .ok (.ireturn, 1) := by decide +kernel
theorem dX8_rest_21 : decode cX8_rest 21 = .ok (.iload_n 2, 1) := by decide +kernel
theorem dX8_rest_22 : decode cX8_rest 22 = .ok (.i2l, 1) := by decide +kernel
theorem dX8_rest_23 : decode cX8_rest 23 = .ok (.lconst 0, 1) := by decide +kernel
theorem dX8_rest_24 : decode cX8_rest 24 = .ok (.lconst 1, 1) := by decide +kernel
theorem dX8_rest_25 : decode cX8_rest 25 = .ok (.invokestatic 91, 3) := by decide +kernel
theorem dX8_rest_28 : decode cX8_rest 28 = .ok (.ifCond .ne 6, 3) := by decide +kernel
theorem dX8_rest_31 : decode cX8_rest 31 = .ok (.ldc 95, 2) := by decide +kernel
theorem dX8_rest_33 : decode cX8_rest 33 = .ok (.ireturn, 1) := by decide +kernel
theorem dX8_rest_34 : decode cX8_rest 34 = .ok (.aload_n 0, 1) := by decide +kernel
theorem dX8_rest_35 : decode cX8_rest 35 = .ok (.iload_n 1, 1) := by decide +kernel
theorem dX8_rest_36 : decode cX8_rest 36 = .ok (.invokevirtual 299, 3) := by decide +kernel
theorem dX8_rest_39 : decode cX8_rest 39 = .ok (.istore_n 3, 1) := by decide +kernel
theorem dX8_rest_40 : decode cX8_rest 40 = .ok (.iload_n 3, 1) := by decide +kernel
theorem dX8_rest_41 : decode cX8_rest 41 = .ok (.ifCond .lt 8, 3) := by decide +kernel
theorem dX8_rest_44 : decode cX8_rest 44 = .ok (.iload_n 2, 1) := by decide +kernel
theorem dX8_rest_45 : decode cX8_rest 45 = .ok (.iconst 1, 1) := by decide +kernel
theorem dX8_rest_46 : decode cX8_rest 46 = .ok (.if_icmp .ne 7, 3) := by decide +kernel
theorem dX8_rest_49 : decode cX8_rest 49 = .ok (.iload_n 3, 1) := by decide +kernel
theorem dX8_rest_50 : decode cX8_rest 50 = .ok (.goto 7, 3) := by decide +kernel
theorem dX8_rest_53 : decode cX8_rest 53 = .ok (.iload_n 3, 1) := by decide +kernel
theorem dX8_rest_54 : decode cX8_rest 54 = .ok (.invokestatic 296, 3) := by decide +kernel
theorem dX8_rest_57 : decode cX8_rest 57 = .ok (.ireturn, 1) := by decide +kernel
theorem dX8_wear_0 : decode cX8_wear 0 = .ok (.aload_n 0, 1) := by decide +kernel
theorem dX8_wear_1 : decode cX8_wear 1 = .ok (.iload_n 1, 1) := by decide +kernel
theorem dX8_wear_2 : decode cX8_wear 2 = .ok (.invokevirtual 245, 3) := by decide +kernel
theorem dX8_wear_5 : decode cX8_wear 5 = .ok (.ifCond .ne 6, 3) := by decide +kernel
theorem dX8_wear_8 : decode cX8_wear 8 = .ok (.ldc 244, 2) := by decide +kernel
theorem dX8_wear_10 : decode cX8_wear 10 = .ok (.ireturn, 1) := by decide +kernel
theorem dX8_wear_11 : decode cX8_wear 11 = .ok (.iload_n 2, 1) := by decide +kernel
theorem dX8_wear_12 : decode cX8_wear 12 = .ok (.i2l, 1) := by decide +kernel
theorem dX8_wear_13 : decode cX8_wear 13 = .ok (.lconst 0, 1) := by decide +kernel
theorem dX8_wear_14 : decode cX8_wear 14 = .ok (.lconst 1, 1) := by decide +kernel
theorem dX8_wear_15 : decode cX8_wear 15 = .ok (.invokestatic 91, 3) := by decide +kernel
theorem dX8_wear_18 : decode cX8_wear 18 = .ok (.ifCond .ne 6, 3) := by decide +kernel
theorem dX8_wear_21 : decode cX8_wear 21 = .ok (.ldc 95, 2) := by decide +kernel
theorem dX8_wear_23 : decode cX8_wear 23 = .ok (.ireturn, 1) := by decide +kernel
theorem dX8_wear_24 : decode cX8_wear 24 = .ok (.aload_n 0, 1) := by decide +kernel
theorem dX8_wear_25 : decode cX8_wear 25 = .ok (.getfield 27, 3) := by decide +kernel
theorem dX8_wear_28 : decode cX8_wear 28 = .ok (.iload_n 1, 1) := by decide +kernel
theorem dX8_wear_29 : decode cX8_wear 29 = .ok (.iaload, 1) := by decide +kernel
theorem dX8_wear_30 : decode cX8_wear 30 = .ok (.ifCond .eq 7, 3) := by decide +kernel
theorem dX8_wear_33 : decode cX8_wear 33 = .ok (.ldc_w 258, 3) := by decide +kernel
theorem dX8_wear_36 : decode cX8_wear 36 = .ok (.ireturn, 1) := by decide +kernel
theorem dX8_wear_37 : decode cX8_wear 37 = .ok (.aload_n 0, 1) := by decide +kernel
theorem dX8_wear_38 : decode cX8_wear 38 = .ok (.getfield 21, 3) := by decide +kernel
theorem dX8_wear_41 : decode cX8_wear 41 = .ok (.aload_n 0, 1) := by decide +kernel
theorem dX8_wear_42 : decode cX8_wear 42 = .ok (.getfield 30, 3) := by decide +kernel
theorem dX8_wear_45 : decode cX8_wear 45 = .ok (.iload_n 1, 1) := by decide +kernel
theorem dX8_wear_46 : decode cX8_wear 46 = .ok (.iaload, 1) := by decide +kernel
theorem dX8_wear_47 : decode cX8_wear 47 = .ok (.iaload, 1) := by decide +kernel
theorem dX8_wear_48 : decode cX8_wear 48 = .ok (.i2l, 1) := by decide +kernel
theorem dX8_wear_49 : decode cX8_wear 49 = .ok (.aload_n 0, 1) := by decide +kernel
theorem dX8_wear_50 : decode cX8_wear 50 = .ok (.getfield 21, 3) := by decide +kernel
theorem dX8_wear_53 : decode cX8_wear 53 = .ok (.aload_n 0, 1) := by decide +kernel
theorem dX8_wear_54 : decode cX8_wear 54 = .ok (.getfield 33, 3) := by decide +kernel
theorem dX8_wear_57 : decode cX8_wear 57 = .ok (.iload_n 1, 1) := by decide +kernel
theorem dX8_wear_58 : decode cX8_wear 58 = .ok (.iaload, 1) := by decide +kernel
theorem dX8_wear_59 : decode cX8_wear 59 = .ok (.iaload, 1) := by decide +kernel
theorem dX8_wear_60 : decode cX8_wear 60 = .ok (.i2l, 1) := by decide +kernel
theorem dX8_wear_61 : decode cX8_wear 61 = .ok (.invokestatic 196, 3) := by decide +kernel
theorem dX8_wear_64 : decode cX8_wear 64 = .ok (.l2i, 1) := by decide +kernel
theorem dX8_wear_65 : decode cX8_wear 65 = .ok (.istore_n 3, 1) := by decide +kernel
theorem dX8_wear_66 : decode cX8_wear 66 = .ok (.iload_n 2, 1) := by decide +kernel
theorem dX8_wear_67 : decode cX8_wear 67 = .ok (.ifCond .ne 17, 3) := by decide +kernel
theorem dX8_wear_70 : decode cX8_wear 70 = .ok (.aload_n 0, 1) := by decide +kernel
theorem dX8_wear_71 : decode cX8_wear 71 = .ok (.getfield 21, 3) := by decide +kernel
theorem dX8_wear_74 : decode cX8_wear 74 = .ok (.aload_n 0, 1) := by decide +kernel
theorem dX8_wear_75 : decode cX8_wear 75 = .ok (.getfield 33, 3) := by decide +kernel
theorem dX8_wear_78 : decode cX8_wear 78 = .ok (.iload_n 1, 1) := by decide +kernel
theorem dX8_wear_79 : decode cX8_wear 79 = .ok (.iaload, 1) := by decide +kernel
theorem dX8_wear_80 : decode cX8_wear 80 = .ok (.iaload, 1) := by decide +kernel
theorem dX8_wear_81 : decode cX8_wear 81 = .ok (.iload_n 3, 1) := by decide +kernel
theorem dX8_wear_82 : decode cX8_wear 82 = .ok (.idiv, 1) := by decide +kernel
theorem dX8_wear_83 : decode cX8_wear 83 = .ok (.ireturn, 1) := by decide +kernel
theorem dX8_wear_84 : decode cX8_wear 84 = .ok (.aload_n 0, 1) := by decide +kernel
theorem dX8_wear_85 : decode cX8_wear 85 = .ok (.invokevirtual 231, 3) := by decide +kernel
theorem dX8_wear_88 : decode cX8_wear 88 = .ok (.aload_n 0, 1) := by decide +kernel
theorem dX8_wear_89 : decode cX8_wear 89 = .ok (.getfield 51, 3) := by decide +kernel
theorem dX8_wear_92 : decode cX8_wear 92 = .ok (.aload_n 0, 1) := by decide +kernel
theorem dX8_wear_93 : decode cX8_wear 93 = .ok (.getfield 30, 3) := by decide +kernel
theorem dX8_wear_96 : decode cX8_wear 96 = .ok (.iload_n 1, 1) := by decide +kernel
theorem dX8_wear_97 : decode cX8_wear 97 = .ok (.iaload, 1) := by decide +kernel
theorem dX8_wear_98 : decode cX8_wear 98 = .ok (.laload, 1) := by decide +kernel
theorem dX8_wear_99 : decode cX8_wear 99 = .ok (.invokestatic 85, 3) := by decide +kernel
theorem dX8_wear_102 : decode cX8_wear 102 = .ok (.lstore 4, 2) := by decide +kernel
theorem dX8_wear_104 : decode cX8_wear 104 = .ok (.aload_n 0, 1) := by decide +kernel
theorem dX8_wear_105 : decode cX8_wear 105 = .ok (.getfield 7, 3) := by decide +kernel
theorem dX8_wear_108 : decode cX8_wear 108 = .ok (.bipush 10, 2) := by decide +kernel
theorem dX8_wear_110 : decode cX8_wear 110 = .ok (.iaload, 1) := by decide +kernel
theorem dX8_wear_111 : decode cX8_wear 111 = .ok (.iload_n 1, 1) := by decide +kernel
theorem dX8_wear_112 : decode cX8_wear 112 = .ok (.invokestatic 192, 3) := by decide +kernel
theorem dX8_wear_115 : decode cX8_wear 115 = .ok (.ifCond .ne 10, 3) := by decide +kernel
theorem dX8_wear_118 : decode cX8_wear 118 = .ok (.lload 4, 2) := by decide +kernel
theorem dX8_wear_120 : decode cX8_wear 120 = .ok (.lconst 0, 1) := by decide +kernel
theorem dX8_wear_121 : decode cX8_wear 121 = .ok (.lcmp, 1) := by decide +kernel
theorem dX8_wear_122 : decode cX8_wear 122 = .ok (.ifCond .ne 5, 3) := by decide +kernel
theorem dX8_wear_125 : decode cX8_wear 125 = .ok (.iconst (-1), 1) := by decide +kernel
theorem dX8_wear_126 : decode cX8_wear 126 = .ok (.ireturn, 1) := by decide +kernel
theorem dX8_wear_127 : decode cX8_wear 127 = .ok (.aload_n 0, 1) := by decide +kernel
theorem dX8_wear_128 : decode cX8_wear 128 = .ok (.getfield 21, 3) := by decide +kernel
theorem dX8_wear_131 : decode cX8_wear 131 = .ok (.aload_n 0, 1) := by decide +kernel
theorem dX8_wear_132 : decode cX8_wear 132 = .ok (.getfield 30, 3) := by decide +kernel
theorem dX8_wear_135 : decode cX8_wear 135 = .ok (.iload_n 1, 1) := by decide +kernel
theorem dX8_wear_136 : decode cX8_wear 136 = .ok (.iaload, 1) := by decide +kernel
theorem dX8_wear_137 : decode cX8_wear 137 = .ok (.iaload, 1) := by decide +kernel
theorem dX8_wear_138 : decode cX8_wear 138 = .ok (.i2l, 1) := by decide +kernel
theorem dX8_wear_139 : decode cX8_wear 139 = .ok (.iload_n 3, 1) := by decide +kernel
theorem dX8_wear_140 : decode cX8_wear 140 = .ok (.i2l, 1) := by decide +kernel
theorem dX8_wear_141 : decode cX8_wear 141 = .ok (.ldiv, 1) := by decide +kernel
theorem dX8_wear_142 : decode cX8_wear 142 = .ok (.aload_n 0, 1) := by decide +kernel
theorem dX8_wear_143 : decode cX8_wear 143 = .ok (.getfield 21, 3) := by decide +kernel
theorem dX8_wear_146 : decode cX8_wear 146 = .ok (.aload_n 0, 1) := by decide +kernel
theorem dX8_wear_147 : decode cX8_wear 147 = .ok (.getfield 33, 3) := by decide +kernel
theorem dX8_wear_150 : decode cX8_wear 150 = .ok (.iload_n 1, 1) := by decide +kernel
theorem dX8_wear_151 : decode cX8_wear 151 = .ok (.iaload, 1) := by decide +kernel
theorem dX8_wear_152 : decode cX8_wear 152 = .ok (.iaload, 1) := by decide +kernel
theorem dX8_wear_153 : decode cX8_wear 153 = .ok (.i2l, 1) := by decide +kernel
theorem dX8_wear_154 : decode cX8_wear 154 = .ok (.lmul, 1) := by decide +kernel
theorem dX8_wear_155 : decode cX8_wear 155 = .ok (.aload_n 0, 1) := by decide +kernel
theorem dX8_wear_156 : decode cX8_wear 156 = .ok (.getfield 55, 3) := by decide +kernel
theorem dX8_wear_159 : decode cX8_wear 159 = .ok (.aload_n 0, 1) := by decide +kernel
theorem dX8_wear_160 : decode cX8_wear 160 = .ok (.getfield 30, 3) := by decide +kernel
theorem dX8_wear_163 : decode cX8_wear 163 = .ok (.iload_n 1, 1) := by decide +kernel
theorem dX8_wear_164 : decode cX8_wear 164 = .ok (.iaload, 1) := by decide +kernel
theorem dX8_wear_165 : decode cX8_wear 165 = .ok (.laload, 1) := by decide +kernel
theorem dX8_wear_166 : decode cX8_wear 166 = .ok (.lmul, 1) := by decide +kernel
theorem dX8_wear_167 : decode cX8_wear 167 = .ok (.lstore 6, 2) := by decide +kernel
theorem dX8_wear_169 : decode cX8_wear 169 = .ok (.lload 6, 2) := by decide +kernel
theorem dX8_wear_171 : decode cX8_wear 171 = .ok (.lload 4, 2) := by decide +kernel
theorem dX8_wear_173 : decode cX8_wear 173 = .ok (.ladd, 1) := by decide +kernel
theorem dX8_wear_174 : decode cX8_wear 174 = .ok (.lconst 1, 1) := by decide +kernel
theorem dX8_wear_175 : decode cX8_wear 175 = .ok (.lsub, 1) := by decide +kernel
theorem dX8_wear_176 : decode cX8_wear 176 = .ok (.lload 4, 2) := by decide +kernel
theorem dX8_wear_178 : decode cX8_wear 178 = .ok (.ldiv, 1) := by decide +kernel
theorem dX8_wear_179 : decode cX8_wear 179 = .ok (.l2i, 1) := by decide +kernel
theorem dX8_wear_180 : decode cX8_wear 180 = .ok (.ireturn, 1) := by decide +kernel
theorem dX8_findFar_0 : decode cX8_findFar 0 = .ok (.iconst 0, 1) := by decide +kernel
theorem dX8_findFar_1 : decode cX8_findFar 1 = .ok (.istore_n 1, 1) := by decide +kernel
theorem dX8_findFar_2 : decode cX8_findFar 2 = .ok (.iload_n 1, 1) := by decide +kernel
theorem dX8_findFar_3 : decode cX8_findFar 3 = .ok (.bipush 8, 2) := by decide +kernel
theorem dX8_findFar_5 : decode cX8_findFar 5 = .ok (.if_icmp .ge 29, 3) := by decide +kernel
theorem dX8_findFar_8 : decode cX8_findFar 8 = .ok (.aload_n 0, 1) := by decide +kernel
theorem dX8_findFar_9 : decode cX8_findFar 9 = .ok (.getfield 58, 3) := by decide +kernel
theorem dX8_findFar_12 : decode cX8_findFar 12 = .ok (.iload_n 1, 1) := by decide +kernel
theorem dX8_findFar_13 : decode cX8_findFar 13 = .ok (.iload_n 1, 1) := by decide +kernel
theorem dX8_findFar_14 : decode cX8_findFar 14 = .ok (.aload_n 0, 1) := by decide +kernel
theorem dX8_findFar_15 : decode cX8_findFar 15 = .ok (.getfield 186, 3) := by decide +kernel
theorem dX8_findFar_18 : decode cX8_findFar 18 = .ok (.if_icmp .ne 7, 3) := by decide +kernel
theorem dX8_findFar_21 : decode cX8_findFar 21 = .ok (.iconst 0, 1) := by decide +kernel
theorem dX8_findFar_22 : decode cX8_findFar 22 = .ok (.goto 5, 3) := by decide +kernel
theorem dX8_findFar_25 : decode cX8_findFar 25 = .ok (.bipush 99, 2) := by decide +kernel
theorem dX8_findFar_27 : decode cX8_findFar 27 = .ok (.iastore, 1) := by decide +kernel
theorem dX8_findFar_28 : decode cX8_findFar 28 = .ok (.iinc 1 1, 3) := by decide +kernel
theorem dX8_findFar_31 : decode cX8_findFar 31 = .ok (.goto (-29), 3) := by decide +kernel
theorem dX8_findFar_34 : decode cX8_findFar 34 = .ok (.iconst 0, 1) := by decide +kernel
theorem dX8_findFar_35 : decode cX8_findFar 35 = .ok (.istore_n 1, 1) := by decide +kernel
theorem dX8_findFar_36 : decode cX8_findFar 36 = .ok (.iload_n 1, 1) := by decide +kernel
theorem dX8_findFar_37 : decode cX8_findFar 37 = .ok (.bipush 8, 2) := by decide +kernel
theorem dX8_findFar_39 : decode cX8_findFar 39 = .ok (.if_icmp .ge 176, 3) := by decide +kernel
theorem dX8_findFar_42 : decode cX8_findFar 42 = .ok (.iconst 0, 1) := by decide +kernel
theorem dX8_findFar_43 : decode cX8_findFar 43 = .ok (.istore_n 2, 1) := by decide +kernel
theorem dX8_findFar_44 : decode cX8_findFar 44 = .ok (.iload_n 2, 1) := by decide +kernel
theorem dX8_findFar_45 : decode cX8_findFar 45 = .ok (.aload_n 0, 1) := by decide +kernel
theorem dX8_findFar_46 : decode cX8_findFar 46 = .ok (.getfield 180, 3) := by decide +kernel
theorem dX8_findFar_49 : decode cX8_findFar 49 = .ok (.if_icmp .ge 160, 3) := by decide +kernel
theorem dX8_findFar_52 : decode cX8_findFar 52 = .ok (.aload_n 0, 1) := by decide +kernel
theorem dX8_findFar_53 : decode cX8_findFar 53 = .ok (.getfield 7, 3) := by decide +kernel
theorem dX8_findFar_56 : decode cX8_findFar 56 = .ok (.bipush 10, 2) := by decide +kernel
theorem dX8_findFar_58 : decode cX8_findFar 58 = .ok (.iaload, 1) := by decide +kernel
theorem dX8_findFar_59 : decode cX8_findFar 59 = .ok (.iload_n 2, 1) := by decide +kernel
theorem dX8_findFar_60 : decode cX8_findFar 60 = .ok (.invokestatic 192, 3) := by decide +kernel
theorem dX8_findFar_63 : decode cX8_findFar 63 = .ok (.ifCond .eq 8, 3) := by decide +kernel
theorem dX8_findFar_66 : decode cX8_findFar 66 = .ok (.bipush 99, 2) := by decide +kernel
theorem dX8_findFar_68 : decode cX8_findFar 68 = .ok (.goto 16, 3) := by decide +kernel
theorem dX8_findFar_71 : decode cX8_findFar 71 = .ok (.aload_n 0, 1) := by decide +kernel
theorem dX8_findFar_72 : decode cX8_findFar 72 = .ok (.getfield 58, 3) := by decide +kernel
theorem dX8_findFar_75 : decode cX8_findFar 75 = .ok (.aload_n 0, 1) := by decide +kernel
theorem dX8_findFar_76 : decode cX8_findFar 76 = .ok (.getfield 30, 3) := by decide +kernel
theorem dX8_findFar_79 : decode cX8_findFar 79 = .ok (.iload_n 2, 1) := by decide +kernel
theorem dX8_findFar_80 : decode cX8_findFar 80 = .ok (.iaload, 1) := by decide +kernel
theorem dX8_findFar_81 : decode cX8_findFar 81 = .ok (.iaload, 1) := by decide +kernel
theorem dX8_findFar_82 : decode cX8_findFar 82 = .ok (.iconst 1, 1) := by decide +kernel
theorem dX8_findFar_83 : decode cX8_findFar 83 = .ok (.iadd, 1) := by decide +kernel
theorem dX8_findFar_84 : decode cX8_findFar 84 = .ok (.istore_n 3, 1) := by decide +kernel
theorem dX8_findFar_85 : decode cX8_findFar 85 = .ok (.aload_n 0, 1) := by decide +kernel
theorem dX8_findFar_86 : decode cX8_findFar 86 = .ok (.getfield 7, 3) := by decide +kernel
theorem dX8_findFar_89 : decode cX8_findFar 89 = .ok (.bipush 10, 2) := by decide +kernel
theorem dX8_findFar_91 : decode cX8_findFar 91 = .ok (.iaload, 1) := by decide +kernel
theorem dX8_findFar_92 : decode cX8_findFar 92 = .ok (.iload_n 2, 1) := by decide +kernel
theorem dX8_findFar_93 : decode cX8_findFar 93 = .ok (.invokestatic 192, 3) := by decide +kernel
theorem dX8_findFar_96 : decode cX8_findFar 96 = .ok (.ifCond .eq 8, 3) := by decide +kernel
theorem dX8_findFar_99 : decode cX8_findFar 99 = .ok (.bipush 99, 2) := by decide +kernel
theorem dX8_findFar_101 : decode cX8_findFar 101 = .ok (.goto 16, 3) := by decide +kernel
theorem dX8_findFar_104 : decode cX8_findFar 104 = .ok (.aload_n 0, 1) := by decide +kernel
theorem dX8_findFar_105 : decode cX8_findFar 105 = .ok (.getfield 58, 3) := by decide +kernel
theorem dX8_findFar_108 : decode cX8_findFar 108 = .ok (.aload_n 0, 1) := by decide +kernel
theorem dX8_findFar_109 : decode cX8_findFar 109 = .ok (.getfield 33, 3) := by decide +kernel
theorem dX8_findFar_112 : decode cX8_findFar 112 = .ok (.iload_n 2, 1) := by decide +kernel
theorem dX8_findFar_113 : decode cX8_findFar 113 = .ok (.iaload, 1) := by decide +kernel
theorem dX8_findFar_114 : decode cX8_findFar 114 = .ok (.iaload, 1) := by decide +kernel
theorem dX8_findFar_115 : decode cX8_findFar 115 = .ok (.iconst 1, 1) := by decide +kernel
theorem dX8_findFar_116 : decode cX8_findFar 116 = .ok (.iadd, 1) := by decide +kernel
theorem dX8_findFar_117 : decode cX8_findFar 117 = .ok (.istore 4, 2) := by decide +kernel
theorem dX8_findFar_119 : decode cX8_findFar 119 = .ok (.aload_n 0, 1) := by decide +kernel
theorem dX8_findFar_120 : decode cX8_findFar 120 = .ok (.getfield 58, 3) := by decide +kernel
theorem dX8_findFar_123 : decode cX8_findFar 123 = .ok (.aload_n 0, 1) := by decide +kernel
theorem dX8_findFar_124 : decode cX8_findFar 124 = .ok (.getfield 33, 3) := by decide +kernel
theorem dX8_findFar_127 : decode cX8_findFar 127 = .ok (.iload_n 2, 1) := by decide +kernel
theorem dX8_findFar_128 : decode cX8_findFar 128 = .ok (.iaload, 1) := by decide +kernel
theorem dX8_findFar_129 : decode cX8_findFar 129 = .ok (.iload_n 3, 1) := by decide +kernel
theorem dX8_findFar_130 : decode cX8_findFar 130 = .ok (.aload_n 0, 1) := by decide +kernel
theorem dX8_findFar_131 : decode cX8_findFar 131 = .ok (.getfield 58, 3) := by decide +kernel
theorem dX8_findFar_134 : decode cX8_findFar 134 = .ok (.aload_n 0, 1) := by decide +kernel
theorem dX8_findFar_135 : decode cX8_findFar 135 = .ok (.getfield 33, 3) := by decide +kernel
theorem dX8_findFar_138 : decode cX8_findFar 138 = .ok (.iload_n 2, 1) := by decide +kernel
theorem dX8_findFar_139 : decode cX8_findFar 139 = .ok (.iaload, 1) := by decide +kernel
theorem dX8_findFar_140 : decode cX8_findFar 140 = .ok (.iaload, 1) := by decide +kernel
theorem dX8_findFar_141 : decode cX8_findFar 141 = .ok (.if_icmp .ge 7, 3) := by decide +kernel
theorem dX8_findFar_144 : decode cX8_findFar 144 = .ok (.iload_n 3, 1) := by decide +kernel
theorem dX8_findFar_145 : decode cX8_findFar 145 = .ok (.goto 14, 3) := by decide +kernel
theorem dX8_findFar_148 : decode cX8_findFar 148 = .ok (.aload_n 0, 1) := by decide +kernel
theorem dX8_findFar_149 : decode cX8_findFar 149 = .ok (.getfield 58, 3) := by decide +kernel
theorem dX8_findFar_152 : decode cX8_findFar 152 = .ok (.aload_n 0, 1) := by decide +kernel
theorem dX8_findFar_153 : decode cX8_findFar 153 = .ok (.getfield 33, 3) := by decide +kernel
theorem dX8_findFar_156 : decode cX8_findFar 156 = .ok (.iload_n 2, 1) := by decide +kernel
theorem dX8_findFar_157 : decode cX8_findFar 157 = .ok (.iaload, 1) := by decide +kernel
theorem dX8_findFar_158 : decode cX8_findFar 158 = .ok (.iaload, 1) := by decide +kernel
theorem dX8_findFar_159 : decode cX8_findFar 159 = .ok (.iastore, 1) := by decide +kernel
theorem dX8_findFar_160 : decode cX8_findFar 160 = .ok (.aload_n 0, 1) := by decide +kernel
theorem dX8_findFar_161 : decode cX8_findFar 161 = .ok (.getfield 58, 3) := by decide +kernel
theorem dX8_findFar_164 : decode cX8_findFar 164 = .ok (.aload_n 0, 1) := by decide +kernel
theorem dX8_findFar_165 : decode cX8_findFar 165 = .ok (.getfield 30, 3) := by decide +kernel
theorem dX8_findFar_168 : decode cX8_findFar 168 = .ok (.iload_n 2, 1) := by decide +kernel
theorem dX8_findFar_169 : decode cX8_findFar 169 = .ok (.iaload, 1) := by decide +kernel
theorem dX8_findFar_170 : decode cX8_findFar 170 = .ok (.iload 4, 2) := by decide +kernel
theorem dX8_findFar_172 : decode cX8_findFar 172 = .ok (.aload_n 0, 1) := by decide +kernel
theorem dX8_findFar_173 : decode cX8_findFar 173 = .ok (.getfield 58, 3) := by decide +kernel
theorem dX8_findFar_176 : decode cX8_findFar 176 = .ok (.aload_n 0, 1) := by decide +kernel
theorem dX8_findFar_177 : decode cX8_findFar 177 = .ok (.getfield 30, 3) := by decide +kernel
theorem dX8_findFar_180 : decode cX8_findFar 180 = .ok (.iload_n 2, 1) := by decide +kernel
theorem dX8_findFar_181 : decode cX8_findFar 181 = .ok (.iaload, 1) := by decide +kernel
theorem dX8_findFar_182 : decode cX8_findFar 182 = .ok (.iaload, 1) := by decide +kernel
theorem dX8_findFar_183 : decode cX8_findFar 183 = .ok (.if_icmp .ge 8, 3) := by decide +kernel
theorem dX8_findFar_186 : decode cX8_findFar 186 = .ok (.iload 4, 2) := by decide +kernel
theorem dX8_findFar_188 : decode cX8_findFar 188 = .ok (.goto 14, 3) := by decide +kernel
theorem dX8_findFar_191 : decode cX8_findFar 191 = .ok (.aload_n 0, 1) := by decide +kernel
theorem dX8_findFar_192 : decode cX8_findFar 192 = .ok (.getfield 58, 3) := by decide +kernel
theorem dX8_findFar_195 : decode cX8_findFar 195 = .ok (.aload_n 0, 1) := by decide +kernel
theorem dX8_findFar_196 : decode cX8_findFar 196 = .ok (.getfield 30, 3) := by decide +kernel
theorem dX8_findFar_199 : decode cX8_findFar 199 = .ok (.iload_n 2, 1) := by decide +kernel
theorem dX8_findFar_200 : decode cX8_findFar 200 = .ok (.iaload, 1) := by decide +kernel
theorem dX8_findFar_201 : decode cX8_findFar 201 = .ok (.iaload, 1) := by decide +kernel
theorem dX8_findFar_202 : decode cX8_findFar 202 = .ok (.iastore, 1) := by decide +kernel
theorem dX8_findFar_203 : decode cX8_findFar 203 = .ok (.iinc 2 1, 3) := by decide +kernel
theorem dX8_findFar_206 : decode cX8_findFar 206 = .ok (.goto (-162), 3) := by decide +kernel
theorem dX8_findFar_209 : decode cX8_findFar 209 = .ok (.iinc 1 1, 3) := by decide +kernel
theorem dX8_findFar_212 : decode cX8_findFar 212 = .ok (.goto (-176), 3) := by decide +kernel
theorem dX8_findFar_215 : decode cX8_findFar 215 = .ok (.return_, 1) := by decide +kernel
theorem dX8_findRows_0 : decode cX8_findRows 0 = .ok (.aload_n 0, 1) := by decide +kernel
theorem dX8_findRows_1 : decode cX8_findRows 1 = .ok (.invokevirtual 302, 3) := by decide +kernel
theorem dX8_findRows_4 : decode cX8_findRows 4 = .ok (.iconst 0, 1) := by decide +kernel
theorem dX8_findRows_5 : decode cX8_findRows 5 = .ok (.istore_n 1, 1) := by decide +kernel
theorem dX8_findRows_6 : decode cX8_findRows 6 = .ok (.iload_n 1, 1) := by decide +kernel
theorem dX8_findRows_7 : decode cX8_findRows 7 = .ok (.bipush 8, 2) := by decide +kernel
theorem dX8_findRows_9 : decode cX8_findRows 9 = .ok (.if_icmp .ge 30, 3) := by decide +kernel
theorem dX8_findRows_12 : decode cX8_findRows 12 = .ok (.aload_n 0, 1) := by decide +kernel
theorem dX8_findRows_13 : decode cX8_findRows 13 = .ok (.getfield 61, 3) := by decide +kernel
theorem dX8_findRows_16 : decode cX8_findRows 16 = .ok (.iload_n 1, 1) := by decide +kernel
theorem dX8_findRows_17 : decode cX8_findRows 17 = .ok (.iload_n 1, 1) := by decide +kernel
theorem dX8_findRows_18 : decode cX8_findRows 18 = .ok (.aload_n 0, 1) := by decide +kernel
theorem dX8_findRows_19 : decode cX8_findRows 19 = .ok (.getfield 186, 3) := by decide +kernel
theorem dX8_findRows_22 : decode cX8_findRows 22 = .ok (.if_icmp .ne 7, 3) := by decide +kernel
theorem dX8_findRows_25 : decode cX8_findRows 25 = .ok (.lconst 0, 1) := by decide +kernel
theorem dX8_findRows_26 : decode cX8_findRows 26 = .ok (.goto 6, 3) := by decide +kernel
theorem dX8_findRows_29 : decode cX8_findRows 29 = .ok (.ldc2_w 305, 3) := by decide +kernel
theorem dX8_findRows_32 : decode cX8_findRows 32 = .ok (.lastore, 1) := by decide +kernel
theorem dX8_findRows_33 : decode cX8_findRows 33 = .ok (.iinc 1 1, 3) := by decide +kernel
theorem dX8_findRows_36 : decode cX8_findRows 36 = .ok (.goto (-30), 3) := by decide +kernel
theorem dX8_findRows_39 : decode cX8_findRows 39 = .ok (.iconst 1, 1) := by decide +kernel
theorem dX8_findRows_40 : decode cX8_findRows 40 = .ok (.istore_n 1, 1) := by decide +kernel
theorem dX8_findRows_41 : decode cX8_findRows 41 = .ok (.iload_n 1, 1) := by decide +kernel
theorem dX8_findRows_42 : decode cX8_findRows 42 = .ok (.bipush 8, 2) := by decide +kernel
theorem dX8_findRows_44 : decode cX8_findRows 44 = .ok (.if_icmp .ge 203, 3) := by decide +kernel
theorem dX8_findRows_47 : decode cX8_findRows 47 = .ok (.iconst 0, 1) := by decide +kernel
theorem dX8_findRows_48 : decode cX8_findRows 48 = .ok (.istore_n 2, 1) := by decide +kernel
theorem dX8_findRows_49 : decode cX8_findRows 49 = .ok (.iload_n 2, 1) := by decide +kernel
theorem dX8_findRows_50 : decode cX8_findRows 50 = .ok (.aload_n 0, 1) := by decide +kernel
theorem dX8_findRows_51 : decode cX8_findRows 51 = .ok (.getfield 177, 3) := by decide +kernel
theorem dX8_findRows_54 : decode cX8_findRows 54 = .ok (.if_icmp .ge 187, 3) := by decide +kernel
theorem dX8_findRows_57 : decode cX8_findRows 57 = .ok (.iconst 0, 1) := by decide +kernel
theorem dX8_findRows_58 : decode cX8_findRows 58 = .ok (.istore_n 3, 1) := by decide +kernel
theorem dX8_findRows_59 : decode cX8_findRows 59 = .ok (.iload_n 3, 1) := by decide +kernel
theorem dX8_findRows_60 : decode cX8_findRows 60 = .ok (.aload_n 0, 1) := by decide +kernel
theorem dX8_findRows_61 : decode cX8_findRows 61 = .ok (.getfield 180, 3) := by decide +kernel
theorem dX8_findRows_64 : decode cX8_findRows 64 = .ok (.if_icmp .ge 171, 3) := by decide +kernel
theorem dX8_findRows_67 : decode cX8_findRows 67 = .ok (.aload_n 0, 1) := by decide +kernel
theorem dX8_findRows_68 : decode cX8_findRows 68 = .ok (.getfield 58, 3) := by decide +kernel
theorem dX8_findRows_71 : decode cX8_findRows 71 = .ok (.iload_n 2, 1) := by decide +kernel
theorem dX8_findRows_72 : decode cX8_findRows 72 = .ok (.iaload, 1) := by decide +kernel
theorem dX8_findRows_73 : decode cX8_findRows 73 = .ok (.iload_n 1, 1) := by decide +kernel
theorem dX8_findRows_74 : decode cX8_findRows 74 = .ok (.if_icmp .ne 161, 3) := by decide +kernel
theorem dX8_findRows_77 : decode cX8_findRows 77 = .ok (.aload_n 0, 1) := by decide +kernel
theorem dX8_findRows_78 : decode cX8_findRows 78 = .ok (.getfield 30, 3) := by decide +kernel
theorem dX8_findRows_81 : decode cX8_findRows 81 = .ok (.iload_n 3, 1) := by decide +kernel
theorem dX8_findRows_82 : decode cX8_findRows 82 = .ok (.iaload, 1) := by decide +kernel
theorem dX8_findRows_83 : decode cX8_findRows 83 = .ok (.iload_n 2, 1) := by decide +kernel
theorem dX8_findRows_84 : decode cX8_findRows 84 = .ok (.if_icmp .ne 12, 3) := by decide +kernel
theorem dX8_findRows_87 : decode cX8_findRows 87 = .ok (.aload_n 0, 1) := by decide +kernel
theorem dX8_findRows_88 : decode cX8_findRows 88 = .ok (.getfield 33, 3) := by decide +kernel
theorem dX8_findRows_91 : decode cX8_findRows 91 = .ok (.iload_n 3, 1) := by decide +kernel
theorem dX8_findRows_92 : decode cX8_findRows 92 = .ok (.iaload, 1) := by decide +kernel
theorem dX8_findRows_93 : decode cX8_findRows 93 = .ok (.goto 23, 3) := by decide +kernel
theorem dX8_findRows_96 : decode cX8_findRows 96 = .ok (.aload_n 0, 1) := by decide +kernel
theorem dX8_findRows_97 : decode cX8_findRows 97 = .ok (.getfield 33, 3) := by decide +kernel
theorem dX8_findRows_100 : decode cX8_findRows 100 = .ok (.iload_n 3, 1) := by decide +kernel
theorem dX8_findRows_101 : decode cX8_findRows 101 = .ok (.iaload, 1) := by decide +kernel
theorem dX8_findRows_102 : decode cX8_findRows 102 = .ok (.iload_n 2, 1) := by decide +kernel
theorem dX8_findRows_103 : decode cX8_findRows 103 = .ok (.if_icmp .ne 12, 3) := by decide +kernel
theorem dX8_findRows_106 : decode cX8_findRows 106 = .ok (.aload_n 0, 1) := by decide +kernel
theorem dX8_findRows_107 : decode cX8_findRows 107 = .ok (.getfield 30, 3) := by decide +kernel
theorem dX8_findRows_110 : decode cX8_findRows 110 = .ok (.iload_n 3, 1) := by decide +kernel
theorem dX8_findRows_111 : decode cX8_findRows 111 = .ok (.iaload, 1) := by decide +kernel
theorem dX8_findRows_112 : decode cX8_findRows 112 = .ok (.goto 4, 3) := by decide +kernel
theorem dX8_findRows_115 : decode cX8_findRows 115 = .ok (.iconst (-1), 1) := by decide +kernel
theorem dX8_findRows_116 : decode cX8_findRows 116 = .ok (.istore 4, 2) := by decide +kernel
theorem dX8_findRows_118 : decode cX8_findRows 118 = .ok (.iload 4, 2) := by decide +kernel
theorem dX8_findRows_120 : decode cX8_findRows 120 = .ok (.ifCond .lt 34, 3) := by decide +kernel
theorem dX8_findRows_123 : decode cX8_findRows 123 = .ok (.aload_n 0, 1) := by decide +kernel
theorem dX8_findRows_124 : decode cX8_findRows 124 = .ok (.getfield 7, 3) := by decide +kernel
theorem dX8_findRows_127 : decode cX8_findRows 127 = .ok (.bipush 10, 2) := by decide +kernel
theorem dX8_findRows_129 : decode cX8_findRows 129 = .ok (.iaload, 1) := by decide +kernel
theorem dX8_findRows_130 : decode cX8_findRows 130 = .ok (.iload_n 3, 1) := by decide +kernel
theorem dX8_findRows_131 : decode cX8_findRows 131 = .ok (.invokestatic 192, 3) := by decide +kernel
theorem dX8_findRows_134 : decode cX8_findRows 134 = .ok (.ifCond .ne 20, 3) := by decide +kernel
theorem dX8_findRows_137 : decode cX8_findRows 137 = .ok (.aload_n 0, 1) := by decide +kernel
theorem dX8_findRows_138 : decode cX8_findRows 138 = .ok (.getfield 58, 3) := by decide +kernel
theorem dX8_findRows_141 : decode cX8_findRows 141 = .ok (.iload 4, 2) := by decide +kernel
theorem dX8_findRows_143 : decode cX8_findRows 143 = .ok (.iaload, 1) := by decide +kernel
theorem dX8_findRows_144 : decode cX8_findRows 144 = .ok (.iload_n 1, 1) := by decide +kernel
theorem dX8_findRows_145 : decode cX8_findRows 145 = .ok (.iconst 1, 1) := by decide +kernel
theorem dX8_findRows_146 : decode cX8_findRows 146 = .ok (.isub, 1) := by decide +kernel
theorem dX8_findRows_147 : decode cX8_findRows 147 = .ok (.if_icmp .ne 7, 3) := by decide +kernel
theorem dX8_findRows_150 : decode cX8_findRows 150 = .ok (.iconst 1, 1) := by decide +kernel
theorem dX8_findRows_151 : decode cX8_findRows 151 = .ok (.goto 4, 3) := by decide +kernel
theorem dX8_findRows_154 : decode cX8_findRows 154 = .ok (.iconst 0, 1) := by decide +kernel
theorem dX8_findRows_155 : decode cX8_findRows 155 = .ok (.istore 5, 2) := by decide +kernel
theorem dX8_findRows_157 : decode cX8_findRows 157 = .ok (.iload 5, 2) := by decide +kernel
theorem dX8_findRows_159 : decode cX8_findRows 159 = .ok (.ifCond .eq 20, 3) := by decide +kernel
theorem dX8_findRows_162 : decode cX8_findRows 162 = .ok (.ldc2_w 307, 3) := by decide +kernel
theorem dX8_findRows_165 : decode cX8_findRows 165 = .ok (.aload_n 0, 1) := by decide +kernel
theorem dX8_findRows_166 : decode cX8_findRows 166 = .ok (.getfield 61, 3) := by decide +kernel
theorem dX8_findRows_169 : decode cX8_findRows 169 = .ok (.iload 4, 2) := by decide +kernel
theorem dX8_findRows_171 : decode cX8_findRows 171 = .ok (.laload, 1) := by decide +kernel
theorem dX8_findRows_172 : decode cX8_findRows 172 = .ok (.lmul, 1) := by decide +kernel
theorem dX8_findRows_173 : decode cX8_findRows 173 = .ok (.iload_n 3, 1) := by decide +kernel
theorem dX8_findRows_174 : decode cX8_findRows 174 = .ok (.i2l, 1) := by decide +kernel
theorem dX8_findRows_175 : decode cX8_findRows 175 = .ok (.ladd, 1) := by decide +kernel
theorem dX8_findRows_176 : decode cX8_findRows 176 = .ok (.goto 6, 3) := by decide +kernel
theorem dX8_findRows_179 : decode cX8_findRows 179 = .ok (.ldc2_w 305, 3) := by decide +kernel
theorem dX8_findRows_182 : decode cX8_findRows 182 = .ok (.lstore 6, 2) := by decide +kernel
theorem dX8_findRows_184 : decode cX8_findRows 184 = .ok (.aload_n 0, 1) := by decide +kernel
theorem dX8_findRows_185 : decode cX8_findRows 185 = .ok (.getfield 61, 3) := by decide +kernel
theorem dX8_findRows_188 : decode cX8_findRows 188 = .ok (.iload_n 2, 1) := by decide +kernel
theorem dX8_findRows_189 : decode cX8_findRows 189 = .ok (.iload 5, 2) := by decide +kernel
theorem dX8_findRows_191 : decode cX8_findRows 191 = .ok (.ifCond .eq 31, 3) := by decide +kernel
theorem dX8_findRows_194 : decode cX8_findRows 194 = .ok (.aload_n 0, 1) := by decide +kernel
theorem dX8_findRows_195 : decode cX8_findRows 195 = .ok (.getfield 61, 3) := by decide +kernel
theorem dX8_findRows_198 : decode cX8_findRows 198 = .ok (.iload_n 2, 1) := by decide +kernel
theorem dX8_findRows_199 : decode cX8_findRows 199 = .ok (.laload, 1) := by decide +kernel
theorem dX8_findRows_200 : decode cX8_findRows 200 = .ok (.lconst 0, 1) := by decide +kernel
theorem dX8_findRows_201 : decode cX8_findRows 201 = .ok (.lcmp, 1) := by decide +kernel
theorem dX8_findRows_202 : decode cX8_findRows 202 = .ok (.ifCond .lt 15, 3) := by decide +kernel
theorem dX8_findRows_205 : decode cX8_findRows 205 = .ok (.lload 6, 2) := by decide +kernel
theorem dX8_findRows_207 : decode cX8_findRows 207 = .ok (.aload_n 0, 1) := by decide +kernel
theorem dX8_findRows_208 : decode cX8_findRows 208 = .ok (.getfield 61, 3) := by decide +kernel
theorem dX8_findRows_211 : decode cX8_findRows 211 = .ok (.iload_n 2, 1) := by decide +kernel
theorem dX8_findRows_212 : decode cX8_findRows 212 = .ok (.laload, 1) := by decide +kernel
theorem dX8_findRows_213 : decode cX8_findRows 213 = .ok (.lcmp, 1) := by decide +kernel
theorem dX8_findRows_214 : decode cX8_findRows 214 = .ok (.ifCond .ge 8, 3) := by decide +kernel
theorem dX8_findRows_217 : decode cX8_findRows 217 = .ok (.lload 6, 2) := by decide +kernel
theorem dX8_findRows_219 : decode cX8_findRows 219 = .ok (.goto 9, 3) := by decide +kernel
theorem dX8_findRows_222 : decode cX8_findRows 222 = .ok (.aload_n 0, 1) := by decide +kernel
theorem dX8_findRows_223 : decode cX8_findRows 223 = .ok (.getfield 61, 3) := by decide +kernel
theorem dX8_findRows_226 : decode cX8_findRows 226 = .ok (.iload_n 2, 1) := by decide +kernel
theorem dX8_findRows_227 : decode cX8_findRows 227 = .ok (.laload, 1) := by decide +kernel
theorem dX8_findRows_228 : decode cX8_findRows 228 = .ok (.lastore, 1) := by decide +kernel
theorem dX8_findRows_229 : decode cX8_findRows 229 = .ok (.iinc 3 1, 3) := by decide +kernel
theorem dX8_findRows_232 : decode cX8_findRows 232 = .ok (.goto (-173), 3) := by decide +kernel
theorem dX8_findRows_235 : decode cX8_findRows 235 = .ok (.iinc 2 1, 3) := by decide +kernel
theorem dX8_findRows_238 : decode cX8_findRows 238 = .ok (.goto (-189), 3) := by decide +kernel
theorem dX8_findRows_241 : decode cX8_findRows 241 = .ok (.iinc 1 1, 3) := by decide +kernel
theorem dX8_findRows_244 : decode cX8_findRows 244 = .ok (.goto (-203), 3) := by decide +kernel
theorem dX8_findRows_247 : decode cX8_findRows 247 = .ok (.return_, 1) := by decide +kernel
theorem dX8_figure_0 : decode cX8_figure 0 = .ok (.lload_n 0, 1) := by decide +kernel
theorem dX8_figure_1 : decode cX8_figure 1 = .ok (.lstore 4, 2) := by decide +kernel
theorem dX8_figure_3 : decode cX8_figure 3 = .ok (.iload_n 3, 1) := by decide +kernel
theorem dX8_figure_4 : decode cX8_figure 4 = .ok (.iconst 1, 1) := by decide +kernel
theorem dX8_figure_5 : decode cX8_figure 5 = .ok (.isub, 1) := by decide +kernel
theorem dX8_figure_6 : decode cX8_figure 6 = .ok (.istore 6, 2) := by decide +kernel
theorem dX8_figure_8 : decode cX8_figure 8 = .ok (.iload 6, 2) := by decide +kernel
theorem dX8_figure_10 : decode cX8_figure 10 = .ok (.iload_n 2, 1) := by decide +kernel
theorem dX8_figure_11 : decode cX8_figure 11 = .ok (.if_icmp .le 17, 3) := by decide +kernel
theorem dX8_figure_14 : decode cX8_figure 14 = .ok (.lload 4, 2) := by decide +kernel
theorem dX8_figure_16 : decode cX8_figure 16 = .ok (.ldc2_w 307, 3) := by decide +kernel
theorem dX8_figure_19 : decode cX8_figure 19 = .ok (.ldiv, 1) := by decide +kernel
theorem dX8_figure_20 : decode cX8_figure 20 = .ok (.lstore 4, 2) := by decide +kernel
theorem dX8_figure_22 : decode cX8_figure 22 = .ok (.iinc 6 (-1), 3) := by decide +kernel
theorem dX8_figure_25 : decode cX8_figure 25 = .ok (.goto (-17), 3) := by decide +kernel
theorem dX8_figure_28 : decode cX8_figure 28 = .ok (.lload 4, 2) := by decide +kernel
theorem dX8_figure_30 : decode cX8_figure 30 = .ok (.ldc2_w 307, 3) := by decide +kernel
theorem dX8_figure_33 : decode cX8_figure 33 = .ok (.lrem, 1) := by decide +kernel
theorem dX8_figure_34 : decode cX8_figure 34 = .ok (.l2i, 1) := by decide +kernel
theorem dX8_figure_35 : decode cX8_figure 35 = .ok (.ireturn, 1) := by decide +kernel
theorem dX8_slips_0 : decode cX8_slips 0 = .ok (.aload_n 0, 1) := by decide +kernel
theorem dX8_slips_1 : decode cX8_slips 1 = .ok (.iload_n 1, 1) := by decide +kernel
theorem dX8_slips_2 : decode cX8_slips 2 = .ok (.invokevirtual 240, 3) := by decide +kernel
theorem dX8_slips_5 : decode cX8_slips 5 = .ok (.ifCond .ne 6, 3) := by decide +kernel
theorem dX8_slips_8 : decode cX8_slips 8 = .ok (.ldc 244, 2) := by decide +kernel
theorem dX8_slips_10 : decode cX8_slips 10 = .ok (.ireturn, 1) := by decide +kernel
theorem dX8_slips_11 : decode cX8_slips 11 = .ok (.iload_n 2, 1) := by decide +kernel
theorem dX8_slips_12 : decode cX8_slips 12 = .ok (.i2l, 1) := by decide +kernel
theorem dX8_slips_13 : decode cX8_slips 13 = .ok (.lconst 0, 1) := by decide +kernel
theorem dX8_slips_14 : decode cX8_slips 14 = .ok (.ldc2_w 268, 3) := by decide +kernel
theorem dX8_slips_17 : decode cX8_slips 17 = .ok (.invokestatic 91, 3) := by decide +kernel
theorem dX8_slips_20 : decode cX8_slips 20 = .ok (.ifCond .ne 6, 3) := by decide +kernel
theorem dX8_slips_23 : decode cX8_slips 23 = .ok (.ldc 95, 2) := by decide +kernel
theorem dX8_slips_25 : decode cX8_slips 25 = .ok (.ireturn, 1) := by decide +kernel
theorem dX8_slips_26 : decode cX8_slips 26 = .ok (.aload_n 0, 1) := by decide +kernel
theorem dX8_slips_27 : decode cX8_slips 27 = .ok (.invokevirtual 231, 3) := by decide +kernel
theorem dX8_slips_30 : decode cX8_slips 30 = .ok (.aload_n 0, 1) := by decide +kernel
theorem dX8_slips_31 : decode cX8_slips 31 = .ok (.getfield 51, 3) := by decide +kernel
theorem dX8_slips_34 : decode cX8_slips 34 = .ok (.iload_n 1, 1) := by decide +kernel
theorem dX8_slips_35 : decode cX8_slips 35 = .ok (.laload, 1) := by decide +kernel
theorem dX8_slips_36 : decode cX8_slips 36 = .ok (.lconst 0, 1) := by decide +kernel
theorem dX8_slips_37 : decode cX8_slips 37 = .ok (.lcmp, 1) := by decide +kernel
theorem dX8_slips_38 : decode cX8_slips 38 = .ok (.ifCond .ne 5, 3) := by decide +kernel
theorem dX8_slips_41 : decode cX8_slips 41 = .ok (.iconst 0, 1) := by decide +kernel
theorem dX8_slips_42 : decode cX8_slips 42 = .ok (.ireturn, 1) := by decide +kernel
theorem dX8_slips_43 : decode cX8_slips 43 = .ok (.aload_n 0, 1) := by decide +kernel
theorem dX8_slips_44 : decode cX8_slips 44 = .ok (.invokevirtual 309, 3) := by decide +kernel
theorem dX8_slips_47 : decode cX8_slips 47 = .ok (.ldc2_w 312, 3) := by decide +kernel
theorem dX8_slips_50 : decode cX8_slips 50 = .ok (.lstore_n 3, 1) := by decide +kernel
theorem dX8_slips_51 : decode cX8_slips 51 = .ok (.iconst 0, 1) := by decide +kernel
theorem dX8_slips_52 : decode cX8_slips 52 = .ok (.istore 5, 2) := by decide +kernel
theorem dX8_slips_54 : decode cX8_slips 54 = .ok (.iload 5, 2) := by decide +kernel
theorem dX8_slips_56 : decode cX8_slips 56 = .ok (.aload_n 0, 1) := by decide +kernel
theorem dX8_slips_57 : decode cX8_slips 57 = .ok (.getfield 58, 3) := by decide +kernel
theorem dX8_slips_60 : decode cX8_slips 60 = .ok (.iload_n 1, 1) := by decide +kernel
theorem dX8_slips_61 : decode cX8_slips 61 = .ok (.iaload, 1) := by decide +kernel
theorem dX8_slips_62 : decode cX8_slips 62 = .ok (.if_icmp .ge 62, 3) := by decide +kernel
theorem dX8_slips_65 : decode cX8_slips 65 = .ok (.aload_n 0, 1) := by decide +kernel
theorem dX8_slips_66 : decode cX8_slips 66 = .ok (.getfield 61, 3) := by decide +kernel
theorem dX8_slips_69 : decode cX8_slips 69 = .ok (.iload_n 1, 1) := by decide +kernel
theorem dX8_slips_70 : decode cX8_slips 70 = .ok (.laload, 1) := by decide +kernel
theorem dX8_slips_71 : decode cX8_slips 71 = .ok (.iload 5, 2) := by decide +kernel
theorem dX8_slips_73 : decode cX8_slips 73 = .ok (.aload_n 0, 1) := by decide +kernel
theorem dX8_slips_74 : decode cX8_slips 74 = .ok (.getfield 58, 3) := by decide +kernel
theorem dX8_slips_77 : decode cX8_slips 77 = .ok (.iload_n 1, 1) := by decide +kernel
theorem dX8_slips_78 : decode cX8_slips 78 = .ok (.iaload, 1) := by decide +kernel
theorem dX8_slips_79 : decode cX8_slips 79 = .ok (.invokestatic 314, 3) := by decide +kernel
theorem dX8_slips_82 : decode cX8_slips 82 = .ok (.istore 6, 2) := by decide +kernel
theorem dX8_slips_84 : decode cX8_slips 84 = .ok (.iconst 0, 1) := by decide +kernel
theorem dX8_slips_85 : decode cX8_slips 85 = .ok (.istore 7, 2) := by decide +kernel
theorem dX8_slips_87 : decode cX8_slips 87 = .ok (.iload 7, 2) := by decide +kernel
theorem dX8_slips_89 : decode cX8_slips 89 = .ok (.iload_n 2, 1) := by decide +kernel
theorem dX8_slips_90 : decode cX8_slips 90 = .ok (.if_icmp .ge 28, 3) := by decide +kernel
theorem dX8_slips_93 : decode cX8_slips 93 = .ok (.lload_n 3, 1) := by decide +kernel
theorem dX8_slips_94 : decode cX8_slips 94 = .ok (.sipush 1000, 3) := by decide +kernel
theorem dX8_slips_97 : decode cX8_slips 97 = .ok (.aload_n 0, 1) := by decide +kernel
theorem dX8_slips_98 : decode cX8_slips 98 = .ok (.getfield 36, 3) := by decide +kernel
theorem dX8_slips_101 : decode cX8_slips 101 = .ok (.iload 6, 2) := by decide +kernel
theorem dX8_slips_103 : decode cX8_slips 103 = .ok (.iaload, 1) := by decide +kernel
theorem dX8_slips_104 : decode cX8_slips 104 = .ok (.isub, 1) := by decide +kernel
theorem dX8_slips_105 : decode cX8_slips 105 = .ok (.i2l, 1) := by decide +kernel
theorem dX8_slips_106 : decode cX8_slips 106 = .ok (.lmul, 1) := by decide +kernel
theorem dX8_slips_107 : decode cX8_slips 107 = .ok (.ldc2_w 318, 3) := by decide +kernel
theorem dX8_slips_110 : decode cX8_slips 110 = .ok (.ldiv, 1) := by decide +kernel
theorem dX8_slips_111 : decode cX8_slips 111 = .ok (.lstore_n 3, 1) := by decide +kernel
theorem dX8_slips_112 : decode cX8_slips 112 = .ok (.iinc 7 1, 3) := by decide +kernel
theorem dX8_slips_115 : decode cX8_slips 115 = .ok (.goto (-28), 3) := by decide +kernel
theorem dX8_slips_118 : decode cX8_slips 118 = .ok (.iinc 5 1, 3) := by decide +kernel
theorem dX8_slips_121 : decode cX8_slips 121 = .ok (.goto (-67), 3) := by decide +kernel
theorem dX8_slips_124 : decode cX8_slips 124 = .ok (.lload_n 3, 1) := by decide +kernel
theorem dX8_slips_125 : decode cX8_slips 125 = .ok (.l2i, 1) := by decide +kernel
theorem dX8_slips_126 : decode cX8_slips 126 = .ok (.ireturn, 1) := by decide +kernel
theorem dX8_gives_0 : decode cX8_gives 0 = .ok (.aload_n 0, 1) := by decide +kernel
theorem dX8_gives_1 : decode cX8_gives 1 = .ok (.iconst 1, 1) := by decide +kernel
theorem dX8_gives_2 : decode cX8_gives 2 = .ok (.putfield 189, 3) := by decide +kernel
theorem dX8_gives_5 : decode cX8_gives 5 = .ok (.aload_n 0, 1) := by decide +kernel
theorem dX8_gives_6 : decode cX8_gives 6 = .ok (.getfield 27, 3) := by decide +kernel
theorem dX8_gives_9 : decode cX8_gives 9 = .ok (.bipush 20, 2) := by decide +kernel
theorem dX8_gives_11 : decode cX8_gives 11 = .ok (.iload_n 3, 1) := by decide +kernel
theorem dX8_gives_12 : decode cX8_gives 12 = .ok (.iastore, 1) := by decide +kernel
theorem dX8_gives_13 : decode cX8_gives 13 = .ok (.aload_n 0, 1) := by decide +kernel
theorem dX8_gives_14 : decode cX8_gives 14 = .ok (.getfield 30, 3) := by decide +kernel
theorem dX8_gives_17 : decode cX8_gives 17 = .ok (.bipush 20, 2) := by decide +kernel
theorem dX8_gives_19 : decode cX8_gives 19 = .ok (.iload_n 1, 1) := by decide +kernel
theorem dX8_gives_20 : decode cX8_gives 20 = .ok (.iastore, 1) := by decide +kernel
theorem dX8_gives_21 : decode cX8_gives 21 = .ok (.aload_n 0, 1) := by decide +kernel
theorem dX8_gives_22 : decode cX8_gives 22 = .ok (.getfield 33, 3) := by decide +kernel
theorem dX8_gives_25 : decode cX8_gives 25 = .ok (.bipush 20, 2) := by decide +kernel
theorem dX8_gives_27 : decode cX8_gives 27 = .ok (.iload_n 2, 1) := by decide +kernel
theorem dX8_gives_28 : decode cX8_gives 28 = .ok (.iastore, 1) := by decide +kernel
theorem dX8_gives_29 : decode cX8_gives 29 = .ok (.aload_n 0, 1) := by decide +kernel
theorem dX8_gives_30 : decode cX8_gives 30 = .ok (.aload_n 0, 1) := by decide +kernel
theorem dX8_gives_31 : decode cX8_gives 31 = .ok (.getfield 7, 3) := by decide +kernel
theorem dX8_gives_34 : decode cX8_gives 34 = .ok (.bipush 10, 2) := by decide +kernel
theorem dX8_gives_36 : decode cX8_gives 36 = .ok (.iaload, 1) := by decide +kernel
theorem dX8_gives_37 : decode cX8_gives 37 = .ok (.iconst 0, 1) := by decide +kernel
theorem dX8_gives_38 : decode cX8_gives 38 = .ok (.invokevirtual 214, 3) := by decide +kernel
theorem dX8_gives_41 : decode cX8_gives 41 = .ok (.aload_n 0, 1) := by decide +kernel
theorem dX8_gives_42 : decode cX8_gives 42 = .ok (.iconst 0, 1) := by decide +kernel
theorem dX8_gives_43 : decode cX8_gives 43 = .ok (.putfield 189, 3) := by decide +kernel
theorem dX8_gives_46 : decode cX8_gives 46 = .ok (.aload_n 0, 1) := by decide +kernel
theorem dX8_gives_47 : decode cX8_gives 47 = .ok (.getfield 200, 3) := by decide +kernel
theorem dX8_gives_50 : decode cX8_gives 50 = .ok (.ifCond .ne 33, 3) := by decide +kernel
theorem dX8_gives_53 : decode cX8_gives 53 = .ok (.aload_n 0, 1) := by decide +kernel
theorem dX8_gives_54 : decode cX8_gives 54 = .ok (.getfield 51, 3) := by decide +kernel
theorem dX8_gives_57 : decode cX8_gives 57 = .ok (.iload 4, 2) := by decide +kernel
theorem dX8_gives_59 : decode cX8_gives 59 = .ok (.laload, 1) := by decide +kernel
theorem dX8_gives_60 : decode cX8_gives 60 = .ok (.iload 5, 2) := by decide +kernel
theorem dX8_gives_62 : decode cX8_gives 62 = .ok (.i2l, 1) := by decide +kernel
theorem dX8_gives_63 : decode cX8_gives 63 = .ok (.lcmp, 1) := by decide +kernel
theorem dX8_gives_64 : decode cX8_gives 64 = .ok (.ifCond .ne 19, 3) := by decide +kernel
theorem dX8_gives_67 : decode cX8_gives 67 = .ok (.aload_n 0, 1) := by decide +kernel
theorem dX8_gives_68 : decode cX8_gives 68 = .ok (.getfield 55, 3) := by decide +kernel
theorem dX8_gives_71 : decode cX8_gives 71 = .ok (.iload 4, 2) := by decide +kernel
theorem dX8_gives_73 : decode cX8_gives 73 = .ok (.laload, 1) := by decide +kernel
theorem dX8_gives_74 : decode cX8_gives 74 = .ok (.lconst 1, 1) := by decide +kernel
theorem dX8_gives_75 : decode cX8_gives 75 = .ok (.lcmp, 1) := by decide +kernel
theorem dX8_gives_76 : decode cX8_gives 76 = .ok (.ifCond .ne 7, 3) := by decide +kernel
theorem dX8_gives_79 : decode cX8_gives 79 = .ok (.iconst 1, 1) := by decide +kernel
theorem dX8_gives_80 : decode cX8_gives 80 = .ok (.goto 4, 3) := by decide +kernel
theorem dX8_gives_83 : decode cX8_gives 83 = .ok (.iconst 0, 1) := by decide +kernel
theorem dX8_gives_84 : decode cX8_gives 84 = .ok (.ireturn, 1) := by decide +kernel
theorem dX8_hidden_0 : decode cX8_hidden 0 = .ok (.aload_n 0, 1) := by decide +kernel
theorem dX8_hidden_1 : decode cX8_hidden 1 = .ok (.iload_n 1, 1) := by decide +kernel
theorem dX8_hidden_2 : decode cX8_hidden 2 = .ok (.invokevirtual 240, 3) := by decide +kernel
theorem dX8_hidden_5 : decode cX8_hidden 5 = .ok (.ifCond .ne 6, 3) := by decide +kernel
theorem dX8_hidden_8 : decode cX8_hidden 8 = .ok (.ldc 244, 2) := by decide +kernel
theorem dX8_hidden_10 : decode cX8_hidden 10 = .ok (.ireturn, 1) := by decide +kernel
theorem dX8_hidden_11 : decode cX8_hidden 11 = .ok (.iload_n 2, 1) := by decide +kernel
theorem dX8_hidden_12 : decode cX8_hidden 12 = .ok (.i2l, 1) := by decide +kernel
theorem dX8_hidden_13 : decode cX8_hidden 13 = .ok (.lconst 0, 1) := by decide +kernel
theorem dX8_hidden_14 : decode cX8_hidden 14 = .ok (.ldc2_w 320, 3) := by decide +kernel
theorem dX8_hidden_17 : decode cX8_hidden 17 = .ok (.invokestatic 91, 3) := by decide +kernel
theorem dX8_hidden_20 : decode cX8_hidden 20 = .ok (.ifCond .eq 21, 3) := by decide +kernel
theorem dX8_hidden_23 : decode cX8_hidden 23 = .ok (.iload_n 3, 1) := by decide +kernel
theorem dX8_hidden_24 : decode cX8_hidden 24 = .ok (.i2l, 1) := by decide +kernel
theorem dX8_hidden_25 : decode cX8_hidden 25 = .ok (.ldc2_w 322, 3) := by decide +kernel
theorem dX8_hidden_28 : decode cX8_hidden 28 = .ok (.ldc2_w 283, 3) := by decide +kernel
theorem dX8_hidden_31 : decode cX8_hidden 31 = .ok (.invokestatic 91, 3) := by decide +kernel
theorem dX8_hidden_34 : decode cX8_hidden 34 = .ok (.ifCond .eq 7, 3) := by decide +kernel
theorem dX8_hidden_37 : decode cX8_hidden 37 = .ok (.iload_n 3, 1) := by decide +kernel
theorem dX8_hidden_38 : decode cX8_hidden 38 = .ok (.ifCond .ne 6, 3) := by decide +kernel
theorem dX8_hidden_41 : decode cX8_hidden 41 = .ok (.ldc 95, 2) := by decide +kernel
theorem dX8_hidden_43 : decode cX8_hidden 43 = .ok (.ireturn, 1) := by decide +kernel
theorem dX8_hidden_44 : decode cX8_hidden 44 = .ok (.aload_n 0, 1) := by decide +kernel
theorem dX8_hidden_45 : decode cX8_hidden 45 = .ok (.invokevirtual 231, 3) := by decide +kernel
theorem dX8_hidden_48 : decode cX8_hidden 48 = .ok (.aload_n 0, 1) := by decide +kernel
theorem dX8_hidden_49 : decode cX8_hidden 49 = .ok (.invokevirtual 234, 3) := by decide +kernel
theorem dX8_hidden_52 : decode cX8_hidden 52 = .ok (.istore 5, 2) := by decide +kernel
theorem dX8_hidden_54 : decode cX8_hidden 54 = .ok (.iload 5, 2) := by decide +kernel
theorem dX8_hidden_56 : decode cX8_hidden 56 = .ok (.iload_n 1, 1) := by decide +kernel
theorem dX8_hidden_57 : decode cX8_hidden 57 = .ok (.invokestatic 192, 3) := by decide +kernel
theorem dX8_hidden_60 : decode cX8_hidden 60 = .ok (.ifCond .eq 7, 3) := by decide +kernel
theorem dX8_hidden_63 : decode cX8_hidden 63 = .ok (.ldc_w 258, 3) := by decide +kernel
theorem dX8_hidden_66 : decode cX8_hidden 66 = .ok (.ireturn, 1) := by decide +kernel
theorem dX8_hidden_67 : decode cX8_hidden 67 = .ok (.iconst 0, 1) := by decide +kernel
theorem dX8_hidden_68 : decode cX8_hidden 68 = .ok (.istore 6, 2) := by decide +kernel
theorem dX8_hidden_70 : decode cX8_hidden 70 = .ok (.iconst 0, 1) := by decide +kernel
theorem dX8_hidden_71 : decode cX8_hidden 71 = .ok (.istore 7, 2) := by decide +kernel
theorem dX8_hidden_73 : decode cX8_hidden 73 = .ok (.iload 7, 2) := by decide +kernel
theorem dX8_hidden_75 : decode cX8_hidden 75 = .ok (.aload_n 0, 1) := by decide +kernel
theorem dX8_hidden_76 : decode cX8_hidden 76 = .ok (.getfield 177, 3) := by decide +kernel
theorem dX8_hidden_79 : decode cX8_hidden 79 = .ok (.if_icmp .ge 80, 3) := by decide +kernel
theorem dX8_hidden_82 : decode cX8_hidden 82 = .ok (.iload 7, 2) := by decide +kernel
theorem dX8_hidden_84 : decode cX8_hidden 84 = .ok (.iconst 1, 1) := by decide +kernel
theorem dX8_hidden_85 : decode cX8_hidden 85 = .ok (.iadd, 1) := by decide +kernel
theorem dX8_hidden_86 : decode cX8_hidden 86 = .ok (.istore 8, 2) := by decide +kernel
theorem dX8_hidden_88 : decode cX8_hidden 88 = .ok (.iload 8, 2) := by decide +kernel
theorem dX8_hidden_90 : decode cX8_hidden 90 = .ok (.aload_n 0, 1) := by decide +kernel
theorem dX8_hidden_91 : decode cX8_hidden 91 = .ok (.getfield 177, 3) := by decide +kernel
theorem dX8_hidden_94 : decode cX8_hidden 94 = .ok (.if_icmp .ge 59, 3) := by decide +kernel
theorem dX8_hidden_97 : decode cX8_hidden 97 = .ok (.iload 5, 2) := by decide +kernel
theorem dX8_hidden_99 : decode cX8_hidden 99 = .ok (.iload 7, 2) := by decide +kernel
theorem dX8_hidden_101 : decode cX8_hidden 101 = .ok (.invokestatic 192, 3) := by decide +kernel
theorem dX8_hidden_104 : decode cX8_hidden 104 = .ok (.iload 5, 2) := by decide +kernel
theorem dX8_hidden_106 : decode cX8_hidden 106 = .ok (.iload 8, 2) := by decide +kernel
theorem dX8_hidden_108 : decode cX8_hidden 108 = .ok (.invokestatic 192, 3) := by decide +kernel
theorem dX8_hidden_111 : decode cX8_hidden 111 = .ok (.if_icmp .eq 36, 3) := by decide +kernel
theorem dX8_hidden_114 : decode cX8_hidden 114 = .ok (.aload_n 0, 1) := by decide +kernel
theorem dX8_hidden_115 : decode cX8_hidden 115 = .ok (.iload 7, 2) := by decide +kernel
theorem dX8_hidden_117 : decode cX8_hidden 117 = .ok (.iload 8, 2) := by decide +kernel
theorem dX8_hidden_119 : decode cX8_hidden 119 = .ok (.iload_n 2, 1) := by decide +kernel
theorem dX8_hidden_120 : decode cX8_hidden 120 = .ok (.iload_n 1, 1) := by decide +kernel
theorem dX8_hidden_121 : decode cX8_hidden 121 = .ok (.iload_n 3, 1) := by decide +kernel
theorem dX8_hidden_122 : decode cX8_hidden 122 = .ok (.invokevirtual 324, 3) := by decide +kernel
theorem dX8_hidden_125 : decode cX8_hidden 125 = .ok (.ifCond .eq 22, 3) := by decide +kernel
theorem dX8_hidden_128 : decode cX8_hidden 128 = .ok (.iload 6, 2) := by decide +kernel
theorem dX8_hidden_130 : decode cX8_hidden 130 = .ok (.iload 4, 2) := by decide +kernel
theorem dX8_hidden_132 : decode cX8_hidden 132 = .ok (.if_icmp .ne 12, 3) := by decide +kernel
theorem dX8_hidden_135 : decode cX8_hidden 135 = .ok (.bipush 100, 2) := by decide +kernel
theorem dX8_hidden_137 : decode cX8_hidden 137 = .ok (.iload 7, 2) := by decide +kernel
theorem dX8_hidden_139 : decode cX8_hidden 139 = .ok (.imul, 1) := by decide +kernel
theorem dX8_hidden_140 : decode cX8_hidden 140 = .ok (.iload 8, 2) := by decide +kernel
theorem dX8_hidden_142 : decode cX8_hidden 142 = .ok (.iadd, 1) := by decide +kernel
theorem dX8_hidden_143 : decode cX8_hidden 143 = .ok (.ireturn, 1) := by decide +kernel
theorem dX8_hidden_144 : decode cX8_hidden 144 = .ok (.iinc 6 1, 3) := by decide +kernel
theorem dX8_hidden_147 : decode cX8_hidden 147 = .ok (.iinc 8 1, 3) := by decide +kernel
theorem dX8_hidden_150 : decode cX8_hidden 150 = .ok (.goto (-62), 3) := by decide +kernel
theorem dX8_hidden_153 : decode cX8_hidden 153 = .ok (.iinc 7 1, 3) := by decide +kernel
theorem dX8_hidden_156 : decode cX8_hidden 156 = .ok (.goto (-83), 3) := by decide +kernel
theorem dX8_hidden_159 : decode cX8_hidden 159 = .ok (.iload 4, 2) := by decide +kernel
theorem dX8_hidden_161 : decode cX8_hidden 161 = .ok (.iconst (-1), 1) := by decide +kernel
theorem dX8_hidden_162 : decode cX8_hidden 162 = .ok (.if_icmp .ne 8, 3) := by decide +kernel
theorem dX8_hidden_165 : decode cX8_hidden 165 = .ok (.iload 6, 2) := by decide +kernel
theorem dX8_hidden_167 : decode cX8_hidden 167 = .ok (.goto 4, 3) := by decide +kernel
theorem dX8_hidden_170 : decode cX8_hidden 170 = .ok (.iconst (-1), 1) := by decide +kernel
theorem dX8_hidden_171 : decode cX8_hidden 171 = .ok (.ireturn, 1) := by decide +kernel
theorem dX8_stood_0 : decode cX8_stood 0 = .ok (.aload_n 0, 1) := by decide +kernel
theorem dX8_stood_1 : decode cX8_stood 1 = .ok (.iload_n 1, 1) := by decide +kernel
theorem dX8_stood_2 : decode cX8_stood 2 = .ok (.invokevirtual 240, 3) := by decide +kernel
theorem dX8_stood_5 : decode cX8_stood 5 = .ok (.ifCond .ne 6, 3) := by decide +kernel
theorem dX8_stood_8 : decode cX8_stood 8 = .ok (.ldc 244, 2) := by decide +kernel
theorem dX8_stood_10 : decode cX8_stood 10 = .ok (.ireturn, 1) := by decide +kernel
theorem dX8_stood_11 : decode cX8_stood 11 = .ok (.iload_n 2, 1) := by decide +kernel
theorem dX8_stood_12 : decode cX8_stood 12 = .ok (.i2l, 1) := by decide +kernel
theorem dX8_stood_13 : decode cX8_stood 13 = .ok (.lconst 0, 1) := by decide +kernel
theorem dX8_stood_14 : decode cX8_stood 14 = .ok (.ldc2_w 328, 3) := by decide +kernel
theorem dX8_stood_17 : decode cX8_stood 17 = .ok (.invokestatic 91, 3) := by decide +kernel
theorem dX8_stood_20 : decode cX8_stood 20 = .ok (.ifCond .eq 15, 3) := by decide +kernel
theorem dX8_stood_23 : decode cX8_stood 23 = .ok (.iload_n 3, 1) := by decide +kernel
theorem dX8_stood_24 : decode cX8_stood 24 = .ok (.i2l, 1) := by decide +kernel
theorem dX8_stood_25 : decode cX8_stood 25 = .ok (.lconst 0, 1) := by decide +kernel
theorem dX8_stood_26 : decode cX8_stood 26 = .ok (.ldc2_w 291, 3) := by decide +kernel
theorem dX8_stood_29 : decode cX8_stood 29 = .ok (.invokestatic 91, 3) := by decide +kernel
theorem dX8_stood_32 : decode cX8_stood 32 = .ok (.ifCond .ne 6, 3) := by decide +kernel
theorem dX8_stood_35 : decode cX8_stood 35 = .ok (.ldc 95, 2) := by decide +kernel
theorem dX8_stood_37 : decode cX8_stood 37 = .ok (.ireturn, 1) := by decide +kernel
theorem dX8_stood_38 : decode cX8_stood 38 = .ok (.aload_n 0, 1) := by decide +kernel
theorem dX8_stood_39 : decode cX8_stood 39 = .ok (.getfield 168, 3) := by decide +kernel
theorem dX8_stood_42 : decode cX8_stood 42 = .ok (.bipush 12, 2) := by decide +kernel
theorem dX8_stood_44 : decode cX8_stood 44 = .ok (.if_icmp .ne 6, 3) := by decide +kernel
theorem dX8_stood_47 : decode cX8_stood 47 = .ok (.ldc 99, 2) := by decide +kernel
theorem dX8_stood_49 : decode cX8_stood 49 = .ok (.ireturn, 1) := by decide +kernel
theorem dX8_stood_50 : decode cX8_stood 50 = .ok (.aload_n 0, 1) := by decide +kernel
theorem dX8_stood_51 : decode cX8_stood 51 = .ok (.getfield 64, 3) := by decide +kernel
theorem dX8_stood_54 : decode cX8_stood 54 = .ok (.aload_n 0, 1) := by decide +kernel
theorem dX8_stood_55 : decode cX8_stood 55 = .ok (.getfield 168, 3) := by decide +kernel
theorem dX8_stood_58 : decode cX8_stood 58 = .ok (.iload_n 1, 1) := by decide +kernel
theorem dX8_stood_59 : decode cX8_stood 59 = .ok (.iastore, 1) := by decide +kernel
theorem dX8_stood_60 : decode cX8_stood 60 = .ok (.aload_n 0, 1) := by decide +kernel
theorem dX8_stood_61 : decode cX8_stood 61 = .ok (.getfield 67, 3) := by decide +kernel
theorem dX8_stood_64 : decode cX8_stood 64 = .ok (.aload_n 0, 1) := by decide +kernel
theorem dX8_stood_65 : decode cX8_stood 65 = .ok (.getfield 168, 3) := by decide +kernel
theorem dX8_stood_68 : decode cX8_stood 68 = .ok (.iload_n 2, 1) := by decide +kernel
theorem dX8_stood_69 : decode cX8_stood 69 = .ok (.iastore, 1) := by decide +kernel
theorem dX8_stood_70 : decode cX8_stood 70 = .ok (.aload_n 0, 1) := by decide +kernel
theorem dX8_stood_71 : decode cX8_stood 71 = .ok (.getfield 70, 3) := by decide +kernel
theorem dX8_stood_74 : decode cX8_stood 74 = .ok (.aload_n 0, 1) := by decide +kernel
theorem dX8_stood_75 : decode cX8_stood 75 = .ok (.getfield 168, 3) := by decide +kernel
theorem dX8_stood_78 : decode cX8_stood 78 = .ok (.iload_n 3, 1) := by decide +kernel
theorem dX8_stood_79 : decode cX8_stood 79 = .ok (.iastore, 1) := by decide +kernel
theorem dX8_stood_80 : decode cX8_stood 80 = .ok (.aload_n 0, 1) := by decide +kernel
theorem dX8_stood_81 : decode cX8_stood 81 = .ok (.dup, 1) := by decide +kernel
theorem dX8_stood_82 : decode cX8_stood 82 = .ok (.getfield 168, 3) := by decide +kernel
theorem dX8_stood_85 : decode cX8_stood 85 = .ok (.iconst 1, 1) := by decide +kernel
theorem dX8_stood_86 : decode cX8_stood 86 = .ok (.iadd, 1) := by decide +kernel
theorem dX8_stood_87 : decode cX8_stood 87 = .ok (.putfield 168, 3) := by decide +kernel
theorem dX8_stood_90 : decode cX8_stood 90 = .ok (.aload_n 0, 1) := by decide +kernel
theorem dX8_stood_91 : decode cX8_stood 91 = .ok (.getfield 168, 3) := by decide +kernel
theorem dX8_stood_94 : decode cX8_stood 94 = .ok (.ireturn, 1) := by decide +kernel
theorem dX8_placeBy_0 : decode cX8_placeBy 0 = .ok (.aload_n 0, 1) := by decide +kernel
theorem dX8_placeBy_1 : decode cX8_placeBy 1 = .ok (.iload_n 1, 1) := by decide +kernel
theorem dX8_placeBy_2 : decode cX8_placeBy 2 = .ok (.lconst 0, 1) := by decide +kernel
theorem dX8_placeBy_3 : decode cX8_placeBy 3 = .ok (.invokevirtual 227, 3) := by decide +kernel
theorem dX8_placeBy_6 : decode cX8_placeBy 6 = .ok (.iload_n 2, 1) := by decide +kernel
theorem dX8_placeBy_7 : decode cX8_placeBy 7 = .ok (.irem, 1) := by decide +kernel
theorem dX8_placeBy_8 : decode cX8_placeBy 8 = .ok (.i2l, 1) := by decide +kernel
theorem dX8_placeBy_9 : decode cX8_placeBy 9 = .ok (.aload_n 0, 1) := by decide +kernel
theorem dX8_placeBy_10 : decode cX8_placeBy 10 = .ok (.getfield 51, 3) := by decide +kernel
theorem dX8_placeBy_13 : decode cX8_placeBy 13 = .ok (.iload_n 1, 1) := by decide +kernel
theorem dX8_placeBy_14 : decode cX8_placeBy 14 = .ok (.laload, 1) := by decide +kernel
theorem dX8_placeBy_15 : decode cX8_placeBy 15 = .ok (.iload_n 3, 1) := by decide +kernel
theorem dX8_placeBy_16 : decode cX8_placeBy 16 = .ok (.i2l, 1) := by decide +kernel
theorem dX8_placeBy_17 : decode cX8_placeBy 17 = .ok (.lmul, 1) := by decide +kernel
theorem dX8_placeBy_18 : decode cX8_placeBy 18 = .ok (.aload_n 0, 1) := by decide +kernel
theorem dX8_placeBy_19 : decode cX8_placeBy 19 = .ok (.getfield 55, 3) := by decide +kernel
theorem dX8_placeBy_22 : decode cX8_placeBy 22 = .ok (.iload_n 1, 1) := by decide +kernel
theorem dX8_placeBy_23 : decode cX8_placeBy 23 = .ok (.laload, 1) := by decide +kernel
theorem dX8_placeBy_24 : decode cX8_placeBy 24 = .ok (.invokestatic 220, 3) := by decide +kernel
theorem dX8_placeBy_27 : decode cX8_placeBy 27 = .ok (.ladd, 1) := by decide +kernel
theorem dX8_placeBy_28 : decode cX8_placeBy 28 = .ok (.iload_n 2, 1) := by decide +kernel
theorem dX8_placeBy_29 : decode cX8_placeBy 29 = .ok (.invokestatic 223, 3) := by decide +kernel
theorem dX8_placeBy_32 : decode cX8_placeBy 32 = .ok (.ireturn, 1) := by decide +kernel
theorem dX8_mayHave_0 : decode cX8_mayHave 0 = .ok (.iconst 1, 1) := by decide +kernel
theorem dX8_mayHave_1 : decode cX8_mayHave 1 = .ok (.istore_n 3, 1) := by decide +kernel
theorem dX8_mayHave_2 : decode cX8_mayHave 2 = .ok (.iconst 0, 1) := by decide +kernel
theorem dX8_mayHave_3 : decode cX8_mayHave 3 = .ok (.istore 4, 2) := by decide +kernel
theorem dX8_mayHave_5 : decode cX8_mayHave 5 = .ok (.iload 4, 2) := by decide +kernel
theorem dX8_mayHave_7 : decode cX8_mayHave 7 = .ok (.aload_n 0, 1) := by decide +kernel
theorem dX8_mayHave_8 : decode cX8_mayHave 8 = .ok (.getfield 168, 3) := by decide +kernel
theorem dX8_mayHave_11 : decode cX8_mayHave 11 = .ok (.if_icmp .ge 53, 3) := by decide +kernel
theorem dX8_mayHave_14 : decode cX8_mayHave 14 = .ok (.iload_n 3, 1) := by decide +kernel
theorem dX8_mayHave_15 : decode cX8_mayHave 15 = .ok (.ifCond .eq 49, 3) := by decide +kernel
theorem dX8_mayHave_18 : decode cX8_mayHave 18 = .ok (.aload_n 0, 1) := by decide +kernel
theorem dX8_mayHave_19 : decode cX8_mayHave 19 = .ok (.getfield 64, 3) := by decide +kernel
theorem dX8_mayHave_22 : decode cX8_mayHave 22 = .ok (.iload 4, 2) := by decide +kernel
theorem dX8_mayHave_24 : decode cX8_mayHave 24 = .ok (.iaload, 1) := by decide +kernel
theorem dX8_mayHave_25 : decode cX8_mayHave 25 = .ok (.iload_n 1, 1) := by decide +kernel
theorem dX8_mayHave_26 : decode cX8_mayHave 26 = .ok (.if_icmp .ne 26, 3) := by decide +kernel
theorem dX8_mayHave_29 : decode cX8_mayHave 29 = .ok (.aload_n 0, 1) := by decide +kernel
theorem dX8_mayHave_30 : decode cX8_mayHave 30 = .ok (.iload_n 1, 1) := by decide +kernel
theorem dX8_mayHave_31 : decode cX8_mayHave 31 = .ok (.iload_n 2, 1) := by decide +kernel
theorem dX8_mayHave_32 : decode cX8_mayHave 32 = .ok (.aload_n 0, 1) := by decide +kernel
theorem dX8_mayHave_33 : decode cX8_mayHave 33 = .ok (.getfield 67, 3) := by decide +kernel
theorem dX8_mayHave_36 : decode cX8_mayHave 36 = .ok (.iload 4, 2) := by decide +kernel
theorem dX8_mayHave_38 : decode cX8_mayHave 38 = .ok (.iaload, 1) := by decide +kernel
theorem dX8_mayHave_39 : decode cX8_mayHave 39 = .ok (.invokevirtual 330, 3) := by decide +kernel
theorem dX8_mayHave_42 : decode cX8_mayHave 42 = .ok (.aload_n 0, 1) := by decide +kernel
theorem dX8_mayHave_43 : decode cX8_mayHave 43 = .ok (.getfield 70, 3) := by decide +kernel
theorem dX8_mayHave_46 : decode cX8_mayHave 46 = .ok (.iload 4, 2) := by decide +kernel
theorem dX8_mayHave_48 : decode cX8_mayHave 48 = .ok (.iaload, 1) := by decide +kernel
theorem dX8_mayHave_49 : decode cX8_mayHave 49 = .ok (.if_icmp .ne 7, 3) := by decide +kernel
theorem dX8_mayHave_52 : decode cX8_mayHave 52 = .ok (.iconst 1, 1) := by decide +kernel
theorem dX8_mayHave_53 : decode cX8_mayHave 53 = .ok (.goto 4, 3) := by decide +kernel
theorem dX8_mayHave_56 : decode cX8_mayHave 56 = .ok (.iconst 0, 1) := by decide +kernel
theorem dX8_mayHave_57 : decode cX8_mayHave 57 = .ok (.istore_n 3, 1) := by decide +kernel
theorem dX8_mayHave_58 : decode cX8_mayHave 58 = .ok (.iinc 4 1, 3) := by decide +kernel
theorem dX8_mayHave_61 : decode cX8_mayHave 61 = .ok (.goto (-56), 3) := by decide +kernel
theorem dX8_mayHave_64 : decode cX8_mayHave 64 = .ok (.iload_n 3, 1) := by decide +kernel
theorem dX8_mayHave_65 : decode cX8_mayHave 65 = .ok (.ireturn, 1) := by decide +kernel
theorem dX8_teeth_0 : decode cX8_teeth 0 = .ok (.aload_n 0, 1) := by decide +kernel
theorem dX8_teeth_1 : decode cX8_teeth 1 = .ok (.iload_n 1, 1) := by decide +kernel
theorem dX8_teeth_2 : decode cX8_teeth 2 = .ok (.invokevirtual 240, 3) := by decide +kernel
theorem dX8_teeth_5 : decode cX8_teeth 5 = .ok (.ifCond .ne 6, 3) := by decide +kernel
theorem dX8_teeth_8 : decode cX8_teeth 8 = .ok (.ldc 244, 2) := by decide +kernel
theorem dX8_teeth_10 : decode cX8_teeth 10 = .ok (.ireturn, 1) := by decide +kernel
theorem dX8_teeth_11 : decode cX8_teeth 11 = .ok (.aload_n 0, 1) := by decide +kernel
theorem dX8_teeth_12 : decode cX8_teeth 12 = .ok (.invokevirtual 231, 3) := by decide +kernel
theorem dX8_teeth_15 : decode cX8_teeth 15 = .ok (.iconst 0, 1) := by decide +kernel
theorem dX8_teeth_16 : decode cX8_teeth 16 = .ok (.istore_n 3, 1) := by decide +kernel
theorem dX8_teeth_17 : decode cX8_teeth 17 = .ok (.iconst 3, 1) := by decide +kernel
theorem dX8_teeth_18 : decode cX8_teeth 18 = .ok (.istore 4, 2) := by decide +kernel
theorem dX8_teeth_20 : decode cX8_teeth 20 = .ok (.iload 4, 2) := by decide +kernel
theorem dX8_teeth_22 : decode cX8_teeth 22 = .ok (.bipush 31, 2) := by decide +kernel
theorem dX8_teeth_24 : decode cX8_teeth 24 = .ok (.if_icmp .ge 30, 3) := by decide +kernel
theorem dX8_teeth_27 : decode cX8_teeth 27 = .ok (.aload_n 0, 1) := by decide +kernel
theorem dX8_teeth_28 : decode cX8_teeth 28 = .ok (.iload_n 1, 1) := by decide +kernel
theorem dX8_teeth_29 : decode cX8_teeth 29 = .ok (.iload 4, 2) := by decide +kernel
theorem dX8_teeth_31 : decode cX8_teeth 31 = .ok (.invokevirtual 334, 3) := by decide +kernel
theorem dX8_teeth_34 : decode cX8_teeth 34 = .ok (.ifCond .eq 14, 3) := by decide +kernel
theorem dX8_teeth_37 : decode cX8_teeth 37 = .ok (.iload_n 3, 1) := by decide +kernel
theorem dX8_teeth_38 : decode cX8_teeth 38 = .ok (.iload_n 2, 1) := by decide +kernel
theorem dX8_teeth_39 : decode cX8_teeth 39 = .ok (.if_icmp .ne 6, 3) := by decide +kernel
theorem dX8_teeth_42 : decode cX8_teeth 42 = .ok (.iload 4, 2) := by decide +kernel
theorem dX8_teeth_44 : decode cX8_teeth 44 = .ok (.ireturn, 1) := by decide +kernel
theorem dX8_teeth_45 : decode cX8_teeth 45 = .ok (.iinc 3 1, 3) := by decide +kernel
theorem dX8_teeth_48 : decode cX8_teeth 48 = .ok (.iinc 4 1, 3) := by decide +kernel
theorem dX8_teeth_51 : decode cX8_teeth 51 = .ok (.goto (-31), 3) := by decide +kernel
theorem dX8_teeth_54 : decode cX8_teeth 54 = .ok (.iload_n 2, 1) := by decide +kernel
theorem dX8_teeth_55 : decode cX8_teeth 55 = .ok (.iconst (-1), 1) := by decide +kernel
theorem dX8_teeth_56 : decode cX8_teeth 56 = .ok (.if_icmp .ne 7, 3) := by decide +kernel
theorem dX8_teeth_59 : decode cX8_teeth 59 = .ok (.iload_n 3, 1) := by decide +kernel
theorem dX8_teeth_60 : decode cX8_teeth 60 = .ok (.goto 4, 3) := by decide +kernel
theorem dX8_teeth_63 : decode cX8_teeth 63 = .ok (.iconst (-1), 1) := by decide +kernel
theorem dX8_teeth_64 : decode cX8_teeth 64 = .ok (.ireturn, 1) := by decide +kernel
theorem dX8_look_0 : decode cX8_look 0 = .ok (.aload_n 0, 1) := by decide +kernel
theorem dX8_look_1 : decode cX8_look 1 = .ok (.iload_n 1, 1) := by decide +kernel
theorem dX8_look_2 : decode cX8_look 2 = .ok (.invokevirtual 240, 3) := by decide +kernel
theorem dX8_look_5 : decode cX8_look 5 = .ok (.ifCond .ne 6, 3) := by decide +kernel
theorem dX8_look_8 : decode cX8_look 8 = .ok (.ldc 244, 2) := by decide +kernel
theorem dX8_look_10 : decode cX8_look 10 = .ok (.ireturn, 1) := by decide +kernel
theorem dX8_look_11 : decode cX8_look 11 = .ok (.iconst (-1), 1) := by decide +kernel
theorem dX8_look_12 : decode cX8_look 12 = .ok (.istore_n 2, 1) := by decide +kernel
theorem dX8_look_13 : decode cX8_look 13 = .ok (.aload_n 0, 1) := by decide +kernel
theorem dX8_look_14 : decode cX8_look 14 = .ok (.iload_n 1, 1) := by decide +kernel
theorem dX8_look_15 : decode cX8_look 15 = .ok (.iconst (-1), 1) := by decide +kernel
theorem dX8_look_16 : decode cX8_look 16 = .ok (.invokevirtual 337, 3) := by decide +kernel
theorem dX8_look_19 : decode cX8_look 19 = .ok (.istore_n 3, 1) := by decide +kernel
theorem dX8_look_20 : decode cX8_look 20 = .ok (.iconst 1, 1) := by decide +kernel
theorem dX8_look_21 : decode cX8_look 21 = .ok (.istore 4, 2) := by decide +kernel
theorem dX8_look_23 : decode cX8_look 23 = .ok (.iload 4, 2) := by decide +kernel
theorem dX8_look_25 : decode cX8_look 25 = .ok (.bipush 31, 2) := by decide +kernel
theorem dX8_look_27 : decode cX8_look 27 = .ok (.if_icmp .ge 122, 3) := by decide +kernel
theorem dX8_look_30 : decode cX8_look 30 = .ok (.iconst 0, 1) := by decide +kernel
theorem dX8_look_31 : decode cX8_look 31 = .ok (.istore 5, 2) := by decide +kernel
theorem dX8_look_33 : decode cX8_look 33 = .ok (.iconst 0, 1) := by decide +kernel
theorem dX8_look_34 : decode cX8_look 34 = .ok (.istore 6, 2) := by decide +kernel
theorem dX8_look_36 : decode cX8_look 36 = .ok (.iload 6, 2) := by decide +kernel
theorem dX8_look_38 : decode cX8_look 38 = .ok (.bipush 30, 2) := by decide +kernel
theorem dX8_look_40 : decode cX8_look 40 = .ok (.if_icmp .ge 17, 3) := by decide +kernel
theorem dX8_look_43 : decode cX8_look 43 = .ok (.aload_n 0, 1) := by decide +kernel
theorem dX8_look_44 : decode cX8_look 44 = .ok (.getfield 73, 3) := by decide +kernel
theorem dX8_look_47 : decode cX8_look 47 = .ok (.iload 6, 2) := by decide +kernel
theorem dX8_look_49 : decode cX8_look 49 = .ok (.iconst 0, 1) := by decide +kernel
theorem dX8_look_50 : decode cX8_look 50 = .ok (.iastore, 1) := by decide +kernel
theorem dX8_look_51 : decode cX8_look 51 = .ok (.iinc 6 1, 3) := by decide +kernel
theorem dX8_look_54 : decode cX8_look 54 = .ok (.goto (-18), 3) := by decide +kernel
theorem dX8_look_57 : decode cX8_look 57 = .ok (.iconst 3, 1) := by decide +kernel
theorem dX8_look_58 : decode cX8_look 58 = .ok (.istore 6, 2) := by decide +kernel
theorem dX8_look_60 : decode cX8_look 60 = .ok (.iload 6, 2) := by decide +kernel
theorem dX8_look_62 : decode cX8_look 62 = .ok (.bipush 31, 2) := by decide +kernel
theorem dX8_look_64 : decode cX8_look 64 = .ok (.if_icmp .ge 67, 3) := by decide +kernel
theorem dX8_look_67 : decode cX8_look 67 = .ok (.aload_n 0, 1) := by decide +kernel
theorem dX8_look_68 : decode cX8_look 68 = .ok (.iload_n 1, 1) := by decide +kernel
theorem dX8_look_69 : decode cX8_look 69 = .ok (.iload 6, 2) := by decide +kernel
theorem dX8_look_71 : decode cX8_look 71 = .ok (.invokevirtual 334, 3) := by decide +kernel
theorem dX8_look_74 : decode cX8_look 74 = .ok (.ifCond .eq 51, 3) := by decide +kernel
theorem dX8_look_77 : decode cX8_look 77 = .ok (.aload_n 0, 1) := by decide +kernel
theorem dX8_look_78 : decode cX8_look 78 = .ok (.iload_n 1, 1) := by decide +kernel
theorem dX8_look_79 : decode cX8_look 79 = .ok (.iload 6, 2) := by decide +kernel
theorem dX8_look_81 : decode cX8_look 81 = .ok (.iload 4, 2) := by decide +kernel
theorem dX8_look_83 : decode cX8_look 83 = .ok (.invokevirtual 330, 3) := by decide +kernel
theorem dX8_look_86 : decode cX8_look 86 = .ok (.istore 7, 2) := by decide +kernel
theorem dX8_look_88 : decode cX8_look 88 = .ok (.aload_n 0, 1) := by decide +kernel
theorem dX8_look_89 : decode cX8_look 89 = .ok (.getfield 73, 3) := by decide +kernel
theorem dX8_look_92 : decode cX8_look 92 = .ok (.iload 7, 2) := by decide +kernel
theorem dX8_look_94 : decode cX8_look 94 = .ok (.dup2, 1) := by decide +kernel
theorem dX8_look_95 : decode cX8_look 95 = .ok (.iaload, 1) := by decide +kernel
theorem dX8_look_96 : decode cX8_look 96 = .ok (.iconst 1, 1) := by decide +kernel
theorem dX8_look_97 : decode cX8_look 97 = .ok (.iadd, 1) := by decide +kernel
theorem dX8_look_98 : decode cX8_look 98 = .ok (.iastore, 1) := by decide +kernel
theorem dX8_look_99 : decode cX8_look 99 = .ok (.aload_n 0, 1) := by decide +kernel
theorem dX8_look_100 : decode cX8_look 100 = .ok (.getfield 73, 3) := by decide +kernel
theorem dX8_look_103 : decode cX8_look 103 = .ok (.iload 7, 2) := by decide +kernel
theorem dX8_look_105 : decode cX8_look 105 = .ok (.iaload, 1) := by decide +kernel
theorem dX8_look_106 : decode cX8_look 106 = .ok (.iload 5, 2) := by decide +kernel
theorem dX8_look_108 : decode cX8_look 108 = .ok (.if_icmp .le 13, 3) := by decide +kernel
theorem dX8_look_111 : decode cX8_look 111 = .ok (.aload_n 0, 1) := by decide +kernel
theorem dX8_look_112 : decode cX8_look 112 = .ok (.getfield 73, 3) := by decide +kernel
theorem dX8_look_115 : decode cX8_look 115 = .ok (.iload 7, 2) := by decide +kernel
theorem dX8_look_117 : decode cX8_look 117 = .ok (.iaload, 1) := by decide +kernel
theorem dX8_look_118 : decode cX8_look 118 = .ok (.goto 5, 3) := by decide +kernel
theorem dX8_look_121 : decode cX8_look 121 = .ok (.iload 5, 2) := by decide +kernel
theorem dX8_look_123 : decode cX8_look 123 = .ok (.istore 5, 2) := by decide +kernel
theorem dX8_look_125 : decode cX8_look 125 = .ok (.iinc 6 1, 3) := by decide +kernel
theorem dX8_look_128 : decode cX8_look 128 = .ok (.goto (-68), 3) := by decide +kernel
theorem dX8_look_131 : decode cX8_look 131 = .ok (.iload 5, 2) := by decide +kernel
theorem dX8_look_133 : decode cX8_look 133 = .ok (.iload_n 3, 1) := by decide +kernel
theorem dX8_look_134 : decode cX8_look 134 = .ok (.if_icmp .ge 9, 3) := by decide +kernel
theorem dX8_look_137 : decode cX8_look 137 = .ok (.iload 4, 2) := by decide +kernel
theorem dX8_look_139 : decode cX8_look 139 = .ok (.istore_n 2, 1) := by decide +kernel
theorem dX8_look_140 : decode cX8_look 140 = .ok (.iload 5, 2) := by decide +kernel
theorem dX8_look_142 : decode cX8_look 142 = .ok (.istore_n 3, 1) := by decide +kernel
theorem dX8_look_143 : decode cX8_look 143 = .ok (.iinc 4 1, 3) := by decide +kernel
theorem dX8_look_146 : decode cX8_look 146 = .ok (.goto (-123), 3) := by decide +kernel
theorem dX8_look_149 : decode cX8_look 149 = .ok (.iload_n 2, 1) := by decide +kernel
theorem dX8_look_150 : decode cX8_look 150 = .ok (.ireturn, 1) := by decide +kernel
theorem dX8_write_0 : decode cX8_write 0 = .ok (.aload_n 0, 1) := by decide +kernel
theorem dX8_write_1 : decode cX8_write 1 = .ok (.iload_n 1, 1) := by decide +kernel
theorem dX8_write_2 : decode cX8_write 2 = .ok (.invokevirtual 240, 3) := by decide +kernel
theorem dX8_write_5 : decode cX8_write 5 = .ok (.ifCond .ne 6, 3) := by decide +kernel
theorem dX8_write_8 : decode cX8_write 8 = .ok (.ldc 244, 2) := by decide +kernel
theorem dX8_write_10 : decode cX8_write 10 = .ok (.ireturn, 1) := by decide +kernel
theorem dX8_write_11 : decode cX8_write 11 = .ok (.iload_n 2, 1) := by decide +kernel
theorem dX8_write_12 : decode cX8_write 12 = .ok (.i2l, 1) := by decide +kernel
theorem dX8_write_13 : decode cX8_write 13 = .ok (.lconst 0, 1) := by decide +kernel
theorem dX8_write_14 : decode cX8_write 14 = .ok (.ldc2_w 251, 3) := by decide +kernel
theorem dX8_write_17 : decode cX8_write 17 = .ok (.invokestatic 91, 3) := by decide +kernel
theorem dX8_write_20 : decode cX8_write 20 = .ok (.ifCond .eq 15, 3) := by decide +kernel
theorem dX8_write_23 : decode cX8_write 23 = .ok (.iload_n 3, 1) := by decide +kernel
theorem dX8_write_24 : decode cX8_write 24 = .ok (.i2l, 1) := by decide +kernel
theorem dX8_write_25 : decode cX8_write 25 = .ok (.lconst 0, 1) := by decide +kernel
theorem dX8_write_26 : decode cX8_write 26 = .ok (.ldc2_w 291, 3) := by decide +kernel
theorem dX8_write_29 : decode cX8_write 29 = .ok (.invokestatic 91, 3) := by decide +kernel
theorem dX8_write_32 : decode cX8_write 32 = .ok (.ifCond .ne 6, 3) := by decide +kernel
theorem dX8_write_35 : decode cX8_write 35 = .ok (.ldc 95, 2) := by decide +kernel
theorem dX8_write_37 : decode cX8_write 37 = .ok (.ireturn, 1) := by decide +kernel
theorem dX8_write_38 : decode cX8_write 38 = .ok (.aload_n 0, 1) := by decide +kernel
theorem dX8_write_39 : decode cX8_write 39 = .ok (.getfield 171, 3) := by decide +kernel
theorem dX8_write_42 : decode cX8_write 42 = .ok (.bipush 15, 2) := by decide +kernel
theorem dX8_write_44 : decode cX8_write 44 = .ok (.if_icmp .ne 6, 3) := by decide +kernel
theorem dX8_write_47 : decode cX8_write 47 = .ok (.ldc 99, 2) := by decide +kernel
theorem dX8_write_49 : decode cX8_write 49 = .ok (.ireturn, 1) := by decide +kernel
theorem dX8_write_50 : decode cX8_write 50 = .ok (.aload_n 0, 1) := by decide +kernel
theorem dX8_write_51 : decode cX8_write 51 = .ok (.getfield 76, 3) := by decide +kernel
theorem dX8_write_54 : decode cX8_write 54 = .ok (.aload_n 0, 1) := by decide +kernel
theorem dX8_write_55 : decode cX8_write 55 = .ok (.getfield 171, 3) := by decide +kernel
theorem dX8_write_58 : decode cX8_write 58 = .ok (.iload_n 1, 1) := by decide +kernel
theorem dX8_write_59 : decode cX8_write 59 = .ok (.iastore, 1) := by decide +kernel
theorem dX8_write_60 : decode cX8_write 60 = .ok (.aload_n 0, 1) := by decide +kernel
theorem dX8_write_61 : decode cX8_write 61 = .ok (.getfield 79, 3) := by decide +kernel
theorem dX8_write_64 : decode cX8_write 64 = .ok (.aload_n 0, 1) := by decide +kernel
theorem dX8_write_65 : decode cX8_write 65 = .ok (.getfield 171, 3) := by decide +kernel
theorem dX8_write_68 : decode cX8_write 68 = .ok (.iload_n 2, 1) := by decide +kernel
theorem dX8_write_69 : decode cX8_write 69 = .ok (.iastore, 1) := by decide +kernel
theorem dX8_write_70 : decode cX8_write 70 = .ok (.aload_n 0, 1) := by decide +kernel
theorem dX8_write_71 : decode cX8_write 71 = .ok (.getfield 82, 3) := by decide +kernel
theorem dX8_write_74 : decode cX8_write 74 = .ok (.aload_n 0, 1) := by decide +kernel
theorem dX8_write_75 : decode cX8_write 75 = .ok (.getfield 171, 3) := by decide +kernel
theorem dX8_write_78 : decode cX8_write 78 = .ok (.iload_n 3, 1) := by decide +kernel
theorem dX8_write_79 : decode cX8_write 79 = .ok (.iastore, 1) := by decide +kernel
theorem dX8_write_80 : decode cX8_write 80 = .ok (.aload_n 0, 1) := by decide +kernel
theorem dX8_write_81 : decode cX8_write 81 = .ok (.dup, 1) := by decide +kernel
theorem dX8_write_82 : decode cX8_write 82 = .ok (.getfield 171, 3) := by decide +kernel
theorem dX8_write_85 : decode cX8_write 85 = .ok (.iconst 1, 1) := by decide +kernel
theorem dX8_write_86 : decode cX8_write 86 = .ok (.iadd, 1) := by decide +kernel
theorem dX8_write_87 : decode cX8_write 87 = .ok (.putfield 171, 3) := by decide +kernel
theorem dX8_write_90 : decode cX8_write 90 = .ok (.aload_n 0, 1) := by decide +kernel
theorem dX8_write_91 : decode cX8_write 91 = .ok (.getfield 171, 3) := by decide +kernel
theorem dX8_write_94 : decode cX8_write 94 = .ok (.ireturn, 1) := by decide +kernel
theorem dX8_judge_0 : decode cX8_judge 0 = .ok (.aload_n 0, 1) := by decide +kernel
theorem dX8_judge_1 : decode cX8_judge 1 = .ok (.invokevirtual 231, 3) := by decide +kernel
theorem dX8_judge_4 : decode cX8_judge 4 = .ok (.iconst 0, 1) := by decide +kernel
theorem dX8_judge_5 : decode cX8_judge 5 = .ok (.istore_n 1, 1) := by decide +kernel
theorem dX8_judge_6 : decode cX8_judge 6 = .ok (.iload_n 1, 1) := by decide +kernel
theorem dX8_judge_7 : decode cX8_judge 7 = .ok (.aload_n 0, 1) := by decide +kernel
theorem dX8_judge_8 : decode cX8_judge 8 = .ok (.getfield 171, 3) := by decide +kernel
theorem dX8_judge_11 : decode cX8_judge 11 = .ok (.if_icmp .ge 37, 3) := by decide +kernel
theorem dX8_judge_14 : decode cX8_judge 14 = .ok (.aload_n 0, 1) := by decide +kernel
theorem dX8_judge_15 : decode cX8_judge 15 = .ok (.aload_n 0, 1) := by decide +kernel
theorem dX8_judge_16 : decode cX8_judge 16 = .ok (.getfield 76, 3) := by decide +kernel
theorem dX8_judge_19 : decode cX8_judge 19 = .ok (.iload_n 1, 1) := by decide +kernel
theorem dX8_judge_20 : decode cX8_judge 20 = .ok (.iaload, 1) := by decide +kernel
theorem dX8_judge_21 : decode cX8_judge 21 = .ok (.aload_n 0, 1) := by decide +kernel
theorem dX8_judge_22 : decode cX8_judge 22 = .ok (.getfield 79, 3) := by decide +kernel
theorem dX8_judge_25 : decode cX8_judge 25 = .ok (.iload_n 1, 1) := by decide +kernel
theorem dX8_judge_26 : decode cX8_judge 26 = .ok (.iaload, 1) := by decide +kernel
theorem dX8_judge_27 : decode cX8_judge 27 = .ok (.i2l, 1) := by decide +kernel
theorem dX8_judge_28 : decode cX8_judge 28 = .ok (.invokevirtual 227, 3) := by decide +kernel
theorem dX8_judge_31 : decode cX8_judge 31 = .ok (.aload_n 0, 1) := by decide +kernel
theorem dX8_judge_32 : decode cX8_judge 32 = .ok (.getfield 82, 3) := by decide +kernel
theorem dX8_judge_35 : decode cX8_judge 35 = .ok (.iload_n 1, 1) := by decide +kernel
theorem dX8_judge_36 : decode cX8_judge 36 = .ok (.iaload, 1) := by decide +kernel
theorem dX8_judge_37 : decode cX8_judge 37 = .ok (.if_icmp .eq 5, 3) := by decide +kernel
theorem dX8_judge_40 : decode cX8_judge 40 = .ok (.iload_n 1, 1) := by decide +kernel
theorem dX8_judge_41 : decode cX8_judge 41 = .ok (.ireturn, 1) := by decide +kernel
theorem dX8_judge_42 : decode cX8_judge 42 = .ok (.iinc 1 1, 3) := by decide +kernel
theorem dX8_judge_45 : decode cX8_judge 45 = .ok (.goto (-39), 3) := by decide +kernel
theorem dX8_judge_48 : decode cX8_judge 48 = .ok (.iconst (-1), 1) := by decide +kernel
theorem dX8_judge_49 : decode cX8_judge 49 = .ok (.ireturn, 1) := by decide +kernel
theorem dX8_tear_0 : decode cX8_tear 0 = .ok (.aload_n 0, 1) := by decide +kernel
theorem dX8_tear_1 : decode cX8_tear 1 = .ok (.getfield 168, 3) := by decide +kernel
theorem dX8_tear_4 : decode cX8_tear 4 = .ok (.aload_n 0, 1) := by decide +kernel
theorem dX8_tear_5 : decode cX8_tear 5 = .ok (.getfield 171, 3) := by decide +kernel
theorem dX8_tear_8 : decode cX8_tear 8 = .ok (.iadd, 1) := by decide +kernel
theorem dX8_tear_9 : decode cX8_tear 9 = .ok (.istore_n 1, 1) := by decide +kernel
theorem dX8_tear_10 : decode cX8_tear 10 = .ok (.aload_n 0, 1) := by decide +kernel
theorem dX8_tear_11 : decode cX8_tear 11 = .ok (.iconst 0, 1) := by decide +kernel
theorem dX8_tear_12 : decode cX8_tear 12 = .ok (.putfield 168, 3) := by decide +kernel
theorem dX8_tear_15 : decode cX8_tear 15 = .ok (.aload_n 0, 1) := by decide +kernel
theorem dX8_tear_16 : decode cX8_tear 16 = .ok (.iconst 0, 1) := by decide +kernel
theorem dX8_tear_17 : decode cX8_tear 17 = .ok (.putfield 171, 3) := by decide +kernel
theorem dX8_tear_20 : decode cX8_tear 20 = .ok (.iload_n 1, 1) := by decide +kernel
theorem dX8_tear_21 : decode cX8_tear 21 = .ok (.ireturn, 1) := by decide +kernel
theorem dX8_seed_0 : decode cX8_seed 0 = .ok (.iload_n 1, 1) := by decide +kernel
theorem dX8_seed_1 : decode cX8_seed 1 = .ok (.ifCond .ge 6, 3) := by decide +kernel
theorem dX8_seed_4 : decode cX8_seed 4 = .ok (.ldc 95, 2) := by decide +kernel
theorem dX8_seed_6 : decode cX8_seed 6 = .ok (.ireturn, 1) := by decide +kernel
theorem dX8_seed_7 : decode cX8_seed 7 = .ok (.aload_n 0, 1) := by decide +kernel
theorem dX8_seed_8 : decode cX8_seed 8 = .ok (.getfield 7, 3) := by decide +kernel
theorem dX8_seed_11 : decode cX8_seed 11 = .ok (.bipush 11, 2) := by decide +kernel
theorem dX8_seed_13 : decode cX8_seed 13 = .ok (.iaload, 1) := by decide +kernel
theorem dX8_seed_14 : decode cX8_seed 14 = .ok (.istore_n 2, 1) := by decide +kernel
theorem dX8_seed_15 : decode cX8_seed 15 = .ok (.aload_n 0, 1) := by decide +kernel
theorem dX8_seed_16 : decode cX8_seed 16 = .ok (.getfield 7, 3) := by decide +kernel
theorem dX8_seed_19 : decode cX8_seed 19 = .ok (.bipush 11, 2) := by decide +kernel
theorem dX8_seed_21 : decode cX8_seed 21 = .ok (.iload_n 1, 1) := by decide +kernel
theorem dX8_seed_22 : decode cX8_seed 22 = .ok (.iastore, 1) := by decide +kernel
theorem dX8_seed_23 : decode cX8_seed 23 = .ok (.iload_n 2, 1) := by decide +kernel
theorem dX8_seed_24 : decode cX8_seed 24 = .ok (.ireturn, 1) := by decide +kernel
theorem dX8_keep_0 : decode cX8_keep 0 = .ok (.iload_n 1, 1) := by decide +kernel
theorem dX8_keep_1 : decode cX8_keep 1 = .ok (.i2l, 1) := by decide +kernel
theorem dX8_keep_2 : decode cX8_keep 2 = .ok (.lconst 0, 1) := by decide +kernel
theorem dX8_keep_3 : decode cX8_keep 3 = .ok (.lconst 1, 1) := by decide +kernel
theorem dX8_keep_4 : decode cX8_keep 4 = .ok (.invokestatic 91, 3) := by decide +kernel
theorem dX8_keep_7 : decode cX8_keep 7 = .ok (.ifCond .ne 6, 3) := by decide +kernel
theorem dX8_keep_10 : decode cX8_keep 10 = .ok (.ldc 244, 2) := by decide +kernel
theorem dX8_keep_12 : decode cX8_keep 12 = .ok (.ireturn, 1) := by decide +kernel
theorem dX8_keep_13 : decode cX8_keep 13 = .ok (.aload_n 0, 1) := by decide +kernel
theorem dX8_keep_14 : decode cX8_keep 14 = .ok (.iconst 0, 1) := by decide +kernel
theorem dX8_keep_15 : decode cX8_keep 15 = .ok (.bipush 12, 2) := by decide +kernel
theorem dX8_keep_17 : decode cX8_keep 17 = .ok (.bipush 12, 2) := by decide +kernel
theorem dX8_keep_19 : decode cX8_keep 19 = .ok (.iload_n 1, 1) := by decide +kernel
theorem dX8_keep_20 : decode cX8_keep 20 = .ok (.imul, 1) := by decide +kernel
theorem dX8_keep_21 : decode cX8_keep 21 = .ok (.iadd, 1) := by decide +kernel
theorem dX8_keep_22 : decode cX8_keep 22 = .ok (.invokevirtual 253, 3) := by decide +kernel
theorem dX8_keep_25 : decode cX8_keep 25 = .ok (.aload_n 0, 1) := by decide +kernel
theorem dX8_keep_26 : decode cX8_keep 26 = .ok (.getfield 13, 3) := by decide +kernel
theorem dX8_keep_29 : decode cX8_keep 29 = .ok (.iload_n 1, 1) := by decide +kernel
theorem dX8_keep_30 : decode cX8_keep 30 = .ok (.iconst 1, 1) := by decide +kernel
theorem dX8_keep_31 : decode cX8_keep 31 = .ok (.bastore, 1) := by decide +kernel
theorem dX8_keep_32 : decode cX8_keep 32 = .ok (.aload_n 0, 1) := by decide +kernel
theorem dX8_keep_33 : decode cX8_keep 33 = .ok (.iconst 0, 1) := by decide +kernel
theorem dX8_keep_34 : decode cX8_keep 34 = .ok (.putfield 174, 3) := by decide +kernel
theorem dX8_keep_37 : decode cX8_keep 37 = .ok (.iconst 1, 1) := by decide +kernel
theorem dX8_keep_38 : decode cX8_keep 38 = .ok (.ireturn, 1) := by decide +kernel
theorem dX8_goBack_0 : decode cX8_goBack 0 = .ok (.iload_n 1, 1) := by decide +kernel
theorem dX8_goBack_1 : decode cX8_goBack 1 = .ok (.i2l, 1) := by decide +kernel
theorem dX8_goBack_2 : decode cX8_goBack 2 = .ok (.lconst 0, 1) := by decide +kernel
theorem dX8_goBack_3 : decode cX8_goBack 3 = .ok (.lconst 1, 1) := by decide +kernel
theorem dX8_goBack_4 : decode cX8_goBack 4 = .ok (.invokestatic 91, 3) := by decide +kernel
theorem dX8_goBack_7 : decode cX8_goBack 7 = .ok (.ifCond .ne 6, 3) := by decide +kernel
theorem dX8_goBack_10 : decode cX8_goBack 10 = .ok (.ldc 244, 2) := by decide +kernel
theorem dX8_goBack_12 : decode cX8_goBack 12 = .ok (.ireturn, 1) := by decide +kernel
theorem dX8_goBack_13 : decode cX8_goBack 13 = .ok (.aload_n 0, 1) := by decide +kernel
theorem dX8_goBack_14 : decode cX8_goBack 14 = .ok (.getfield 13, 3) := by decide +kernel
theorem dX8_goBack_17 : decode cX8_goBack 17 = .ok (.iload_n 1, 1) := by decide +kernel
theorem dX8_goBack_18 : decode cX8_goBack 18 = .ok (.baload, 1) := by decide +kernel
theorem dX8_goBack_19 : decode cX8_goBack 19 = .ok (.ifCond .ne 7, 3) := by decide +kernel
theorem dX8_goBack_22 : decode cX8_goBack 22 = .ok (.ldc_w 258, 3) := by decide +kernel
theorem dX8_goBack_25 : decode cX8_goBack 25 = .ok (.ireturn, 1) := by decide +kernel
theorem dX8_goBack_26 : decode cX8_goBack 26 = .ok (.aload_n 0, 1) := by decide +kernel
theorem dX8_goBack_27 : decode cX8_goBack 27 = .ok (.bipush 12, 2) := by decide +kernel
theorem dX8_goBack_29 : decode cX8_goBack 29 = .ok (.bipush 12, 2) := by decide +kernel
theorem dX8_goBack_31 : decode cX8_goBack 31 = .ok (.iload_n 1, 1) := by decide +kernel
theorem dX8_goBack_32 : decode cX8_goBack 32 = .ok (.imul, 1) := by decide +kernel
theorem dX8_goBack_33 : decode cX8_goBack 33 = .ok (.iadd, 1) := by decide +kernel
theorem dX8_goBack_34 : decode cX8_goBack 34 = .ok (.iconst 0, 1) := by decide +kernel
theorem dX8_goBack_35 : decode cX8_goBack 35 = .ok (.invokevirtual 253, 3) := by decide +kernel
theorem dX8_goBack_38 : decode cX8_goBack 38 = .ok (.aload_n 0, 1) := by decide +kernel
theorem dX8_goBack_39 : decode cX8_goBack 39 = .ok (.iconst 0, 1) := by decide +kernel
theorem dX8_goBack_40 : decode cX8_goBack 40 = .ok (.putfield 174, 3) := by decide +kernel
theorem dX8_goBack_43 : decode cX8_goBack 43 = .ok (.iconst 1, 1) := by decide +kernel
theorem dX8_goBack_44 : decode cX8_goBack 44 = .ok (.ireturn, 1) := by decide +kernel
theorem dJ6_bitCount_0f7a4_0 : decode cJ6_bitCount_0f7a4 0 = .ok (.iload_n 0, 1) := by decide +kernel
theorem dJ6_bitCount_0f7a4_1 : decode cJ6_bitCount_0f7a4 1 = .ok (.iload_n 0, 1) := by decide +kernel
theorem dJ6_bitCount_0f7a4_2 : decode cJ6_bitCount_0f7a4 2 = .ok (.iconst 1, 1) := by decide +kernel
theorem dJ6_bitCount_0f7a4_3 : decode cJ6_bitCount_0f7a4 3 = .ok (.iushr, 1) := by decide +kernel
theorem dJ6_bitCount_0f7a4_4 : decode cJ6_bitCount_0f7a4 4 = .ok (.ldc_w 265, 3) := by decide +kernel
theorem dJ6_bitCount_0f7a4_7 : decode cJ6_bitCount_0f7a4 7 = .ok (.iand, 1) := by decide +kernel
theorem dJ6_bitCount_0f7a4_8 : decode cJ6_bitCount_0f7a4 8 = .ok (.isub, 1) := by decide +kernel
theorem dJ6_bitCount_0f7a4_9 : decode cJ6_bitCount_0f7a4 9 = .ok (.istore_n 0, 1) := by decide +kernel
theorem dJ6_bitCount_0f7a4_10 : decode cJ6_bitCount_0f7a4 10 = .ok (.iload_n 0, 1) := by decide +kernel
theorem dJ6_bitCount_0f7a4_11 : decode cJ6_bitCount_0f7a4 11 = .ok (.ldc_w 266, 3) := by decide +kernel
theorem dJ6_bitCount_0f7a4_14 : decode cJ6_bitCount_0f7a4 14 = .ok (.iand, 1) := by decide +kernel
theorem dJ6_bitCount_0f7a4_15 : decode cJ6_bitCount_0f7a4 15 = .ok (.iload_n 0, 1) := by decide +kernel
theorem dJ6_bitCount_0f7a4_16 : decode cJ6_bitCount_0f7a4 16 = .ok (.iconst 2, 1) := by decide +kernel
theorem dJ6_bitCount_0f7a4_17 : decode cJ6_bitCount_0f7a4 17 = .ok (.iushr, 1) := by decide +kernel
theorem dJ6_bitCount_0f7a4_18 : decode cJ6_bitCount_0f7a4 18 = .ok (.ldc_w 266, 3) := by decide +kernel
theorem dJ6_bitCount_0f7a4_21 : decode cJ6_bitCount_0f7a4 21 = .ok (.iand, 1) := by decide +kernel
theorem dJ6_bitCount_0f7a4_22 : decode cJ6_bitCount_0f7a4 22 = .ok (.iadd, 1) := by decide +kernel
theorem dJ6_bitCount_0f7a4_23 : decode cJ6_bitCount_0f7a4 23 = .ok (.istore_n 0, 1) := by decide +kernel
theorem dJ6_bitCount_0f7a4_24 : decode cJ6_bitCount_0f7a4 24 = .ok (.iload_n 0, 1) := by decide +kernel
theorem dJ6_bitCount_0f7a4_25 : decode cJ6_bitCount_0f7a4 25 = .ok (.iload_n 0, 1) := by decide +kernel
theorem dJ6_bitCount_0f7a4_26 : decode cJ6_bitCount_0f7a4 26 = .ok (.iconst 4, 1) := by decide +kernel
theorem dJ6_bitCount_0f7a4_27 : decode cJ6_bitCount_0f7a4 27 = .ok (.iushr, 1) := by decide +kernel
theorem dJ6_bitCount_0f7a4_28 : decode cJ6_bitCount_0f7a4 28 = .ok (.iadd, 1) := by decide +kernel
theorem dJ6_bitCount_0f7a4_29 : decode cJ6_bitCount_0f7a4 29 = .ok (.ldc_w 267, 3) := by decide +kernel
theorem dJ6_bitCount_0f7a4_32 : decode cJ6_bitCount_0f7a4 32 = .ok (.iand, 1) := by decide +kernel
theorem dJ6_bitCount_0f7a4_33 : decode cJ6_bitCount_0f7a4 33 = .ok (.istore_n 0, 1) := by decide +kernel
theorem dJ6_bitCount_0f7a4_34 : decode cJ6_bitCount_0f7a4 34 = .ok (.iload_n 0, 1) := by decide +kernel
theorem dJ6_bitCount_0f7a4_35 : decode cJ6_bitCount_0f7a4 35 = .ok (.iload_n 0, 1) := by decide +kernel
theorem dJ6_bitCount_0f7a4_36 : decode cJ6_bitCount_0f7a4 36 = .ok (.bipush 8, 2) := by decide +kernel
theorem dJ6_bitCount_0f7a4_38 : decode cJ6_bitCount_0f7a4 38 = .ok (.iushr, 1) := by decide +kernel
theorem dJ6_bitCount_0f7a4_39 : decode cJ6_bitCount_0f7a4 39 = .ok (.iadd, 1) := by decide +kernel
theorem dJ6_bitCount_0f7a4_40 : decode cJ6_bitCount_0f7a4 40 = .ok (.istore_n 0, 1) := by decide +kernel
theorem dJ6_bitCount_0f7a4_41 : decode cJ6_bitCount_0f7a4 41 = .ok (.iload_n 0, 1) := by decide +kernel
theorem dJ6_bitCount_0f7a4_42 : decode cJ6_bitCount_0f7a4 42 = .ok (.iload_n 0, 1) := by decide +kernel
theorem dJ6_bitCount_0f7a4_43 : decode cJ6_bitCount_0f7a4 43 = .ok (.bipush 16, 2) := by decide +kernel
theorem dJ6_bitCount_0f7a4_45 : decode cJ6_bitCount_0f7a4 45 = .ok (.iushr, 1) := by decide +kernel
theorem dJ6_bitCount_0f7a4_46 : decode cJ6_bitCount_0f7a4 46 = .ok (.iadd, 1) := by decide +kernel
theorem dJ6_bitCount_0f7a4_47 : decode cJ6_bitCount_0f7a4 47 = .ok (.istore_n 0, 1) := by decide +kernel
theorem dJ6_bitCount_0f7a4_48 : decode cJ6_bitCount_0f7a4 48 = .ok (.iload_n 0, 1) := by decide +kernel
theorem dJ6_bitCount_0f7a4_49 : decode cJ6_bitCount_0f7a4 49 = .ok (.bipush 63, 2) := by decide +kernel
theorem dJ6_bitCount_0f7a4_51 : decode cJ6_bitCount_0f7a4 51 = .ok (.iand, 1) := by decide +kernel
theorem dJ6_bitCount_0f7a4_52 : decode cJ6_bitCount_0f7a4 52 = .ok (.ireturn, 1) := by decide +kernel
theorem dJ9_floorDiv_f86c9_0 : decode cJ9_floorDiv_f86c9 0 = .ok (.lload_n 0, 1) := by decide +kernel
theorem dJ9_floorDiv_f86c9_1 : decode cJ9_floorDiv_f86c9 1 = .ok (.lload_n 2, 1) := by decide +kernel
theorem dJ9_floorDiv_f86c9_2 : decode cJ9_floorDiv_f86c9 2 = .ok (.ldiv, 1) := by decide +kernel
theorem dJ9_floorDiv_f86c9_3 : decode cJ9_floorDiv_f86c9 3 = .ok (.lstore 4, 2) := by decide +kernel
theorem dJ9_floorDiv_f86c9_5 : decode cJ9_floorDiv_f86c9 5 = .ok (.lload_n 0, 1) := by decide +kernel
theorem dJ9_floorDiv_f86c9_6 : decode cJ9_floorDiv_f86c9 6 = .ok (.lload_n 2, 1) := by decide +kernel
theorem dJ9_floorDiv_f86c9_7 : decode cJ9_floorDiv_f86c9 7 = .ok (.lxor, 1) := by decide +kernel
theorem dJ9_floorDiv_f86c9_8 : decode cJ9_floorDiv_f86c9 8 = .ok (.lconst 0, 1) := by decide +kernel
theorem dJ9_floorDiv_f86c9_9 : decode cJ9_floorDiv_f86c9 9 = .ok (.lcmp, 1) := by decide +kernel
theorem dJ9_floorDiv_f86c9_10 : decode cJ9_floorDiv_f86c9 10 = .ok (.ifCond .ge 17, 3) := by decide +kernel
theorem dJ9_floorDiv_f86c9_13 : decode cJ9_floorDiv_f86c9 13 = .ok (.lload 4, 2) := by decide +kernel
theorem dJ9_floorDiv_f86c9_15 : decode cJ9_floorDiv_f86c9 15 = .ok (.lload_n 2, 1) := by decide +kernel
theorem dJ9_floorDiv_f86c9_16 : decode cJ9_floorDiv_f86c9 16 = .ok (.lmul, 1) := by decide +kernel
theorem dJ9_floorDiv_f86c9_17 : decode cJ9_floorDiv_f86c9 17 = .ok (.lload_n 0, 1) := by decide +kernel
theorem dJ9_floorDiv_f86c9_18 : decode cJ9_floorDiv_f86c9 18 = .ok (.lcmp, 1) := by decide +kernel
theorem dJ9_floorDiv_f86c9_19 : decode cJ9_floorDiv_f86c9 19 = .ok (.ifCond .eq 8, 3) := by decide +kernel
theorem dJ9_floorDiv_f86c9_22 : decode cJ9_floorDiv_f86c9 22 = .ok (.lload 4, 2) := by decide +kernel
theorem dJ9_floorDiv_f86c9_24 : decode cJ9_floorDiv_f86c9 24 = .ok (.lconst 1, 1) := by decide +kernel
theorem dJ9_floorDiv_f86c9_25 : decode cJ9_floorDiv_f86c9 25 = .ok (.lsub, 1) := by decide +kernel
theorem dJ9_floorDiv_f86c9_26 : decode cJ9_floorDiv_f86c9 26 = .ok (.lreturn, 1) := by decide +kernel
theorem dJ9_floorDiv_f86c9_27 : decode cJ9_floorDiv_f86c9 27 = .ok (.lload 4, 2) := by decide +kernel
theorem dJ9_floorDiv_f86c9_29 : decode cJ9_floorDiv_f86c9 29 = .ok (.lreturn, 1) := by decide +kernel
theorem dJ9_floorMod_f86c9_0 : decode cJ9_floorMod_f86c9 0 = .ok (.lload_n 0, 1) := by decide +kernel
theorem dJ9_floorMod_f86c9_1 : decode cJ9_floorMod_f86c9 1 = .ok (.lload_n 2, 1) := by decide +kernel
theorem dJ9_floorMod_f86c9_2 : decode cJ9_floorMod_f86c9 2 = .ok (.lrem, 1) := by decide +kernel
theorem dJ9_floorMod_f86c9_3 : decode cJ9_floorMod_f86c9 3 = .ok (.lstore 4, 2) := by decide +kernel
theorem dJ9_floorMod_f86c9_5 : decode cJ9_floorMod_f86c9 5 = .ok (.lload_n 0, 1) := by decide +kernel
theorem dJ9_floorMod_f86c9_6 : decode cJ9_floorMod_f86c9 6 = .ok (.lload_n 2, 1) := by decide +kernel
theorem dJ9_floorMod_f86c9_7 : decode cJ9_floorMod_f86c9 7 = .ok (.lxor, 1) := by decide +kernel
theorem dJ9_floorMod_f86c9_8 : decode cJ9_floorMod_f86c9 8 = .ok (.lconst 0, 1) := by decide +kernel
theorem dJ9_floorMod_f86c9_9 : decode cJ9_floorMod_f86c9 9 = .ok (.lcmp, 1) := by decide +kernel
theorem dJ9_floorMod_f86c9_10 : decode cJ9_floorMod_f86c9 10 = .ok (.ifCond .ge 15, 3) := by decide +kernel
theorem dJ9_floorMod_f86c9_13 : decode cJ9_floorMod_f86c9 13 = .ok (.lload 4, 2) := by decide +kernel
theorem dJ9_floorMod_f86c9_15 : decode cJ9_floorMod_f86c9 15 = .ok (.lconst 0, 1) := by decide +kernel
theorem dJ9_floorMod_f86c9_16 : decode cJ9_floorMod_f86c9 16 = .ok (.lcmp, 1) := by decide +kernel
theorem dJ9_floorMod_f86c9_17 : decode cJ9_floorMod_f86c9 17 = .ok (.ifCond .eq 8, 3) := by decide +kernel
theorem dJ9_floorMod_f86c9_20 : decode cJ9_floorMod_f86c9 20 = .ok (.lload 4, 2) := by decide +kernel
theorem dJ9_floorMod_f86c9_22 : decode cJ9_floorMod_f86c9 22 = .ok (.lload_n 2, 1) := by decide +kernel
theorem dJ9_floorMod_f86c9_23 : decode cJ9_floorMod_f86c9 23 = .ok (.ladd, 1) := by decide +kernel
theorem dJ9_floorMod_f86c9_24 : decode cJ9_floorMod_f86c9 24 = .ok (.lreturn, 1) := by decide +kernel
theorem dJ9_floorMod_f86c9_25 : decode cJ9_floorMod_f86c9 25 = .ok (.lload 4, 2) := by decide +kernel
theorem dJ9_floorMod_f86c9_27 : decode cJ9_floorMod_f86c9 27 = .ok (.lreturn, 1) := by decide +kernel
theorem dJ9_abs_067f4_0 : decode cJ9_abs_067f4 0 = .ok (.lload_n 0, 1) := by decide +kernel
theorem dJ9_abs_067f4_1 : decode cJ9_abs_067f4 1 = .ok (.lconst 0, 1) := by decide +kernel
theorem dJ9_abs_067f4_2 : decode cJ9_abs_067f4 2 = .ok (.lcmp, 1) := by decide +kernel
theorem dJ9_abs_067f4_3 : decode cJ9_abs_067f4 3 = .ok (.ifCond .ge 8, 3) := by decide +kernel
theorem dJ9_abs_067f4_6 : decode cJ9_abs_067f4 6 = .ok (.lload_n 0, 1) := by decide +kernel
theorem dJ9_abs_067f4_7 : decode cJ9_abs_067f4 7 = .ok (.lneg, 1) := by decide +kernel
theorem dJ9_abs_067f4_8 : decode cJ9_abs_067f4 8 = .ok (.goto 4, 3) := by decide +kernel
theorem dJ9_abs_067f4_11 : decode cJ9_abs_067f4 11 = .ok (.lload_n 0, 1) := by decide +kernel
theorem dJ9_abs_067f4_12 : decode cJ9_abs_067f4 12 = .ok (.lreturn, 1) := by decide +kernel
theorem dJ9_max_7cf53_0 : decode cJ9_max_7cf53 0 = .ok (.iload_n 0, 1) := by decide +kernel
theorem dJ9_max_7cf53_1 : decode cJ9_max_7cf53 1 = .ok (.iload_n 1, 1) := by decide +kernel
theorem dJ9_max_7cf53_2 : decode cJ9_max_7cf53 2 = .ok (.if_icmp .lt 7, 3) := by decide +kernel
theorem dJ9_max_7cf53_5 : decode cJ9_max_7cf53 5 = .ok (.iload_n 0, 1) := by decide +kernel
theorem dJ9_max_7cf53_6 : decode cJ9_max_7cf53 6 = .ok (.goto 4, 3) := by decide +kernel
theorem dJ9_max_7cf53_9 : decode cJ9_max_7cf53 9 = .ok (.iload_n 1, 1) := by decide +kernel
theorem dJ9_max_7cf53_10 : decode cJ9_max_7cf53 10 = .ok (.ireturn, 1) := by decide +kernel
theorem dJ9_max_f86c9_0 : decode cJ9_max_f86c9 0 = .ok (.lload_n 0, 1) := by decide +kernel
theorem dJ9_max_f86c9_1 : decode cJ9_max_f86c9 1 = .ok (.lload_n 2, 1) := by decide +kernel
theorem dJ9_max_f86c9_2 : decode cJ9_max_f86c9 2 = .ok (.lcmp, 1) := by decide +kernel
theorem dJ9_max_f86c9_3 : decode cJ9_max_f86c9 3 = .ok (.ifCond .lt 7, 3) := by decide +kernel
theorem dJ9_max_f86c9_6 : decode cJ9_max_f86c9 6 = .ok (.lload_n 0, 1) := by decide +kernel
theorem dJ9_max_f86c9_7 : decode cJ9_max_f86c9 7 = .ok (.goto 4, 3) := by decide +kernel
theorem dJ9_max_f86c9_10 : decode cJ9_max_f86c9 10 = .ok (.lload_n 2, 1) := by decide +kernel
theorem dJ9_max_f86c9_11 : decode cJ9_max_f86c9 11 = .ok (.lreturn, 1) := by decide +kernel
theorem dJ9_min_7cf53_0 : decode cJ9_min_7cf53 0 = .ok (.iload_n 0, 1) := by decide +kernel
theorem dJ9_min_7cf53_1 : decode cJ9_min_7cf53 1 = .ok (.iload_n 1, 1) := by decide +kernel
theorem dJ9_min_7cf53_2 : decode cJ9_min_7cf53 2 = .ok (.if_icmp .gt 7, 3) := by decide +kernel
theorem dJ9_min_7cf53_5 : decode cJ9_min_7cf53 5 = .ok (.iload_n 0, 1) := by decide +kernel
theorem dJ9_min_7cf53_6 : decode cJ9_min_7cf53 6 = .ok (.goto 4, 3) := by decide +kernel
theorem dJ9_min_7cf53_9 : decode cJ9_min_7cf53 9 = .ok (.iload_n 1, 1) := by decide +kernel
theorem dJ9_min_7cf53_10 : decode cJ9_min_7cf53 10 = .ok (.ireturn, 1) := by decide +kernel
theorem dJ9_min_f86c9_0 : decode cJ9_min_f86c9 0 = .ok (.lload_n 0, 1) := by decide +kernel
theorem dJ9_min_f86c9_1 : decode cJ9_min_f86c9 1 = .ok (.lload_n 2, 1) := by decide +kernel
theorem dJ9_min_f86c9_2 : decode cJ9_min_f86c9 2 = .ok (.lcmp, 1) := by decide +kernel
theorem dJ9_min_f86c9_3 : decode cJ9_min_f86c9 3 = .ok (.ifCond .gt 7, 3) := by decide +kernel
theorem dJ9_min_f86c9_6 : decode cJ9_min_f86c9 6 = .ok (.lload_n 0, 1) := by decide +kernel
theorem dJ9_min_f86c9_7 : decode cJ9_min_f86c9 7 = .ok (.goto 4, 3) := by decide +kernel
theorem dJ9_min_f86c9_10 : decode cJ9_min_f86c9 10 = .ok (.lload_n 2, 1) := by decide +kernel
theorem dJ9_min_f86c9_11 : decode cJ9_min_f86c9 11 = .ok (.lreturn, 1) := by decide +kernel
theorem dJ7_fill_d0a16_0 : decode cJ7_fill_d0a16 0 = .ok (.iconst 0, 1) := by decide +kernel
theorem dJ7_fill_d0a16_1 : decode cJ7_fill_d0a16 1 = .ok (.istore_n 3, 1) := by decide +kernel
theorem dJ7_fill_d0a16_2 : decode cJ7_fill_d0a16 2 = .ok (.aload_n 0, 1) := by decide +kernel
theorem dJ7_fill_d0a16_3 : decode cJ7_fill_d0a16 3 = .ok (.arraylength, 1) := by decide +kernel
theorem dJ7_fill_d0a16_4 : decode cJ7_fill_d0a16 4 = .ok (.istore 4, 2) := by decide +kernel
theorem dJ7_fill_d0a16_6 : decode cJ7_fill_d0a16 6 = .ok (.iload_n 3, 1) := by decide +kernel
theorem dJ7_fill_d0a16_7 : decode cJ7_fill_d0a16 7 = .ok (.iload 4, 2) := by decide +kernel
theorem dJ7_fill_d0a16_9 : decode cJ7_fill_d0a16 9 = .ok (.if_icmp .ge 13, 3) := by decide +kernel
theorem dJ7_fill_d0a16_12 : decode cJ7_fill_d0a16 12 = .ok (.aload_n 0, 1) := by decide +kernel
theorem dJ7_fill_d0a16_13 : decode cJ7_fill_d0a16 13 = .ok (.iload_n 3, 1) := by decide +kernel
theorem dJ7_fill_d0a16_14 : decode cJ7_fill_d0a16 14 = .ok (.lload_n 1, 1) := by decide +kernel
theorem dJ7_fill_d0a16_15 : decode cJ7_fill_d0a16 15 = .ok (.lastore, 1) := by decide +kernel
theorem dJ7_fill_d0a16_16 : decode cJ7_fill_d0a16 16 = .ok (.iinc 3 1, 3) := by decide +kernel
theorem dJ7_fill_d0a16_19 : decode cJ7_fill_d0a16 19 = .ok (.goto (-13), 3) := by decide +kernel
theorem dJ7_fill_d0a16_22 : decode cJ7_fill_d0a16 22 = .ok (.return_, 1) := by decide +kernel
theorem dJ7_fill_53178_0 : decode cJ7_fill_53178 0 = .ok (.iconst 0, 1) := by decide +kernel
theorem dJ7_fill_53178_1 : decode cJ7_fill_53178 1 = .ok (.istore_n 2, 1) := by decide +kernel
theorem dJ7_fill_53178_2 : decode cJ7_fill_53178 2 = .ok (.aload_n 0, 1) := by decide +kernel
theorem dJ7_fill_53178_3 : decode cJ7_fill_53178 3 = .ok (.arraylength, 1) := by decide +kernel
theorem dJ7_fill_53178_4 : decode cJ7_fill_53178 4 = .ok (.istore_n 3, 1) := by decide +kernel
theorem dJ7_fill_53178_5 : decode cJ7_fill_53178 5 = .ok (.iload_n 2, 1) := by decide +kernel
theorem dJ7_fill_53178_6 : decode cJ7_fill_53178 6 = .ok (.iload_n 3, 1) := by decide +kernel
theorem dJ7_fill_53178_7 : decode cJ7_fill_53178 7 = .ok (.if_icmp .ge 13, 3) := by decide +kernel
theorem dJ7_fill_53178_10 : decode cJ7_fill_53178 10 = .ok (.aload_n 0, 1) := by decide +kernel
theorem dJ7_fill_53178_11 : decode cJ7_fill_53178 11 = .ok (.iload_n 2, 1) := by decide +kernel
theorem dJ7_fill_53178_12 : decode cJ7_fill_53178 12 = .ok (.iload_n 1, 1) := by decide +kernel
theorem dJ7_fill_53178_13 : decode cJ7_fill_53178 13 = .ok (.iastore, 1) := by decide +kernel
theorem dJ7_fill_53178_14 : decode cJ7_fill_53178 14 = .ok (.iinc 2 1, 3) := by decide +kernel
theorem dJ7_fill_53178_17 : decode cJ7_fill_53178 17 = .ok (.goto (-12), 3) := by decide +kernel
theorem dJ7_fill_53178_20 : decode cJ7_fill_53178 20 = .ok (.return_, 1) := by decide +kernel
theorem dL_law_0 : decode cL_law 0 = .ok (.new 7, 3) := by decide +kernel
theorem dL_law_3 : decode cL_law 3 = .ok (.dup, 1) := by decide +kernel
theorem dL_law_4 : decode cL_law 4 = .ok (.invokespecial 9, 3) := by decide +kernel
theorem dL_law_7 : decode cL_law 7 = .ok (.astore_n 1, 1) := by decide +kernel
theorem dL_law_8 : decode cL_law 8 = .ok (.new 10, 3) := by decide +kernel
theorem dL_law_11 : decode cL_law 11 = .ok (.dup, 1) := by decide +kernel
theorem dL_law_12 : decode cL_law 12 = .ok (.invokespecial 12, 3) := by decide +kernel
theorem dL_law_15 : decode cL_law 15 = .ok (.astore_n 2, 1) := by decide +kernel
theorem dL_law_16 : decode cL_law 16 = .ok (.iconst 0, 1) := by decide +kernel
theorem dL_law_17 : decode cL_law 17 = .ok (.istore_n 3, 1) := by decide +kernel
theorem dL_law_18 : decode cL_law 18 = .ok (.iload_n 3, 1) := by decide +kernel
theorem dL_law_19 : decode cL_law 19 = .ok (.aload_n 0, 1) := by decide +kernel
theorem dL_law_20 : decode cL_law 20 = .ok (.arraylength, 1) := by decide +kernel
theorem dL_law_21 : decode cL_law 21 = .ok (.iconst 5, 1) := by decide +kernel
theorem dL_law_22 : decode cL_law 22 = .ok (.isub, 1) := by decide +kernel
theorem dL_law_23 : decode cL_law 23 = .ok (.if_icmp .gt 1118, 3) := by decide +kernel
theorem dL_law_26 : decode cL_law 26 = .ok (.aload_n 0, 1) := by decide +kernel
theorem dL_law_27 : decode cL_law 27 = .ok (.iload_n 3, 1) := by decide +kernel
theorem dL_law_28 : decode cL_law 28 = .ok (.iaload, 1) := by decide +kernel
theorem dL_law_29 : decode cL_law 29 = .ok (.bipush 63, 2) := by decide +kernel
theorem dL_law_31 : decode cL_law 31 = .ok (.iand, 1) := by decide +kernel
theorem dL_law_32 : decode cL_law 32 = .ok (.tableswitch 1103 0 32 #[148, 171, 184, 197, 220, 253, 286, 319, 352, 375, 424, 457, 480, 503, 526, 549, 562, 615, 648, 691, 714, 747, 780, 813, 866, 909, 942, 965, 1008, 1021, 1034, 1057, 1080], 148) := by decide +kernel
theorem dL_law_180 : decode cL_law 180 = .ok (.aload_n 1, 1) := by decide +kernel
theorem dL_law_181 : decode cL_law 181 = .ok (.aload_n 0, 1) := by decide +kernel
theorem dL_law_182 : decode cL_law 182 = .ok (.iload_n 3, 1) := by decide +kernel
theorem dL_law_183 : decode cL_law 183 = .ok (.iconst 1, 1) := by decide +kernel
theorem dL_law_184 : decode cL_law 184 = .ok (.iadd, 1) := by decide +kernel
theorem dL_law_185 : decode cL_law 185 = .ok (.iaload, 1) := by decide +kernel
theorem dL_law_186 : decode cL_law 186 = .ok (.invokevirtual 13, 3) := by decide +kernel
theorem dL_law_189 : decode cL_law 189 = .ok (.aload_n 2, 1) := by decide +kernel
theorem dL_law_190 : decode cL_law 190 = .ok (.aload_n 0, 1) := by decide +kernel
theorem dL_law_191 : decode cL_law 191 = .ok (.iload_n 3, 1) := by decide +kernel
theorem dL_law_192 : decode cL_law 192 = .ok (.iconst 1, 1) := by decide +kernel
theorem dL_law_193 : decode cL_law 193 = .ok (.iadd, 1) := by decide +kernel
theorem dL_law_194 : decode cL_law 194 = .ok (.iaload, 1) := by decide +kernel
theorem dL_law_195 : decode cL_law 195 = .ok (.invokevirtual 17, 3) := by decide +kernel
theorem dL_law_198 : decode cL_law 198 = .ok (.if_icmp .eq 937, 3) := by decide +kernel
theorem dL_law_201 : decode cL_law 201 = .ok (.iconst 0, 1) := by decide +kernel
theorem dL_law_202 : decode cL_law 202 = .ok (.ireturn, 1) := by decide +kernel
theorem dL_law_203 : decode cL_law 203 = .ok (.aload_n 1, 1) := by decide +kernel
theorem dL_law_204 : decode cL_law 204 = .ok (.invokevirtual 18, 3) := by decide +kernel
theorem dL_law_207 : decode cL_law 207 = .ok (.aload_n 2, 1) := by decide +kernel
theorem dL_law_208 : decode cL_law 208 = .ok (.invokevirtual 22, 3) := by decide +kernel
theorem dL_law_211 : decode cL_law 211 = .ok (.if_icmp .eq 924, 3) := by decide +kernel
theorem dL_law_214 : decode cL_law 214 = .ok (.iconst 0, 1) := by decide +kernel
theorem dL_law_215 : decode cL_law 215 = .ok (.ireturn, 1) := by decide +kernel
theorem dL_law_216 : decode cL_law 216 = .ok (.aload_n 1, 1) := by decide +kernel
theorem dL_law_217 : decode cL_law 217 = .ok (.invokevirtual 23, 3) := by decide +kernel
theorem dL_law_220 : decode cL_law 220 = .ok (.aload_n 2, 1) := by decide +kernel
theorem dL_law_221 : decode cL_law 221 = .ok (.invokevirtual 26, 3) := by decide +kernel
theorem dL_law_224 : decode cL_law 224 = .ok (.if_icmp .eq 911, 3) := by decide +kernel
theorem dL_law_227 : decode cL_law 227 = .ok (.iconst 0, 1) := by decide +kernel
theorem dL_law_228 : decode cL_law 228 = .ok (.ireturn, 1) := by decide +kernel
theorem dL_law_229 : decode cL_law 229 = .ok (.aload_n 1, 1) := by decide +kernel
theorem dL_law_230 : decode cL_law 230 = .ok (.aload_n 0, 1) := by decide +kernel
theorem dL_law_231 : decode cL_law 231 = .ok (.iload_n 3, 1) := by decide +kernel
theorem dL_law_232 : decode cL_law 232 = .ok (.iconst 1, 1) := by decide +kernel
theorem dL_law_233 : decode cL_law 233 = .ok (.iadd, 1) := by decide +kernel
theorem dL_law_234 : decode cL_law 234 = .ok (.iaload, 1) := by decide +kernel
theorem dL_law_235 : decode cL_law 235 = .ok (.invokevirtual 27, 3) := by decide +kernel
theorem dL_law_238 : decode cL_law 238 = .ok (.aload_n 2, 1) := by decide +kernel
theorem dL_law_239 : decode cL_law 239 = .ok (.aload_n 0, 1) := by decide +kernel
theorem dL_law_240 : decode cL_law 240 = .ok (.iload_n 3, 1) := by decide +kernel
theorem dL_law_241 : decode cL_law 241 = .ok (.iconst 1, 1) := by decide +kernel
theorem dL_law_242 : decode cL_law 242 = .ok (.iadd, 1) := by decide +kernel
theorem dL_law_243 : decode cL_law 243 = .ok (.iaload, 1) := by decide +kernel
theorem dL_law_244 : decode cL_law 244 = .ok (.invokevirtual 30, 3) := by decide +kernel
theorem dL_law_247 : decode cL_law 247 = .ok (.if_icmp .eq 888, 3) := by decide +kernel
theorem dL_law_250 : decode cL_law 250 = .ok (.iconst 0, 1) := by decide +kernel
theorem dL_law_251 : decode cL_law 251 = .ok (.ireturn, 1) := by decide +kernel
theorem dL_law_252 : decode cL_law 252 = .ok (.aload_n 1, 1) := by decide +kernel
theorem dL_law_253 : decode cL_law 253 = .ok (.aload_n 0, 1) := by decide +kernel
theorem dL_law_254 : decode cL_law 254 = .ok (.iload_n 3, 1) := by decide +kernel
theorem dL_law_255 : decode cL_law 255 = .ok (.iconst 1, 1) := by decide +kernel
theorem dL_law_256 : decode cL_law 256 = .ok (.iadd, 1) := by decide +kernel
theorem dL_law_257 : decode cL_law 257 = .ok (.iaload, 1) := by decide +kernel
theorem dL_law_258 : decode cL_law 258 = .ok (.aload_n 0, 1) := by decide +kernel
theorem dL_law_259 : decode cL_law 259 = .ok (.iload_n 3, 1) := by decide +kernel
theorem dL_law_260 : decode cL_law 260 = .ok (.iconst 2, 1) := by decide +kernel
theorem dL_law_261 : decode cL_law 261 = .ok (.iadd, 1) := by decide +kernel
theorem dL_law_262 : decode cL_law 262 = .ok (.iaload, 1) := by decide +kernel
theorem dL_law_263 : decode cL_law 263 = .ok (.invokevirtual 31, 3) := by decide +kernel
theorem dL_law_266 : decode cL_law 266 = .ok (.aload_n 2, 1) := by decide +kernel
theorem dL_law_267 : decode cL_law 267 = .ok (.aload_n 0, 1) := by decide +kernel
theorem dL_law_268 : decode cL_law 268 = .ok (.iload_n 3, 1) := by decide +kernel
theorem dL_law_269 : decode cL_law 269 = .ok (.iconst 1, 1) := by decide +kernel
theorem dL_law_270 : decode cL_law 270 = .ok (.iadd, 1) := by decide +kernel
theorem dL_law_271 : decode cL_law 271 = .ok (.iaload, 1) := by decide +kernel
theorem dL_law_272 : decode cL_law 272 = .ok (.aload_n 0, 1) := by decide +kernel
theorem dL_law_273 : decode cL_law 273 = .ok (.iload_n 3, 1) := by decide +kernel
theorem dL_law_274 : decode cL_law 274 = .ok (.iconst 2, 1) := by decide +kernel
theorem dL_law_275 : decode cL_law 275 = .ok (.iadd, 1) := by decide +kernel
theorem dL_law_276 : decode cL_law 276 = .ok (.iaload, 1) := by decide +kernel
theorem dL_law_277 : decode cL_law 277 = .ok (.invokevirtual 35, 3) := by decide +kernel
theorem dL_law_280 : decode cL_law 280 = .ok (.if_icmp .eq 855, 3) := by decide +kernel
theorem dL_law_283 : decode cL_law 283 = .ok (.iconst 0, 1) := by decide +kernel
theorem dL_law_284 : decode cL_law 284 = .ok (.ireturn, 1) := by decide +kernel
theorem dL_law_285 : decode cL_law 285 = .ok (.aload_n 1, 1) := by decide +kernel
theorem dL_law_286 : decode cL_law 286 = .ok (.aload_n 0, 1) := by decide +kernel
theorem dL_law_287 : decode cL_law 287 = .ok (.iload_n 3, 1) := by decide +kernel
theorem dL_law_288 : decode cL_law 288 = .ok (.iconst 1, 1) := by decide +kernel
theorem dL_law_289 : decode cL_law 289 = .ok (.iadd, 1) := by decide +kernel
theorem dL_law_290 : decode cL_law 290 = .ok (.iaload, 1) := by decide +kernel
theorem dL_law_291 : decode cL_law 291 = .ok (.aload_n 0, 1) := by decide +kernel
theorem dL_law_292 : decode cL_law 292 = .ok (.iload_n 3, 1) := by decide +kernel
theorem dL_law_293 : decode cL_law 293 = .ok (.iconst 2, 1) := by decide +kernel
theorem dL_law_294 : decode cL_law 294 = .ok (.iadd, 1) := by decide +kernel
theorem dL_law_295 : decode cL_law 295 = .ok (.iaload, 1) := by decide +kernel
theorem dL_law_296 : decode cL_law 296 = .ok (.invokevirtual 36, 3) := by decide +kernel
theorem dL_law_299 : decode cL_law 299 = .ok (.aload_n 2, 1) := by decide +kernel
theorem dL_law_300 : decode cL_law 300 = .ok (.aload_n 0, 1) := by decide +kernel
theorem dL_law_301 : decode cL_law 301 = .ok (.iload_n 3, 1) := by decide +kernel
theorem dL_law_302 : decode cL_law 302 = .ok (.iconst 1, 1) := by decide +kernel
theorem dL_law_303 : decode cL_law 303 = .ok (.iadd, 1) := by decide +kernel
theorem dL_law_304 : decode cL_law 304 = .ok (.iaload, 1) := by decide +kernel
theorem dL_law_305 : decode cL_law 305 = .ok (.aload_n 0, 1) := by decide +kernel
theorem dL_law_306 : decode cL_law 306 = .ok (.iload_n 3, 1) := by decide +kernel
theorem dL_law_307 : decode cL_law 307 = .ok (.iconst 2, 1) := by decide +kernel
theorem dL_law_308 : decode cL_law 308 = .ok (.iadd, 1) := by decide +kernel
theorem dL_law_309 : decode cL_law 309 = .ok (.iaload, 1) := by decide +kernel
theorem dL_law_310 : decode cL_law 310 = .ok (.invokevirtual 39, 3) := by decide +kernel
theorem dL_law_313 : decode cL_law 313 = .ok (.if_icmp .eq 822, 3) := by decide +kernel
theorem dL_law_316 : decode cL_law 316 = .ok (.iconst 0, 1) := by decide +kernel
theorem dL_law_317 : decode cL_law 317 = .ok (.ireturn, 1) := by decide +kernel
theorem dL_law_318 : decode cL_law 318 = .ok (.aload_n 1, 1) := by decide +kernel
theorem dL_law_319 : decode cL_law 319 = .ok (.aload_n 0, 1) := by decide +kernel
theorem dL_law_320 : decode cL_law 320 = .ok (.iload_n 3, 1) := by decide +kernel
theorem dL_law_321 : decode cL_law 321 = .ok (.iconst 1, 1) := by decide +kernel
theorem dL_law_322 : decode cL_law 322 = .ok (.iadd, 1) := by decide +kernel
theorem dL_law_323 : decode cL_law 323 = .ok (.iaload, 1) := by decide +kernel
theorem dL_law_324 : decode cL_law 324 = .ok (.aload_n 0, 1) := by decide +kernel
theorem dL_law_325 : decode cL_law 325 = .ok (.iload_n 3, 1) := by decide +kernel
theorem dL_law_326 : decode cL_law 326 = .ok (.iconst 2, 1) := by decide +kernel
theorem dL_law_327 : decode cL_law 327 = .ok (.iadd, 1) := by decide +kernel
theorem dL_law_328 : decode cL_law 328 = .ok (.iaload, 1) := by decide +kernel
theorem dL_law_329 : decode cL_law 329 = .ok (.invokevirtual 40, 3) := by decide +kernel
theorem dL_law_332 : decode cL_law 332 = .ok (.aload_n 2, 1) := by decide +kernel
theorem dL_law_333 : decode cL_law 333 = .ok (.aload_n 0, 1) := by decide +kernel
theorem dL_law_334 : decode cL_law 334 = .ok (.iload_n 3, 1) := by decide +kernel
theorem dL_law_335 : decode cL_law 335 = .ok (.iconst 1, 1) := by decide +kernel
theorem dL_law_336 : decode cL_law 336 = .ok (.iadd, 1) := by decide +kernel
theorem dL_law_337 : decode cL_law 337 = .ok (.iaload, 1) := by decide +kernel
theorem dL_law_338 : decode cL_law 338 = .ok (.aload_n 0, 1) := by decide +kernel
theorem dL_law_339 : decode cL_law 339 = .ok (.iload_n 3, 1) := by decide +kernel
theorem dL_law_340 : decode cL_law 340 = .ok (.iconst 2, 1) := by decide +kernel
theorem dL_law_341 : decode cL_law 341 = .ok (.iadd, 1) := by decide +kernel
theorem dL_law_342 : decode cL_law 342 = .ok (.iaload, 1) := by decide +kernel
theorem dL_law_343 : decode cL_law 343 = .ok (.invokevirtual 43, 3) := by decide +kernel
theorem dL_law_346 : decode cL_law 346 = .ok (.if_icmp .eq 789, 3) := by decide +kernel
theorem dL_law_349 : decode cL_law 349 = .ok (.iconst 0, 1) := by decide +kernel
theorem dL_law_350 : decode cL_law 350 = .ok (.ireturn, 1) := by decide +kernel
theorem dL_law_351 : decode cL_law 351 = .ok (.aload_n 1, 1) := by decide +kernel
theorem dL_law_352 : decode cL_law 352 = .ok (.aload_n 0, 1) := by decide +kernel
theorem dL_law_353 : decode cL_law 353 = .ok (.iload_n 3, 1) := by decide +kernel
theorem dL_law_354 : decode cL_law 354 = .ok (.iconst 1, 1) := by decide +kernel
theorem dL_law_355 : decode cL_law 355 = .ok (.iadd, 1) := by decide +kernel
theorem dL_law_356 : decode cL_law 356 = .ok (.iaload, 1) := by decide +kernel
theorem dL_law_357 : decode cL_law 357 = .ok (.aload_n 0, 1) := by decide +kernel
theorem dL_law_358 : decode cL_law 358 = .ok (.iload_n 3, 1) := by decide +kernel
theorem dL_law_359 : decode cL_law 359 = .ok (.iconst 2, 1) := by decide +kernel
theorem dL_law_360 : decode cL_law 360 = .ok (.iadd, 1) := by decide +kernel
theorem dL_law_361 : decode cL_law 361 = .ok (.iaload, 1) := by decide +kernel
theorem dL_law_362 : decode cL_law 362 = .ok (.invokevirtual 44, 3) := by decide +kernel
theorem dL_law_365 : decode cL_law 365 = .ok (.aload_n 2, 1) := by decide +kernel
theorem dL_law_366 : decode cL_law 366 = .ok (.aload_n 0, 1) := by decide +kernel
theorem dL_law_367 : decode cL_law 367 = .ok (.iload_n 3, 1) := by decide +kernel
theorem dL_law_368 : decode cL_law 368 = .ok (.iconst 1, 1) := by decide +kernel
theorem dL_law_369 : decode cL_law 369 = .ok (.iadd, 1) := by decide +kernel
theorem dL_law_370 : decode cL_law 370 = .ok (.iaload, 1) := by decide +kernel
theorem dL_law_371 : decode cL_law 371 = .ok (.aload_n 0, 1) := by decide +kernel
theorem dL_law_372 : decode cL_law 372 = .ok (.iload_n 3, 1) := by decide +kernel
theorem dL_law_373 : decode cL_law 373 = .ok (.iconst 2, 1) := by decide +kernel
theorem dL_law_374 : decode cL_law 374 = .ok (.iadd, 1) := by decide +kernel
theorem dL_law_375 : decode cL_law 375 = .ok (.iaload, 1) := by decide +kernel
theorem dL_law_376 : decode cL_law 376 = .ok (.invokevirtual 47, 3) := by decide +kernel
theorem dL_law_379 : decode cL_law 379 = .ok (.if_icmp .eq 756, 3) := by decide +kernel
theorem dL_law_382 : decode cL_law 382 = .ok (.iconst 0, 1) := by decide +kernel
theorem dL_law_383 : decode cL_law 383 = .ok (.ireturn, 1) := by decide +kernel
theorem dL_law_384 : decode cL_law 384 = .ok (.aload_n 1, 1) := by decide +kernel
theorem dL_law_385 : decode cL_law 385 = .ok (.aload_n 0, 1) := by decide +kernel
theorem dL_law_386 : decode cL_law 386 = .ok (.iload_n 3, 1) := by decide +kernel
theorem dL_law_387 : decode cL_law 387 = .ok (.iconst 1, 1) := by decide +kernel
theorem dL_law_388 : decode cL_law 388 = .ok (.iadd, 1) := by decide +kernel
theorem dL_law_389 : decode cL_law 389 = .ok (.iaload, 1) := by decide +kernel
theorem dL_law_390 : decode cL_law 390 = .ok (.invokevirtual 48, 3) := by decide +kernel
theorem dL_law_393 : decode cL_law 393 = .ok (.aload_n 2, 1) := by decide +kernel
theorem dL_law_394 : decode cL_law 394 = .ok (.aload_n 0, 1) := by decide +kernel
theorem dL_law_395 : decode cL_law 395 = .ok (.iload_n 3, 1) := by decide +kernel
theorem dL_law_396 : decode cL_law 396 = .ok (.iconst 1, 1) := by decide +kernel
theorem dL_law_397 : decode cL_law 397 = .ok (.iadd, 1) := by decide +kernel
theorem dL_law_398 : decode cL_law 398 = .ok (.iaload, 1) := by decide +kernel
theorem dL_law_399 : decode cL_law 399 = .ok (.invokevirtual 51, 3) := by decide +kernel
theorem dL_law_402 : decode cL_law 402 = .ok (.if_icmp .eq 733, 3) := by decide +kernel
theorem dL_law_405 : decode cL_law 405 = .ok (.iconst 0, 1) := by decide +kernel
theorem dL_law_406 : decode cL_law 406 = .ok (.ireturn, 1) := by decide +kernel
theorem dL_law_407 : decode cL_law 407 = .ok (.aload_n 1, 1) := by decide +kernel
theorem dL_law_408 : decode cL_law 408 = .ok (.aload_n 0, 1) := by decide +kernel
theorem dL_law_409 : decode cL_law 409 = .ok (.iload_n 3, 1) := by decide +kernel
theorem dL_law_410 : decode cL_law 410 = .ok (.iconst 1, 1) := by decide +kernel
theorem dL_law_411 : decode cL_law 411 = .ok (.iadd, 1) := by decide +kernel
theorem dL_law_412 : decode cL_law 412 = .ok (.iaload, 1) := by decide +kernel
theorem dL_law_413 : decode cL_law 413 = .ok (.aload_n 0, 1) := by decide +kernel
theorem dL_law_414 : decode cL_law 414 = .ok (.iload_n 3, 1) := by decide +kernel
theorem dL_law_415 : decode cL_law 415 = .ok (.iconst 2, 1) := by decide +kernel
theorem dL_law_416 : decode cL_law 416 = .ok (.iadd, 1) := by decide +kernel
theorem dL_law_417 : decode cL_law 417 = .ok (.iaload, 1) := by decide +kernel
theorem dL_law_418 : decode cL_law 418 = .ok (.ifCond .eq 7, 3) := by decide +kernel
theorem dL_law_421 : decode cL_law 421 = .ok (.iconst 1, 1) := by decide +kernel
theorem dL_law_422 : decode cL_law 422 = .ok (.goto 4, 3) := by decide +kernel
theorem dL_law_425 : decode cL_law 425 = .ok (.iconst 0, 1) := by decide +kernel
theorem dL_law_426 : decode cL_law 426 = .ok (.invokevirtual 52, 3) := by decide +kernel
theorem dL_law_429 : decode cL_law 429 = .ok (.aload_n 2, 1) := by decide +kernel
theorem dL_law_430 : decode cL_law 430 = .ok (.aload_n 0, 1) := by decide +kernel
theorem dL_law_431 : decode cL_law 431 = .ok (.iload_n 3, 1) := by decide +kernel
theorem dL_law_432 : decode cL_law 432 = .ok (.iconst 1, 1) := by decide +kernel
theorem dL_law_433 : decode cL_law 433 = .ok (.iadd, 1) := by decide +kernel
theorem dL_law_434 : decode cL_law 434 = .ok (.iaload, 1) := by decide +kernel
theorem dL_law_435 : decode cL_law 435 = .ok (.aload_n 0, 1) := by decide +kernel
theorem dL_law_436 : decode cL_law 436 = .ok (.iload_n 3, 1) := by decide +kernel
theorem dL_law_437 : decode cL_law 437 = .ok (.iconst 2, 1) := by decide +kernel
theorem dL_law_438 : decode cL_law 438 = .ok (.iadd, 1) := by decide +kernel
theorem dL_law_439 : decode cL_law 439 = .ok (.iaload, 1) := by decide +kernel
theorem dL_law_440 : decode cL_law 440 = .ok (.ifCond .eq 7, 3) := by decide +kernel
theorem dL_law_443 : decode cL_law 443 = .ok (.iconst 1, 1) := by decide +kernel
theorem dL_law_444 : decode cL_law 444 = .ok (.goto 4, 3) := by decide +kernel
theorem dL_law_447 : decode cL_law 447 = .ok (.iconst 0, 1) := by decide +kernel
theorem dL_law_448 : decode cL_law 448 = .ok (.invokevirtual 56, 3) := by decide +kernel
theorem dL_law_451 : decode cL_law 451 = .ok (.if_icmp .eq 684, 3) := by decide +kernel
theorem dL_law_454 : decode cL_law 454 = .ok (.iconst 0, 1) := by decide +kernel
theorem dL_law_455 : decode cL_law 455 = .ok (.ireturn, 1) := by decide +kernel
theorem dL_law_456 : decode cL_law 456 = .ok (.aload_n 1, 1) := by decide +kernel
theorem dL_law_457 : decode cL_law 457 = .ok (.aload_n 0, 1) := by decide +kernel
theorem dL_law_458 : decode cL_law 458 = .ok (.iload_n 3, 1) := by decide +kernel
theorem dL_law_459 : decode cL_law 459 = .ok (.iconst 1, 1) := by decide +kernel
theorem dL_law_460 : decode cL_law 460 = .ok (.iadd, 1) := by decide +kernel
theorem dL_law_461 : decode cL_law 461 = .ok (.iaload, 1) := by decide +kernel
theorem dL_law_462 : decode cL_law 462 = .ok (.aload_n 0, 1) := by decide +kernel
theorem dL_law_463 : decode cL_law 463 = .ok (.iload_n 3, 1) := by decide +kernel
theorem dL_law_464 : decode cL_law 464 = .ok (.iconst 2, 1) := by decide +kernel
theorem dL_law_465 : decode cL_law 465 = .ok (.iadd, 1) := by decide +kernel
theorem dL_law_466 : decode cL_law 466 = .ok (.iaload, 1) := by decide +kernel
theorem dL_law_467 : decode cL_law 467 = .ok (.invokevirtual 57, 3) := by decide +kernel
theorem dL_law_470 : decode cL_law 470 = .ok (.aload_n 2, 1) := by decide +kernel
theorem dL_law_471 : decode cL_law 471 = .ok (.aload_n 0, 1) := by decide +kernel
theorem dL_law_472 : decode cL_law 472 = .ok (.iload_n 3, 1) := by decide +kernel
theorem dL_law_473 : decode cL_law 473 = .ok (.iconst 1, 1) := by decide +kernel
theorem dL_law_474 : decode cL_law 474 = .ok (.iadd, 1) := by decide +kernel
theorem dL_law_475 : decode cL_law 475 = .ok (.iaload, 1) := by decide +kernel
theorem dL_law_476 : decode cL_law 476 = .ok (.aload_n 0, 1) := by decide +kernel
theorem dL_law_477 : decode cL_law 477 = .ok (.iload_n 3, 1) := by decide +kernel
theorem dL_law_478 : decode cL_law 478 = .ok (.iconst 2, 1) := by decide +kernel
theorem dL_law_479 : decode cL_law 479 = .ok (.iadd, 1) := by decide +kernel
theorem dL_law_480 : decode cL_law 480 = .ok (.iaload, 1) := by decide +kernel
theorem dL_law_481 : decode cL_law 481 = .ok (.invokevirtual 60, 3) := by decide +kernel
theorem dL_law_484 : decode cL_law 484 = .ok (.if_icmp .eq 651, 3) := by decide +kernel
theorem dL_law_487 : decode cL_law 487 = .ok (.iconst 0, 1) := by decide +kernel
theorem dL_law_488 : decode cL_law 488 = .ok (.ireturn, 1) := by decide +kernel
theorem dL_law_489 : decode cL_law 489 = .ok (.aload_n 1, 1) := by decide +kernel
theorem dL_law_490 : decode cL_law 490 = .ok (.aload_n 0, 1) := by decide +kernel
theorem dL_law_491 : decode cL_law 491 = .ok (.iload_n 3, 1) := by decide +kernel
theorem dL_law_492 : decode cL_law 492 = .ok (.iconst 1, 1) := by decide +kernel
theorem dL_law_493 : decode cL_law 493 = .ok (.iadd, 1) := by decide +kernel
theorem dL_law_494 : decode cL_law 494 = .ok (.iaload, 1) := by decide +kernel
theorem dL_law_495 : decode cL_law 495 = .ok (.invokevirtual 61, 3) := by decide +kernel
theorem dL_law_498 : decode cL_law 498 = .ok (.aload_n 2, 1) := by decide +kernel
theorem dL_law_499 : decode cL_law 499 = .ok (.aload_n 0, 1) := by decide +kernel
theorem dL_law_500 : decode cL_law 500 = .ok (.iload_n 3, 1) := by decide +kernel
theorem dL_law_501 : decode cL_law 501 = .ok (.iconst 1, 1) := by decide +kernel
theorem dL_law_502 : decode cL_law 502 = .ok (.iadd, 1) := by decide +kernel
theorem dL_law_503 : decode cL_law 503 = .ok (.iaload, 1) := by decide +kernel
theorem dL_law_504 : decode cL_law 504 = .ok (.invokevirtual 64, 3) := by decide +kernel
theorem dL_law_507 : decode cL_law 507 = .ok (.if_icmp .eq 628, 3) := by decide +kernel
theorem dL_law_510 : decode cL_law 510 = .ok (.iconst 0, 1) := by decide +kernel
theorem dL_law_511 : decode cL_law 511 = .ok (.ireturn, 1) := by decide +kernel
theorem dL_law_512 : decode cL_law 512 = .ok (.aload_n 1, 1) := by decide +kernel
theorem dL_law_513 : decode cL_law 513 = .ok (.aload_n 0, 1) := by decide +kernel
theorem dL_law_514 : decode cL_law 514 = .ok (.iload_n 3, 1) := by decide +kernel
theorem dL_law_515 : decode cL_law 515 = .ok (.iconst 1, 1) := by decide +kernel
theorem dL_law_516 : decode cL_law 516 = .ok (.iadd, 1) := by decide +kernel
theorem dL_law_517 : decode cL_law 517 = .ok (.iaload, 1) := by decide +kernel
theorem dL_law_518 : decode cL_law 518 = .ok (.invokevirtual 65, 3) := by decide +kernel
theorem dL_law_521 : decode cL_law 521 = .ok (.aload_n 2, 1) := by decide +kernel
theorem dL_law_522 : decode cL_law 522 = .ok (.aload_n 0, 1) := by decide +kernel
theorem dL_law_523 : decode cL_law 523 = .ok (.iload_n 3, 1) := by decide +kernel
theorem dL_law_524 : decode cL_law 524 = .ok (.iconst 1, 1) := by decide +kernel
theorem dL_law_525 : decode cL_law 525 = .ok (.iadd, 1) := by decide +kernel
theorem dL_law_526 : decode cL_law 526 = .ok (.iaload, 1) := by decide +kernel
theorem dL_law_527 : decode cL_law 527 = .ok (.invokevirtual 68, 3) := by decide +kernel
theorem dL_law_530 : decode cL_law 530 = .ok (.if_icmp .eq 605, 3) := by decide +kernel
theorem dL_law_533 : decode cL_law 533 = .ok (.iconst 0, 1) := by decide +kernel
theorem dL_law_534 : decode cL_law 534 = .ok (.ireturn, 1) := by decide +kernel
theorem dL_law_535 : decode cL_law 535 = .ok (.aload_n 1, 1) := by decide +kernel
theorem dL_law_536 : decode cL_law 536 = .ok (.aload_n 0, 1) := by decide +kernel
theorem dL_law_537 : decode cL_law 537 = .ok (.iload_n 3, 1) := by decide +kernel
theorem dL_law_538 : decode cL_law 538 = .ok (.iconst 1, 1) := by decide +kernel
theorem dL_law_539 : decode cL_law 539 = .ok (.iadd, 1) := by decide +kernel
theorem dL_law_540 : decode cL_law 540 = .ok (.iaload, 1) := by decide +kernel
theorem dL_law_541 : decode cL_law 541 = .ok (.invokevirtual 69, 3) := by decide +kernel
theorem dL_law_544 : decode cL_law 544 = .ok (.aload_n 2, 1) := by decide +kernel
theorem dL_law_545 : decode cL_law 545 = .ok (.aload_n 0, 1) := by decide +kernel
theorem dL_law_546 : decode cL_law 546 = .ok (.iload_n 3, 1) := by decide +kernel
theorem dL_law_547 : decode cL_law 547 = .ok (.iconst 1, 1) := by decide +kernel
theorem dL_law_548 : decode cL_law 548 = .ok (.iadd, 1) := by decide +kernel
theorem dL_law_549 : decode cL_law 549 = .ok (.iaload, 1) := by decide +kernel
theorem dL_law_550 : decode cL_law 550 = .ok (.invokevirtual 72, 3) := by decide +kernel
theorem dL_law_553 : decode cL_law 553 = .ok (.if_icmp .eq 582, 3) := by decide +kernel
theorem dL_law_556 : decode cL_law 556 = .ok (.iconst 0, 1) := by decide +kernel
theorem dL_law_557 : decode cL_law 557 = .ok (.ireturn, 1) := by decide +kernel
theorem dL_law_558 : decode cL_law 558 = .ok (.aload_n 1, 1) := by decide +kernel
theorem dL_law_559 : decode cL_law 559 = .ok (.aload_n 0, 1) := by decide +kernel
theorem dL_law_560 : decode cL_law 560 = .ok (.iload_n 3, 1) := by decide +kernel
theorem dL_law_561 : decode cL_law 561 = .ok (.iconst 1, 1) := by decide +kernel
theorem dL_law_562 : decode cL_law 562 = .ok (.iadd, 1) := by decide +kernel
theorem dL_law_563 : decode cL_law 563 = .ok (.iaload, 1) := by decide +kernel
theorem dL_law_564 : decode cL_law 564 = .ok (.invokevirtual 73, 3) := by decide +kernel
theorem dL_law_567 : decode cL_law 567 = .ok (.aload_n 2, 1) := by decide +kernel
theorem dL_law_568 : decode cL_law 568 = .ok (.aload_n 0, 1) := by decide +kernel
theorem dL_law_569 : decode cL_law 569 = .ok (.iload_n 3, 1) := by decide +kernel
theorem dL_law_570 : decode cL_law 570 = .ok (.iconst 1, 1) := by decide +kernel
theorem dL_law_571 : decode cL_law 571 = .ok (.iadd, 1) := by decide +kernel
theorem dL_law_572 : decode cL_law 572 = .ok (.iaload, 1) := by decide +kernel
theorem dL_law_573 : decode cL_law 573 = .ok (.invokevirtual 76, 3) := by decide +kernel
theorem dL_law_576 : decode cL_law 576 = .ok (.if_icmp .eq 559, 3) := by decide +kernel
theorem dL_law_579 : decode cL_law 579 = .ok (.iconst 0, 1) := by decide +kernel
theorem dL_law_580 : decode cL_law 580 = .ok (.ireturn, 1) := by decide +kernel
theorem dL_law_581 : decode cL_law 581 = .ok (.aload_n 1, 1) := by decide +kernel
theorem dL_law_582 : decode cL_law 582 = .ok (.invokevirtual 77, 3) := by decide +kernel
theorem dL_law_585 : decode cL_law 585 = .ok (.aload_n 2, 1) := by decide +kernel
theorem dL_law_586 : decode cL_law 586 = .ok (.invokevirtual 80, 3) := by decide +kernel
theorem dL_law_589 : decode cL_law 589 = .ok (.if_icmp .eq 546, 3) := by decide +kernel
theorem dL_law_592 : decode cL_law 592 = .ok (.iconst 0, 1) := by decide +kernel
theorem dL_law_593 : decode cL_law 593 = .ok (.ireturn, 1) := by decide +kernel
theorem dL_law_594 : decode cL_law 594 = .ok (.aload_n 1, 1) := by decide +kernel
theorem dL_law_595 : decode cL_law 595 = .ok (.aload_n 0, 1) := by decide +kernel
theorem dL_law_596 : decode cL_law 596 = .ok (.iload_n 3, 1) := by decide +kernel
theorem dL_law_597 : decode cL_law 597 = .ok (.iconst 1, 1) := by decide +kernel
theorem dL_law_598 : decode cL_law 598 = .ok (.iadd, 1) := by decide +kernel
theorem dL_law_599 : decode cL_law 599 = .ok (.iaload, 1) := by decide +kernel
theorem dL_law_600 : decode cL_law 600 = .ok (.aload_n 0, 1) := by decide +kernel
theorem dL_law_601 : decode cL_law 601 = .ok (.iload_n 3, 1) := by decide +kernel
theorem dL_law_602 : decode cL_law 602 = .ok (.iconst 2, 1) := by decide +kernel
theorem dL_law_603 : decode cL_law 603 = .ok (.iadd, 1) := by decide +kernel
theorem dL_law_604 : decode cL_law 604 = .ok (.iaload, 1) := by decide +kernel
theorem dL_law_605 : decode cL_law 605 = .ok (.aload_n 0, 1) := by decide +kernel
theorem dL_law_606 : decode cL_law 606 = .ok (.iload_n 3, 1) := by decide +kernel
theorem dL_law_607 : decode cL_law 607 = .ok (.iconst 3, 1) := by decide +kernel
theorem dL_law_608 : decode cL_law 608 = .ok (.iadd, 1) := by decide +kernel
theorem dL_law_609 : decode cL_law 609 = .ok (.iaload, 1) := by decide +kernel
theorem dL_law_610 : decode cL_law 610 = .ok (.aload_n 0, 1) := by decide +kernel
theorem dL_law_611 : decode cL_law 611 = .ok (.iload_n 3, 1) := by decide +kernel
theorem dL_law_612 : decode cL_law 612 = .ok (.iconst 4, 1) := by decide +kernel
theorem dL_law_613 : decode cL_law 613 = .ok (.iadd, 1) := by decide +kernel
theorem dL_law_614 : decode cL_law 614 = .ok (.iaload, 1) := by decide +kernel
theorem dL_law_615 : decode cL_law 615 = .ok (.invokevirtual 81, 3) := by decide +kernel
theorem dL_law_618 : decode cL_law 618 = .ok (.aload_n 2, 1) := by decide +kernel
theorem dL_law_619 : decode cL_law 619 = .ok (.aload_n 0, 1) := by decide +kernel
theorem dL_law_620 : decode cL_law 620 = .ok (.iload_n 3, 1) := by decide +kernel
theorem dL_law_621 : decode cL_law 621 = .ok (.iconst 1, 1) := by decide +kernel
theorem dL_law_622 : decode cL_law 622 = .ok (.iadd, 1) := by decide +kernel
theorem dL_law_623 : decode cL_law 623 = .ok (.iaload, 1) := by decide +kernel
theorem dL_law_624 : decode cL_law 624 = .ok (.aload_n 0, 1) := by decide +kernel
theorem dL_law_625 : decode cL_law 625 = .ok (.iload_n 3, 1) := by decide +kernel
theorem dL_law_626 : decode cL_law 626 = .ok (.iconst 2, 1) := by decide +kernel
theorem dL_law_627 : decode cL_law 627 = .ok (.iadd, 1) := by decide +kernel
theorem dL_law_628 : decode cL_law 628 = .ok (.iaload, 1) := by decide +kernel
theorem dL_law_629 : decode cL_law 629 = .ok (.aload_n 0, 1) := by decide +kernel
theorem dL_law_630 : decode cL_law 630 = .ok (.iload_n 3, 1) := by decide +kernel
theorem dL_law_631 : decode cL_law 631 = .ok (.iconst 3, 1) := by decide +kernel
theorem dL_law_632 : decode cL_law 632 = .ok (.iadd, 1) := by decide +kernel
theorem dL_law_633 : decode cL_law 633 = .ok (.iaload, 1) := by decide +kernel
theorem dL_law_634 : decode cL_law 634 = .ok (.aload_n 0, 1) := by decide +kernel
theorem dL_law_635 : decode cL_law 635 = .ok (.iload_n 3, 1) := by decide +kernel
theorem dL_law_636 : decode cL_law 636 = .ok (.iconst 4, 1) := by decide +kernel
theorem dL_law_637 : decode cL_law 637 = .ok (.iadd, 1) := by decide +kernel
theorem dL_law_638 : decode cL_law 638 = .ok (.iaload, 1) := by decide +kernel
theorem dL_law_639 : decode cL_law 639 = .ok (.invokevirtual 85, 3) := by decide +kernel
theorem dL_law_642 : decode cL_law 642 = .ok (.if_icmp .eq 493, 3) := by decide +kernel
theorem dL_law_645 : decode cL_law 645 = .ok (.iconst 0, 1) := by decide +kernel
theorem dL_law_646 : decode cL_law 646 = .ok (.ireturn, 1) := by decide +kernel
theorem dL_law_647 : decode cL_law 647 = .ok (.aload_n 1, 1) := by decide +kernel
theorem dL_law_648 : decode cL_law 648 = .ok (.aload_n 0, 1) := by decide +kernel
theorem dL_law_649 : decode cL_law 649 = .ok (.iload_n 3, 1) := by decide +kernel
theorem dL_law_650 : decode cL_law 650 = .ok (.iconst 1, 1) := by decide +kernel
theorem dL_law_651 : decode cL_law 651 = .ok (.iadd, 1) := by decide +kernel
theorem dL_law_652 : decode cL_law 652 = .ok (.iaload, 1) := by decide +kernel
theorem dL_law_653 : decode cL_law 653 = .ok (.aload_n 0, 1) := by decide +kernel
theorem dL_law_654 : decode cL_law 654 = .ok (.iload_n 3, 1) := by decide +kernel
theorem dL_law_655 : decode cL_law 655 = .ok (.iconst 2, 1) := by decide +kernel
theorem dL_law_656 : decode cL_law 656 = .ok (.iadd, 1) := by decide +kernel
theorem dL_law_657 : decode cL_law 657 = .ok (.iaload, 1) := by decide +kernel
theorem dL_law_658 : decode cL_law 658 = .ok (.invokevirtual 86, 3) := by decide +kernel
theorem dL_law_661 : decode cL_law 661 = .ok (.aload_n 2, 1) := by decide +kernel
theorem dL_law_662 : decode cL_law 662 = .ok (.aload_n 0, 1) := by decide +kernel
theorem dL_law_663 : decode cL_law 663 = .ok (.iload_n 3, 1) := by decide +kernel
theorem dL_law_664 : decode cL_law 664 = .ok (.iconst 1, 1) := by decide +kernel
theorem dL_law_665 : decode cL_law 665 = .ok (.iadd, 1) := by decide +kernel
theorem dL_law_666 : decode cL_law 666 = .ok (.iaload, 1) := by decide +kernel
theorem dL_law_667 : decode cL_law 667 = .ok (.aload_n 0, 1) := by decide +kernel
theorem dL_law_668 : decode cL_law 668 = .ok (.iload_n 3, 1) := by decide +kernel
theorem dL_law_669 : decode cL_law 669 = .ok (.iconst 2, 1) := by decide +kernel
theorem dL_law_670 : decode cL_law 670 = .ok (.iadd, 1) := by decide +kernel
theorem dL_law_671 : decode cL_law 671 = .ok (.iaload, 1) := by decide +kernel
theorem dL_law_672 : decode cL_law 672 = .ok (.invokevirtual 89, 3) := by decide +kernel
theorem dL_law_675 : decode cL_law 675 = .ok (.if_icmp .eq 460, 3) := by decide +kernel
theorem dL_law_678 : decode cL_law 678 = .ok (.iconst 0, 1) := by decide +kernel
theorem dL_law_679 : decode cL_law 679 = .ok (.ireturn, 1) := by decide +kernel
theorem dL_law_680 : decode cL_law 680 = .ok (.aload_n 1, 1) := by decide +kernel
theorem dL_law_681 : decode cL_law 681 = .ok (.aload_n 0, 1) := by decide +kernel
theorem dL_law_682 : decode cL_law 682 = .ok (.iload_n 3, 1) := by decide +kernel
theorem dL_law_683 : decode cL_law 683 = .ok (.iconst 1, 1) := by decide +kernel
theorem dL_law_684 : decode cL_law 684 = .ok (.iadd, 1) := by decide +kernel
theorem dL_law_685 : decode cL_law 685 = .ok (.iaload, 1) := by decide +kernel
theorem dL_law_686 : decode cL_law 686 = .ok (.aload_n 0, 1) := by decide +kernel
theorem dL_law_687 : decode cL_law 687 = .ok (.iload_n 3, 1) := by decide +kernel
theorem dL_law_688 : decode cL_law 688 = .ok (.iconst 2, 1) := by decide +kernel
theorem dL_law_689 : decode cL_law 689 = .ok (.iadd, 1) := by decide +kernel
theorem dL_law_690 : decode cL_law 690 = .ok (.iaload, 1) := by decide +kernel
theorem dL_law_691 : decode cL_law 691 = .ok (.aload_n 0, 1) := by decide +kernel
theorem dL_law_692 : decode cL_law 692 = .ok (.iload_n 3, 1) := by decide +kernel
theorem dL_law_693 : decode cL_law 693 = .ok (.iconst 3, 1) := by decide +kernel
theorem dL_law_694 : decode cL_law 694 = .ok (.iadd, 1) := by decide +kernel
theorem dL_law_695 : decode cL_law 695 = .ok (.iaload, 1) := by decide +kernel
theorem dL_law_696 : decode cL_law 696 = .ok (.invokevirtual 90, 3) := by decide +kernel
theorem dL_law_699 : decode cL_law 699 = .ok (.aload_n 2, 1) := by decide +kernel
theorem dL_law_700 : decode cL_law 700 = .ok (.aload_n 0, 1) := by decide +kernel
theorem dL_law_701 : decode cL_law 701 = .ok (.iload_n 3, 1) := by decide +kernel
theorem dL_law_702 : decode cL_law 702 = .ok (.iconst 1, 1) := by decide +kernel
theorem dL_law_703 : decode cL_law 703 = .ok (.iadd, 1) := by decide +kernel
theorem dL_law_704 : decode cL_law 704 = .ok (.iaload, 1) := by decide +kernel
theorem dL_law_705 : decode cL_law 705 = .ok (.aload_n 0, 1) := by decide +kernel
theorem dL_law_706 : decode cL_law 706 = .ok (.iload_n 3, 1) := by decide +kernel
theorem dL_law_707 : decode cL_law 707 = .ok (.iconst 2, 1) := by decide +kernel
theorem dL_law_708 : decode cL_law 708 = .ok (.iadd, 1) := by decide +kernel
theorem dL_law_709 : decode cL_law 709 = .ok (.iaload, 1) := by decide +kernel
theorem dL_law_710 : decode cL_law 710 = .ok (.aload_n 0, 1) := by decide +kernel
theorem dL_law_711 : decode cL_law 711 = .ok (.iload_n 3, 1) := by decide +kernel
theorem dL_law_712 : decode cL_law 712 = .ok (.iconst 3, 1) := by decide +kernel
theorem dL_law_713 : decode cL_law 713 = .ok (.iadd, 1) := by decide +kernel
theorem dL_law_714 : decode cL_law 714 = .ok (.iaload, 1) := by decide +kernel
theorem dL_law_715 : decode cL_law 715 = .ok (.invokevirtual 94, 3) := by decide +kernel
theorem dL_law_718 : decode cL_law 718 = .ok (.if_icmp .eq 417, 3) := by decide +kernel
theorem dL_law_721 : decode cL_law 721 = .ok (.iconst 0, 1) := by decide +kernel
theorem dL_law_722 : decode cL_law 722 = .ok (.ireturn, 1) := by decide +kernel
theorem dL_law_723 : decode cL_law 723 = .ok (.aload_n 1, 1) := by decide +kernel
theorem dL_law_724 : decode cL_law 724 = .ok (.aload_n 0, 1) := by decide +kernel
theorem dL_law_725 : decode cL_law 725 = .ok (.iload_n 3, 1) := by decide +kernel
theorem dL_law_726 : decode cL_law 726 = .ok (.iconst 1, 1) := by decide +kernel
theorem dL_law_727 : decode cL_law 727 = .ok (.iadd, 1) := by decide +kernel
theorem dL_law_728 : decode cL_law 728 = .ok (.iaload, 1) := by decide +kernel
theorem dL_law_729 : decode cL_law 729 = .ok (.invokevirtual 95, 3) := by decide +kernel
theorem dL_law_732 : decode cL_law 732 = .ok (.aload_n 2, 1) := by decide +kernel
theorem dL_law_733 : decode cL_law 733 = .ok (.aload_n 0, 1) := by decide +kernel
theorem dL_law_734 : decode cL_law 734 = .ok (.iload_n 3, 1) := by decide +kernel
theorem dL_law_735 : decode cL_law 735 = .ok (.iconst 1, 1) := by decide +kernel
theorem dL_law_736 : decode cL_law 736 = .ok (.iadd, 1) := by decide +kernel
theorem dL_law_737 : decode cL_law 737 = .ok (.iaload, 1) := by decide +kernel
theorem dL_law_738 : decode cL_law 738 = .ok (.invokevirtual 98, 3) := by decide +kernel
theorem dL_law_741 : decode cL_law 741 = .ok (.if_icmp .eq 394, 3) := by decide +kernel
theorem dL_law_744 : decode cL_law 744 = .ok (.iconst 0, 1) := by decide +kernel
theorem dL_law_745 : decode cL_law 745 = .ok (.ireturn, 1) := by decide +kernel
theorem dL_law_746 : decode cL_law 746 = .ok (.aload_n 1, 1) := by decide +kernel
theorem dL_law_747 : decode cL_law 747 = .ok (.aload_n 0, 1) := by decide +kernel
theorem dL_law_748 : decode cL_law 748 = .ok (.iload_n 3, 1) := by decide +kernel
theorem dL_law_749 : decode cL_law 749 = .ok (.iconst 1, 1) := by decide +kernel
theorem dL_law_750 : decode cL_law 750 = .ok (.iadd, 1) := by decide +kernel
theorem dL_law_751 : decode cL_law 751 = .ok (.iaload, 1) := by decide +kernel
theorem dL_law_752 : decode cL_law 752 = .ok (.aload_n 0, 1) := by decide +kernel
theorem dL_law_753 : decode cL_law 753 = .ok (.iload_n 3, 1) := by decide +kernel
theorem dL_law_754 : decode cL_law 754 = .ok (.iconst 2, 1) := by decide +kernel
theorem dL_law_755 : decode cL_law 755 = .ok (.iadd, 1) := by decide +kernel
theorem dL_law_756 : decode cL_law 756 = .ok (.iaload, 1) := by decide +kernel
theorem dL_law_757 : decode cL_law 757 = .ok (.invokevirtual 99, 3) := by decide +kernel
theorem dL_law_760 : decode cL_law 760 = .ok (.aload_n 2, 1) := by decide +kernel
theorem dL_law_761 : decode cL_law 761 = .ok (.aload_n 0, 1) := by decide +kernel
theorem dL_law_762 : decode cL_law 762 = .ok (.iload_n 3, 1) := by decide +kernel
theorem dL_law_763 : decode cL_law 763 = .ok (.iconst 1, 1) := by decide +kernel
theorem dL_law_764 : decode cL_law 764 = .ok (.iadd, 1) := by decide +kernel
theorem dL_law_765 : decode cL_law 765 = .ok (.iaload, 1) := by decide +kernel
theorem dL_law_766 : decode cL_law 766 = .ok (.aload_n 0, 1) := by decide +kernel
theorem dL_law_767 : decode cL_law 767 = .ok (.iload_n 3, 1) := by decide +kernel
theorem dL_law_768 : decode cL_law 768 = .ok (.iconst 2, 1) := by decide +kernel
theorem dL_law_769 : decode cL_law 769 = .ok (.iadd, 1) := by decide +kernel
theorem dL_law_770 : decode cL_law 770 = .ok (.iaload, 1) := by decide +kernel
theorem dL_law_771 : decode cL_law 771 = .ok (.invokevirtual 102, 3) := by decide +kernel
theorem dL_law_774 : decode cL_law 774 = .ok (.if_icmp .eq 361, 3) := by decide +kernel
theorem dL_law_777 : decode cL_law 777 = .ok (.iconst 0, 1) := by decide +kernel
theorem dL_law_778 : decode cL_law 778 = .ok (.ireturn, 1) := by decide +kernel
theorem dL_law_779 : decode cL_law 779 = .ok (.aload_n 1, 1) := by decide +kernel
theorem dL_law_780 : decode cL_law 780 = .ok (.aload_n 0, 1) := by decide +kernel
theorem dL_law_781 : decode cL_law 781 = .ok (.iload_n 3, 1) := by decide +kernel
theorem dL_law_782 : decode cL_law 782 = .ok (.iconst 1, 1) := by decide +kernel
theorem dL_law_783 : decode cL_law 783 = .ok (.iadd, 1) := by decide +kernel
theorem dL_law_784 : decode cL_law 784 = .ok (.iaload, 1) := by decide +kernel
theorem dL_law_785 : decode cL_law 785 = .ok (.aload_n 0, 1) := by decide +kernel
theorem dL_law_786 : decode cL_law 786 = .ok (.iload_n 3, 1) := by decide +kernel
theorem dL_law_787 : decode cL_law 787 = .ok (.iconst 2, 1) := by decide +kernel
theorem dL_law_788 : decode cL_law 788 = .ok (.iadd, 1) := by decide +kernel
theorem dL_law_789 : decode cL_law 789 = .ok (.iaload, 1) := by decide +kernel
theorem dL_law_790 : decode cL_law 790 = .ok (.invokevirtual 103, 3) := by decide +kernel
theorem dL_law_793 : decode cL_law 793 = .ok (.aload_n 2, 1) := by decide +kernel
theorem dL_law_794 : decode cL_law 794 = .ok (.aload_n 0, 1) := by decide +kernel
theorem dL_law_795 : decode cL_law 795 = .ok (.iload_n 3, 1) := by decide +kernel
theorem dL_law_796 : decode cL_law 796 = .ok (.iconst 1, 1) := by decide +kernel
theorem dL_law_797 : decode cL_law 797 = .ok (.iadd, 1) := by decide +kernel
theorem dL_law_798 : decode cL_law 798 = .ok (.iaload, 1) := by decide +kernel
theorem dL_law_799 : decode cL_law 799 = .ok (.aload_n 0, 1) := by decide +kernel
theorem dL_law_800 : decode cL_law 800 = .ok (.iload_n 3, 1) := by decide +kernel
theorem dL_law_801 : decode cL_law 801 = .ok (.iconst 2, 1) := by decide +kernel
theorem dL_law_802 : decode cL_law 802 = .ok (.iadd, 1) := by decide +kernel
theorem dL_law_803 : decode cL_law 803 = .ok (.iaload, 1) := by decide +kernel
theorem dL_law_804 : decode cL_law 804 = .ok (.invokevirtual 106, 3) := by decide +kernel
theorem dL_law_807 : decode cL_law 807 = .ok (.if_icmp .eq 328, 3) := by decide +kernel
theorem dL_law_810 : decode cL_law 810 = .ok (.iconst 0, 1) := by decide +kernel
theorem dL_law_811 : decode cL_law 811 = .ok (.ireturn, 1) := by decide +kernel
theorem dL_law_812 : decode cL_law 812 = .ok (.aload_n 1, 1) := by decide +kernel
theorem dL_law_813 : decode cL_law 813 = .ok (.aload_n 0, 1) := by decide +kernel
theorem dL_law_814 : decode cL_law 814 = .ok (.iload_n 3, 1) := by decide +kernel
theorem dL_law_815 : decode cL_law 815 = .ok (.iconst 1, 1) := by decide +kernel
theorem dL_law_816 : decode cL_law 816 = .ok (.iadd, 1) := by decide +kernel
theorem dL_law_817 : decode cL_law 817 = .ok (.iaload, 1) := by decide +kernel
theorem dL_law_818 : decode cL_law 818 = .ok (.aload_n 0, 1) := by decide +kernel
theorem dL_law_819 : decode cL_law 819 = .ok (.iload_n 3, 1) := by decide +kernel
theorem dL_law_820 : decode cL_law 820 = .ok (.iconst 2, 1) := by decide +kernel
theorem dL_law_821 : decode cL_law 821 = .ok (.iadd, 1) := by decide +kernel
theorem dL_law_822 : decode cL_law 822 = .ok (.iaload, 1) := by decide +kernel
theorem dL_law_823 : decode cL_law 823 = .ok (.invokevirtual 107, 3) := by decide +kernel
theorem dL_law_826 : decode cL_law 826 = .ok (.aload_n 2, 1) := by decide +kernel
theorem dL_law_827 : decode cL_law 827 = .ok (.aload_n 0, 1) := by decide +kernel
theorem dL_law_828 : decode cL_law 828 = .ok (.iload_n 3, 1) := by decide +kernel
theorem dL_law_829 : decode cL_law 829 = .ok (.iconst 1, 1) := by decide +kernel
theorem dL_law_830 : decode cL_law 830 = .ok (.iadd, 1) := by decide +kernel
theorem dL_law_831 : decode cL_law 831 = .ok (.iaload, 1) := by decide +kernel
theorem dL_law_832 : decode cL_law 832 = .ok (.aload_n 0, 1) := by decide +kernel
theorem dL_law_833 : decode cL_law 833 = .ok (.iload_n 3, 1) := by decide +kernel
theorem dL_law_834 : decode cL_law 834 = .ok (.iconst 2, 1) := by decide +kernel
theorem dL_law_835 : decode cL_law 835 = .ok (.iadd, 1) := by decide +kernel
theorem dL_law_836 : decode cL_law 836 = .ok (.iaload, 1) := by decide +kernel
theorem dL_law_837 : decode cL_law 837 = .ok (.invokevirtual 110, 3) := by decide +kernel
theorem dL_law_840 : decode cL_law 840 = .ok (.if_icmp .eq 295, 3) := by decide +kernel
theorem dL_law_843 : decode cL_law 843 = .ok (.iconst 0, 1) := by decide +kernel
theorem dL_law_844 : decode cL_law 844 = .ok (.ireturn, 1) := by decide +kernel
theorem dL_law_845 : decode cL_law 845 = .ok (.aload_n 1, 1) := by decide +kernel
theorem dL_law_846 : decode cL_law 846 = .ok (.aload_n 0, 1) := by decide +kernel
theorem dL_law_847 : decode cL_law 847 = .ok (.iload_n 3, 1) := by decide +kernel
theorem dL_law_848 : decode cL_law 848 = .ok (.iconst 1, 1) := by decide +kernel
theorem dL_law_849 : decode cL_law 849 = .ok (.iadd, 1) := by decide +kernel
theorem dL_law_850 : decode cL_law 850 = .ok (.iaload, 1) := by decide +kernel
theorem dL_law_851 : decode cL_law 851 = .ok (.aload_n 0, 1) := by decide +kernel
theorem dL_law_852 : decode cL_law 852 = .ok (.iload_n 3, 1) := by decide +kernel
theorem dL_law_853 : decode cL_law 853 = .ok (.iconst 2, 1) := by decide +kernel
theorem dL_law_854 : decode cL_law 854 = .ok (.iadd, 1) := by decide +kernel
theorem dL_law_855 : decode cL_law 855 = .ok (.iaload, 1) := by decide +kernel
theorem dL_law_856 : decode cL_law 856 = .ok (.aload_n 0, 1) := by decide +kernel
theorem dL_law_857 : decode cL_law 857 = .ok (.iload_n 3, 1) := by decide +kernel
theorem dL_law_858 : decode cL_law 858 = .ok (.iconst 3, 1) := by decide +kernel
theorem dL_law_859 : decode cL_law 859 = .ok (.iadd, 1) := by decide +kernel
theorem dL_law_860 : decode cL_law 860 = .ok (.iaload, 1) := by decide +kernel
theorem dL_law_861 : decode cL_law 861 = .ok (.aload_n 0, 1) := by decide +kernel
theorem dL_law_862 : decode cL_law 862 = .ok (.iload_n 3, 1) := by decide +kernel
theorem dL_law_863 : decode cL_law 863 = .ok (.iconst 4, 1) := by decide +kernel
theorem dL_law_864 : decode cL_law 864 = .ok (.iadd, 1) := by decide +kernel
theorem dL_law_865 : decode cL_law 865 = .ok (.iaload, 1) := by decide +kernel
theorem dL_law_866 : decode cL_law 866 = .ok (.invokevirtual 111, 3) := by decide +kernel
theorem dL_law_869 : decode cL_law 869 = .ok (.aload_n 2, 1) := by decide +kernel
theorem dL_law_870 : decode cL_law 870 = .ok (.aload_n 0, 1) := by decide +kernel
theorem dL_law_871 : decode cL_law 871 = .ok (.iload_n 3, 1) := by decide +kernel
theorem dL_law_872 : decode cL_law 872 = .ok (.iconst 1, 1) := by decide +kernel
theorem dL_law_873 : decode cL_law 873 = .ok (.iadd, 1) := by decide +kernel
theorem dL_law_874 : decode cL_law 874 = .ok (.iaload, 1) := by decide +kernel
theorem dL_law_875 : decode cL_law 875 = .ok (.aload_n 0, 1) := by decide +kernel
theorem dL_law_876 : decode cL_law 876 = .ok (.iload_n 3, 1) := by decide +kernel
theorem dL_law_877 : decode cL_law 877 = .ok (.iconst 2, 1) := by decide +kernel
theorem dL_law_878 : decode cL_law 878 = .ok (.iadd, 1) := by decide +kernel
theorem dL_law_879 : decode cL_law 879 = .ok (.iaload, 1) := by decide +kernel
theorem dL_law_880 : decode cL_law 880 = .ok (.aload_n 0, 1) := by decide +kernel
theorem dL_law_881 : decode cL_law 881 = .ok (.iload_n 3, 1) := by decide +kernel
theorem dL_law_882 : decode cL_law 882 = .ok (.iconst 3, 1) := by decide +kernel
theorem dL_law_883 : decode cL_law 883 = .ok (.iadd, 1) := by decide +kernel
theorem dL_law_884 : decode cL_law 884 = .ok (.iaload, 1) := by decide +kernel
theorem dL_law_885 : decode cL_law 885 = .ok (.aload_n 0, 1) := by decide +kernel
theorem dL_law_886 : decode cL_law 886 = .ok (.iload_n 3, 1) := by decide +kernel
theorem dL_law_887 : decode cL_law 887 = .ok (.iconst 4, 1) := by decide +kernel
theorem dL_law_888 : decode cL_law 888 = .ok (.iadd, 1) := by decide +kernel
theorem dL_law_889 : decode cL_law 889 = .ok (.iaload, 1) := by decide +kernel
theorem dL_law_890 : decode cL_law 890 = .ok (.invokevirtual 114, 3) := by decide +kernel
theorem dL_law_893 : decode cL_law 893 = .ok (.if_icmp .eq 242, 3) := by decide +kernel
theorem dL_law_896 : decode cL_law 896 = .ok (.iconst 0, 1) := by decide +kernel
theorem dL_law_897 : decode cL_law 897 = .ok (.ireturn, 1) := by decide +kernel
theorem dL_law_898 : decode cL_law 898 = .ok (.aload_n 1, 1) := by decide +kernel
theorem dL_law_899 : decode cL_law 899 = .ok (.aload_n 0, 1) := by decide +kernel
theorem dL_law_900 : decode cL_law 900 = .ok (.iload_n 3, 1) := by decide +kernel
theorem dL_law_901 : decode cL_law 901 = .ok (.iconst 1, 1) := by decide +kernel
theorem dL_law_902 : decode cL_law 902 = .ok (.iadd, 1) := by decide +kernel
theorem dL_law_903 : decode cL_law 903 = .ok (.iaload, 1) := by decide +kernel
theorem dL_law_904 : decode cL_law 904 = .ok (.aload_n 0, 1) := by decide +kernel
theorem dL_law_905 : decode cL_law 905 = .ok (.iload_n 3, 1) := by decide +kernel
theorem dL_law_906 : decode cL_law 906 = .ok (.iconst 2, 1) := by decide +kernel
theorem dL_law_907 : decode cL_law 907 = .ok (.iadd, 1) := by decide +kernel
theorem dL_law_908 : decode cL_law 908 = .ok (.iaload, 1) := by decide +kernel
theorem dL_law_909 : decode cL_law 909 = .ok (.aload_n 0, 1) := by decide +kernel
theorem dL_law_910 : decode cL_law 910 = .ok (.iload_n 3, 1) := by decide +kernel
theorem dL_law_911 : decode cL_law 911 = .ok (.iconst 3, 1) := by decide +kernel
theorem dL_law_912 : decode cL_law 912 = .ok (.iadd, 1) := by decide +kernel
theorem dL_law_913 : decode cL_law 913 = .ok (.iaload, 1) := by decide +kernel
theorem dL_law_914 : decode cL_law 914 = .ok (.invokevirtual 115, 3) := by decide +kernel
theorem dL_law_917 : decode cL_law 917 = .ok (.aload_n 2, 1) := by decide +kernel
theorem dL_law_918 : decode cL_law 918 = .ok (.aload_n 0, 1) := by decide +kernel
theorem dL_law_919 : decode cL_law 919 = .ok (.iload_n 3, 1) := by decide +kernel
theorem dL_law_920 : decode cL_law 920 = .ok (.iconst 1, 1) := by decide +kernel
theorem dL_law_921 : decode cL_law 921 = .ok (.iadd, 1) := by decide +kernel
theorem dL_law_922 : decode cL_law 922 = .ok (.iaload, 1) := by decide +kernel
theorem dL_law_923 : decode cL_law 923 = .ok (.aload_n 0, 1) := by decide +kernel
theorem dL_law_924 : decode cL_law 924 = .ok (.iload_n 3, 1) := by decide +kernel
theorem dL_law_925 : decode cL_law 925 = .ok (.iconst 2, 1) := by decide +kernel
theorem dL_law_926 : decode cL_law 926 = .ok (.iadd, 1) := by decide +kernel
theorem dL_law_927 : decode cL_law 927 = .ok (.iaload, 1) := by decide +kernel
theorem dL_law_928 : decode cL_law 928 = .ok (.aload_n 0, 1) := by decide +kernel
theorem dL_law_929 : decode cL_law 929 = .ok (.iload_n 3, 1) := by decide +kernel
theorem dL_law_930 : decode cL_law 930 = .ok (.iconst 3, 1) := by decide +kernel
theorem dL_law_931 : decode cL_law 931 = .ok (.iadd, 1) := by decide +kernel
theorem dL_law_932 : decode cL_law 932 = .ok (.iaload, 1) := by decide +kernel
theorem dL_law_933 : decode cL_law 933 = .ok (.invokevirtual 118, 3) := by decide +kernel
theorem dL_law_936 : decode cL_law 936 = .ok (.if_icmp .eq 199, 3) := by decide +kernel
theorem dL_law_939 : decode cL_law 939 = .ok (.iconst 0, 1) := by decide +kernel
theorem dL_law_940 : decode cL_law 940 = .ok (.ireturn, 1) := by decide +kernel
theorem dL_law_941 : decode cL_law 941 = .ok (.aload_n 1, 1) := by decide +kernel
theorem dL_law_942 : decode cL_law 942 = .ok (.aload_n 0, 1) := by decide +kernel
theorem dL_law_943 : decode cL_law 943 = .ok (.iload_n 3, 1) := by decide +kernel
theorem dL_law_944 : decode cL_law 944 = .ok (.iconst 1, 1) := by decide +kernel
theorem dL_law_945 : decode cL_law 945 = .ok (.iadd, 1) := by decide +kernel
theorem dL_law_946 : decode cL_law 946 = .ok (.iaload, 1) := by decide +kernel
theorem dL_law_947 : decode cL_law 947 = .ok (.aload_n 0, 1) := by decide +kernel
theorem dL_law_948 : decode cL_law 948 = .ok (.iload_n 3, 1) := by decide +kernel
theorem dL_law_949 : decode cL_law 949 = .ok (.iconst 2, 1) := by decide +kernel
theorem dL_law_950 : decode cL_law 950 = .ok (.iadd, 1) := by decide +kernel
theorem dL_law_951 : decode cL_law 951 = .ok (.iaload, 1) := by decide +kernel
theorem dL_law_952 : decode cL_law 952 = .ok (.invokevirtual 119, 3) := by decide +kernel
theorem dL_law_955 : decode cL_law 955 = .ok (.aload_n 2, 1) := by decide +kernel
theorem dL_law_956 : decode cL_law 956 = .ok (.aload_n 0, 1) := by decide +kernel
theorem dL_law_957 : decode cL_law 957 = .ok (.iload_n 3, 1) := by decide +kernel
theorem dL_law_958 : decode cL_law 958 = .ok (.iconst 1, 1) := by decide +kernel
theorem dL_law_959 : decode cL_law 959 = .ok (.iadd, 1) := by decide +kernel
theorem dL_law_960 : decode cL_law 960 = .ok (.iaload, 1) := by decide +kernel
theorem dL_law_961 : decode cL_law 961 = .ok (.aload_n 0, 1) := by decide +kernel
theorem dL_law_962 : decode cL_law 962 = .ok (.iload_n 3, 1) := by decide +kernel
theorem dL_law_963 : decode cL_law 963 = .ok (.iconst 2, 1) := by decide +kernel
theorem dL_law_964 : decode cL_law 964 = .ok (.iadd, 1) := by decide +kernel
theorem dL_law_965 : decode cL_law 965 = .ok (.iaload, 1) := by decide +kernel
theorem dL_law_966 : decode cL_law 966 = .ok (.invokevirtual 122, 3) := by decide +kernel
theorem dL_law_969 : decode cL_law 969 = .ok (.if_icmp .eq 166, 3) := by decide +kernel
theorem dL_law_972 : decode cL_law 972 = .ok (.iconst 0, 1) := by decide +kernel
theorem dL_law_973 : decode cL_law 973 = .ok (.ireturn, 1) := by decide +kernel
theorem dL_law_974 : decode cL_law 974 = .ok (.aload_n 1, 1) := by decide +kernel
theorem dL_law_975 : decode cL_law 975 = .ok (.aload_n 0, 1) := by decide +kernel
theorem dL_law_976 : decode cL_law 976 = .ok (.iload_n 3, 1) := by decide +kernel
theorem dL_law_977 : decode cL_law 977 = .ok (.iconst 1, 1) := by decide +kernel
theorem dL_law_978 : decode cL_law 978 = .ok (.iadd, 1) := by decide +kernel
theorem dL_law_979 : decode cL_law 979 = .ok (.iaload, 1) := by decide +kernel
theorem dL_law_980 : decode cL_law 980 = .ok (.invokevirtual 123, 3) := by decide +kernel
theorem dL_law_983 : decode cL_law 983 = .ok (.aload_n 2, 1) := by decide +kernel
theorem dL_law_984 : decode cL_law 984 = .ok (.aload_n 0, 1) := by decide +kernel
theorem dL_law_985 : decode cL_law 985 = .ok (.iload_n 3, 1) := by decide +kernel
theorem dL_law_986 : decode cL_law 986 = .ok (.iconst 1, 1) := by decide +kernel
theorem dL_law_987 : decode cL_law 987 = .ok (.iadd, 1) := by decide +kernel
theorem dL_law_988 : decode cL_law 988 = .ok (.iaload, 1) := by decide +kernel
theorem dL_law_989 : decode cL_law 989 = .ok (.invokevirtual 126, 3) := by decide +kernel
theorem dL_law_992 : decode cL_law 992 = .ok (.if_icmp .eq 143, 3) := by decide +kernel
theorem dL_law_995 : decode cL_law 995 = .ok (.iconst 0, 1) := by decide +kernel
theorem dL_law_996 : decode cL_law 996 = .ok (.ireturn, 1) := by decide +kernel
theorem dL_law_997 : decode cL_law 997 = .ok (.aload_n 1, 1) := by decide +kernel
theorem dL_law_998 : decode cL_law 998 = .ok (.aload_n 0, 1) := by decide +kernel
theorem dL_law_999 : decode cL_law 999 = .ok (.iload_n 3, 1) := by decide +kernel
theorem dL_law_1000 : decode cL_law 1000 = .ok (.iconst 1, 1) := by decide +kernel
theorem dL_law_1001 : decode cL_law 1001 = .ok (.iadd, 1) := by decide +kernel
theorem dL_law_1002 : decode cL_law 1002 = .ok (.iaload, 1) := by decide +kernel
theorem dL_law_1003 : decode cL_law 1003 = .ok (.aload_n 0, 1) := by decide +kernel
theorem dL_law_1004 : decode cL_law 1004 = .ok (.iload_n 3, 1) := by decide +kernel
theorem dL_law_1005 : decode cL_law 1005 = .ok (.iconst 2, 1) := by decide +kernel
theorem dL_law_1006 : decode cL_law 1006 = .ok (.iadd, 1) := by decide +kernel
theorem dL_law_1007 : decode cL_law 1007 = .ok (.iaload, 1) := by decide +kernel
theorem dL_law_1008 : decode cL_law 1008 = .ok (.aload_n 0, 1) := by decide +kernel
theorem dL_law_1009 : decode cL_law 1009 = .ok (.iload_n 3, 1) := by decide +kernel
theorem dL_law_1010 : decode cL_law 1010 = .ok (.iconst 3, 1) := by decide +kernel
theorem dL_law_1011 : decode cL_law 1011 = .ok (.iadd, 1) := by decide +kernel
theorem dL_law_1012 : decode cL_law 1012 = .ok (.iaload, 1) := by decide +kernel
theorem dL_law_1013 : decode cL_law 1013 = .ok (.invokevirtual 127, 3) := by decide +kernel
theorem dL_law_1016 : decode cL_law 1016 = .ok (.aload_n 2, 1) := by decide +kernel
theorem dL_law_1017 : decode cL_law 1017 = .ok (.aload_n 0, 1) := by decide +kernel
theorem dL_law_1018 : decode cL_law 1018 = .ok (.iload_n 3, 1) := by decide +kernel
theorem dL_law_1019 : decode cL_law 1019 = .ok (.iconst 1, 1) := by decide +kernel
theorem dL_law_1020 : decode cL_law 1020 = .ok (.iadd, 1) := by decide +kernel
theorem dL_law_1021 : decode cL_law 1021 = .ok (.iaload, 1) := by decide +kernel
theorem dL_law_1022 : decode cL_law 1022 = .ok (.aload_n 0, 1) := by decide +kernel
theorem dL_law_1023 : decode cL_law 1023 = .ok (.iload_n 3, 1) := by decide +kernel
theorem dL_law_1024 : decode cL_law 1024 = .ok (.iconst 2, 1) := by decide +kernel
theorem dL_law_1025 : decode cL_law 1025 = .ok (.iadd, 1) := by decide +kernel
theorem dL_law_1026 : decode cL_law 1026 = .ok (.iaload, 1) := by decide +kernel
theorem dL_law_1027 : decode cL_law 1027 = .ok (.aload_n 0, 1) := by decide +kernel
theorem dL_law_1028 : decode cL_law 1028 = .ok (.iload_n 3, 1) := by decide +kernel
theorem dL_law_1029 : decode cL_law 1029 = .ok (.iconst 3, 1) := by decide +kernel
theorem dL_law_1030 : decode cL_law 1030 = .ok (.iadd, 1) := by decide +kernel
theorem dL_law_1031 : decode cL_law 1031 = .ok (.iaload, 1) := by decide +kernel
theorem dL_law_1032 : decode cL_law 1032 = .ok (.invokevirtual 130, 3) := by decide +kernel
theorem dL_law_1035 : decode cL_law 1035 = .ok (.if_icmp .eq 100, 3) := by decide +kernel
theorem dL_law_1038 : decode cL_law 1038 = .ok (.iconst 0, 1) := by decide +kernel
theorem dL_law_1039 : decode cL_law 1039 = .ok (.ireturn, 1) := by decide +kernel
theorem dL_law_1040 : decode cL_law 1040 = .ok (.aload_n 1, 1) := by decide +kernel
theorem dL_law_1041 : decode cL_law 1041 = .ok (.invokevirtual 131, 3) := by decide +kernel
theorem dL_law_1044 : decode cL_law 1044 = .ok (.aload_n 2, 1) := by decide +kernel
theorem dL_law_1045 : decode cL_law 1045 = .ok (.invokevirtual 134, 3) := by decide +kernel
theorem dL_law_1048 : decode cL_law 1048 = .ok (.if_icmp .eq 87, 3) := by decide +kernel
theorem dL_law_1051 : decode cL_law 1051 = .ok (.iconst 0, 1) := by decide +kernel
theorem dL_law_1052 : decode cL_law 1052 = .ok (.ireturn, 1) := by decide +kernel
theorem dL_law_1053 : decode cL_law 1053 = .ok (.aload_n 1, 1) := by decide +kernel
theorem dL_law_1054 : decode cL_law 1054 = .ok (.invokevirtual 135, 3) := by decide +kernel
theorem dL_law_1057 : decode cL_law 1057 = .ok (.aload_n 2, 1) := by decide +kernel
theorem dL_law_1058 : decode cL_law 1058 = .ok (.invokevirtual 138, 3) := by decide +kernel
theorem dL_law_1061 : decode cL_law 1061 = .ok (.if_icmp .eq 74, 3) := by decide +kernel
theorem dL_law_1064 : decode cL_law 1064 = .ok (.iconst 0, 1) := by decide +kernel
theorem dL_law_1065 : decode cL_law 1065 = .ok (.ireturn, 1) := by decide +kernel
theorem dL_law_1066 : decode cL_law 1066 = .ok (.aload_n 1, 1) := by decide +kernel
theorem dL_law_1067 : decode cL_law 1067 = .ok (.aload_n 0, 1) := by decide +kernel
theorem dL_law_1068 : decode cL_law 1068 = .ok (.iload_n 3, 1) := by decide +kernel
theorem dL_law_1069 : decode cL_law 1069 = .ok (.iconst 1, 1) := by decide +kernel
theorem dL_law_1070 : decode cL_law 1070 = .ok (.iadd, 1) := by decide +kernel
theorem dL_law_1071 : decode cL_law 1071 = .ok (.iaload, 1) := by decide +kernel
theorem dL_law_1072 : decode cL_law 1072 = .ok (.invokevirtual 139, 3) := by decide +kernel
theorem dL_law_1075 : decode cL_law 1075 = .ok (.aload_n 2, 1) := by decide +kernel
theorem dL_law_1076 : decode cL_law 1076 = .ok (.aload_n 0, 1) := by decide +kernel
theorem dL_law_1077 : decode cL_law 1077 = .ok (.iload_n 3, 1) := by decide +kernel
theorem dL_law_1078 : decode cL_law 1078 = .ok (.iconst 1, 1) := by decide +kernel
theorem dL_law_1079 : decode cL_law 1079 = .ok (.iadd, 1) := by decide +kernel
theorem dL_law_1080 : decode cL_law 1080 = .ok (.iaload, 1) := by decide +kernel
theorem dL_law_1081 : decode cL_law 1081 = .ok (.invokevirtual 142, 3) := by decide +kernel
theorem dL_law_1084 : decode cL_law 1084 = .ok (.if_icmp .eq 51, 3) := by decide +kernel
theorem dL_law_1087 : decode cL_law 1087 = .ok (.iconst 0, 1) := by decide +kernel
theorem dL_law_1088 : decode cL_law 1088 = .ok (.ireturn, 1) := by decide +kernel
theorem dL_law_1089 : decode cL_law 1089 = .ok (.aload_n 1, 1) := by decide +kernel
theorem dL_law_1090 : decode cL_law 1090 = .ok (.aload_n 0, 1) := by decide +kernel
theorem dL_law_1091 : decode cL_law 1091 = .ok (.iload_n 3, 1) := by decide +kernel
theorem dL_law_1092 : decode cL_law 1092 = .ok (.iconst 1, 1) := by decide +kernel
theorem dL_law_1093 : decode cL_law 1093 = .ok (.iadd, 1) := by decide +kernel
theorem dL_law_1094 : decode cL_law 1094 = .ok (.iaload, 1) := by decide +kernel
theorem dL_law_1095 : decode cL_law 1095 = .ok (.invokevirtual 143, 3) := by decide +kernel
theorem dL_law_1098 : decode cL_law 1098 = .ok (.aload_n 2, 1) := by decide +kernel
theorem dL_law_1099 : decode cL_law 1099 = .ok (.aload_n 0, 1) := by decide +kernel
theorem dL_law_1100 : decode cL_law 1100 = .ok (.iload_n 3, 1) := by decide +kernel
theorem dL_law_1101 : decode cL_law 1101 = .ok (.iconst 1, 1) := by decide +kernel
theorem dL_law_1102 : decode cL_law 1102 = .ok (.iadd, 1) := by decide +kernel
theorem dL_law_1103 : decode cL_law 1103 = .ok (.iaload, 1) := by decide +kernel
theorem dL_law_1104 : decode cL_law 1104 = .ok (.invokevirtual 146, 3) := by decide +kernel
theorem dL_law_1107 : decode cL_law 1107 = .ok (.if_icmp .eq 28, 3) := by decide +kernel
theorem dL_law_1110 : decode cL_law 1110 = .ok (.iconst 0, 1) := by decide +kernel
theorem dL_law_1111 : decode cL_law 1111 = .ok (.ireturn, 1) := by decide +kernel
theorem dL_law_1112 : decode cL_law 1112 = .ok (.aload_n 1, 1) := by decide +kernel
theorem dL_law_1113 : decode cL_law 1113 = .ok (.aload_n 0, 1) := by decide +kernel
theorem dL_law_1114 : decode cL_law 1114 = .ok (.iload_n 3, 1) := by decide +kernel
theorem dL_law_1115 : decode cL_law 1115 = .ok (.iconst 1, 1) := by decide +kernel
theorem dL_law_1116 : decode cL_law 1116 = .ok (.iadd, 1) := by decide +kernel
theorem dL_law_1117 : decode cL_law 1117 = .ok (.iaload, 1) := by decide +kernel
theorem dL_law_1118 : decode cL_law 1118 = .ok (.invokevirtual 147, 3) := by decide +kernel
theorem dL_law_1121 : decode cL_law 1121 = .ok (.aload_n 2, 1) := by decide +kernel
theorem dL_law_1122 : decode cL_law 1122 = .ok (.aload_n 0, 1) := by decide +kernel
theorem dL_law_1123 : decode cL_law 1123 = .ok (.iload_n 3, 1) := by decide +kernel
theorem dL_law_1124 : decode cL_law 1124 = .ok (.iconst 1, 1) := by decide +kernel
theorem dL_law_1125 : decode cL_law 1125 = .ok (.iadd, 1) := by decide +kernel
theorem dL_law_1126 : decode cL_law 1126 = .ok (.iaload, 1) := by decide +kernel
theorem dL_law_1127 : decode cL_law 1127 = .ok (.invokevirtual 150, 3) := by decide +kernel
theorem dL_law_1130 : decode cL_law 1130 = .ok (.if_icmp .eq 5, 3) := by decide +kernel
theorem dL_law_1133 : decode cL_law 1133 = .ok (.iconst 0, 1) := by decide +kernel
theorem dL_law_1134 : decode cL_law 1134 = .ok (.ireturn, 1) := by decide +kernel
theorem dL_law_1135 : decode cL_law 1135 = .ok (.iinc 3 5, 3) := by decide +kernel
theorem dL_law_1138 : decode cL_law 1138 = .ok (.goto (-1120), 3) := by decide +kernel
theorem dL_law_1141 : decode cL_law 1141 = .ok (.iconst 1, 1) := by decide +kernel
theorem dL_law_1142 : decode cL_law 1142 = .ok (.ireturn, 1) := by decide +kernel
