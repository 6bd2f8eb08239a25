theorem dX0_init_0 : decode cX0_init 0 = .ok (.aload_n 0, 1) := by decide +kernel
theorem dX0_init_1 : decode cX0_init 1 = .ok (.invokespecial 3, 3) := by decide +kernel
theorem dX0_init_4 : decode cX0_init 4 = .ok (.aload_n 0, 1) := by decide +kernel
theorem dX0_init_5 : decode cX0_init 5 = .ok (.bipush 12, 2) := by decide +kernel
theorem dX0_init_7 : decode cX0_init 7 = .ok (.anewarray 9, 3) := by decide +kernel
theorem dX0_init_10 : decode cX0_init 10 = .ok (.putfield 11, 3) := by decide +kernel
theorem dX0_init_13 : decode cX0_init 13 = .ok (.iconst 0, 1) := by decide +kernel
theorem dX0_init_14 : decode cX0_init 14 = .ok (.istore_n 1, 1) := by decide +kernel
theorem dX0_init_15 : decode cX0_init 15 = .ok (.iload_n 1, 1) := by decide +kernel
theorem dX0_init_16 : decode cX0_init 16 = .ok (.bipush 12, 2) := by decide +kernel
theorem dX0_init_18 : decode cX0_init 18 = .ok (.if_icmp .ge 22, 3) := by decide +kernel
theorem dX0_init_21 : decode cX0_init 21 = .ok (.aload_n 0, 1) := by decide +kernel
theorem dX0_init_22 : decode cX0_init 22 = .ok (.getfield 11, 3) := by decide +kernel
theorem dX0_init_25 : decode cX0_init 25 = .ok (.iload_n 1, 1) := by decide +kernel
theorem dX0_init_26 : decode cX0_init 26 = .ok (.new 9, 3) := by decide +kernel
theorem dX0_init_29 : decode cX0_init 29 = .ok (.dup, 1) := by decide +kernel
theorem dX0_init_30 : decode cX0_init 30 = .ok (.invokespecial 17, 3) := by decide +kernel
theorem dX0_init_33 : decode cX0_init 33 = .ok (.aastore, 1) := by decide +kernel
theorem dX0_init_34 : decode cX0_init 34 = .ok (.iinc 1 1, 3) := by decide +kernel
theorem dX0_init_37 : decode cX0_init 37 = .ok (.goto (-22), 3) := by decide +kernel
theorem dX0_init_40 : decode cX0_init 40 = .ok (.return_, 1) := by decide +kernel
theorem dX0_forgetAll_0 : decode cX0_forgetAll 0 = .ok (.aload_n 0, 1) := by decide +kernel
theorem dX0_forgetAll_1 : decode cX0_forgetAll 1 = .ok (.iconst 0, 1) := by decide +kernel
theorem dX0_forgetAll_2 : decode cX0_forgetAll 2 = .ok (.putfield 18, 3) := by decide +kernel
theorem dX0_forgetAll_5 : decode cX0_forgetAll 5 = .ok (.return_, 1) := by decide +kernel
theorem dX0_remember_0 : decode cX0_remember 0 = .ok (.aload_n 0, 1) := by decide +kernel
theorem dX0_remember_1 : decode cX0_remember 1 = .ok (.getfield 18, 3) := by decide +kernel
theorem dX0_remember_4 : decode cX0_remember 4 = .ok (.bipush 12, 2) := by decide +kernel
theorem dX0_remember_6 : decode cX0_remember 6 = .ok (.if_icmp .ne 26, 3) := by decide +kernel
theorem dX0_remember_9 : decode cX0_remember 9 = .ok (.aload_n 0, 1) := by decide +kernel
theorem dX0_remember_10 : decode cX0_remember 10 = .ok (.aload_n 0, 1) := by decide +kernel
theorem dX0_remember_11 : decode cX0_remember 11 = .ok (.getfield 22, 3) := by decide +kernel
theorem dX0_remember_14 : decode cX0_remember 14 = .ok (.iconst 1, 1) := by decide +kernel
theorem dX0_remember_15 : decode cX0_remember 15 = .ok (.iadd, 1) := by decide +kernel
theorem dX0_remember_16 : decode cX0_remember 16 = .ok (.bipush 12, 2) := by decide +kernel
theorem dX0_remember_18 : decode cX0_remember 18 = .ok (.irem, 1) := by decide +kernel
theorem dX0_remember_19 : decode cX0_remember 19 = .ok (.putfield 22, 3) := by decide +kernel
theorem dX0_remember_22 : decode cX0_remember 22 = .ok (.aload_n 0, 1) := by decide +kernel
theorem dX0_remember_23 : decode cX0_remember 23 = .ok (.dup, 1) := by decide +kernel
theorem dX0_remember_24 : decode cX0_remember 24 = .ok (.getfield 18, 3) := by decide +kernel
theorem dX0_remember_27 : decode cX0_remember 27 = .ok (.iconst 1, 1) := by decide +kernel
theorem dX0_remember_28 : decode cX0_remember 28 = .ok (.isub, 1) := by decide +kernel
theorem dX0_remember_29 : decode cX0_remember 29 = .ok (.putfield 18, 3) := by decide +kernel
theorem dX0_remember_32 : decode cX0_remember 32 = .ok (.aload_n 0, 1) := by decide +kernel
theorem dX0_remember_33 : decode cX0_remember 33 = .ok (.getfield 11, 3) := by decide +kernel
theorem dX0_remember_36 : decode cX0_remember 36 = .ok (.aload_n 0, 1) := by decide +kernel
theorem dX0_remember_37 : decode cX0_remember 37 = .ok (.getfield 22, 3) := by decide +kernel
theorem dX0_remember_40 : decode cX0_remember 40 = .ok (.aload_n 0, 1) := by decide +kernel
theorem dX0_remember_41 : decode cX0_remember 41 = .ok (.getfield 18, 3) := by decide +kernel
theorem dX0_remember_44 : decode cX0_remember 44 = .ok (.iadd, 1) := by decide +kernel
theorem dX0_remember_45 : decode cX0_remember 45 = .ok (.bipush 12, 2) := by decide +kernel
theorem dX0_remember_47 : decode cX0_remember 47 = .ok (.irem, 1) := by decide +kernel
theorem dX0_remember_48 : decode cX0_remember 48 = .ok (.aaload, 1) := by decide +kernel
theorem dX0_remember_49 : decode cX0_remember 49 = .ok (.aload_n 1, 1) := by decide +kernel
theorem dX0_remember_50 : decode cX0_remember 50 = .ok (.invokevirtual 25, 3) := by decide +kernel
theorem dX0_remember_53 : decode cX0_remember 53 = .ok (.aload_n 0, 1) := by decide +kernel
theorem dX0_remember_54 : decode cX0_remember 54 = .ok (.dup, 1) := by decide +kernel
theorem dX0_remember_55 : decode cX0_remember 55 = .ok (.getfield 18, 3) := by decide +kernel
theorem dX0_remember_58 : decode cX0_remember 58 = .ok (.iconst 1, 1) := by decide +kernel
theorem dX0_remember_59 : decode cX0_remember 59 = .ok (.iadd, 1) := by decide +kernel
theorem dX0_remember_60 : decode cX0_remember 60 = .ok (.putfield 18, 3) := by decide +kernel
theorem dX0_remember_63 : decode cX0_remember 63 = .ok (.return_, 1) := by decide +kernel
theorem dX0_takeBack_0 : decode cX0_takeBack 0 = .ok (.aload_n 0, 1) := by decide +kernel
theorem dX0_takeBack_1 : decode cX0_takeBack 1 = .ok (.getfield 18, 3) := by decide +kernel
theorem dX0_takeBack_4 : decode cX0_takeBack 4 = .ok (.ifCond .le 34, 3) := by decide +kernel
theorem dX0_takeBack_7 : decode cX0_takeBack 7 = .ok (.aload_n 0, 1) := by decide +kernel
theorem dX0_takeBack_8 : decode cX0_takeBack 8 = .ok (.dup, 1) := by decide +kernel
theorem dX0_takeBack_9 : decode cX0_takeBack 9 = .ok (.getfield 18, 3) := by decide +kernel
theorem dX0_takeBack_12 : decode cX0_takeBack 12 = .ok (.iconst 1, 1) := by decide +kernel
theorem dX0_takeBack_13 : decode cX0_takeBack 13 = .ok (.isub, 1) := by decide +kernel
theorem dX0_takeBack_14 : decode cX0_takeBack 14 = .ok (.putfield 18, 3) := by decide +kernel
theorem dX0_takeBack_17 : decode cX0_takeBack 17 = .ok (.aload_n 1, 1) := by decide +kernel
theorem dX0_takeBack_18 : decode cX0_takeBack 18 = .ok (.aload_n 0, 1) := by decide +kernel
theorem dX0_takeBack_19 : decode cX0_takeBack 19 = .ok (.getfield 11, 3) := by decide +kernel
theorem dX0_takeBack_22 : decode cX0_takeBack 22 = .ok (.aload_n 0, 1) := by decide +kernel
theorem dX0_takeBack_23 : decode cX0_takeBack 23 = .ok (.getfield 22, 3) := by decide +kernel
theorem dX0_takeBack_26 : decode cX0_takeBack 26 = .ok (.aload_n 0, 1) := by decide +kernel
theorem dX0_takeBack_27 : decode cX0_takeBack 27 = .ok (.getfield 18, 3) := by decide +kernel
theorem dX0_takeBack_30 : decode cX0_takeBack 30 = .ok (.iadd, 1) := by decide +kernel
theorem dX0_takeBack_31 : decode cX0_takeBack 31 = .ok (.bipush 12, 2) := by decide +kernel
theorem dX0_takeBack_33 : decode cX0_takeBack 33 = .ok (.irem, 1) := by decide +kernel
theorem dX0_takeBack_34 : decode cX0_takeBack 34 = .ok (.aaload, 1) := by decide +kernel
theorem dX0_takeBack_35 : decode cX0_takeBack 35 = .ok (.invokevirtual 25, 3) := by decide +kernel
theorem dX0_takeBack_38 : decode cX0_takeBack 38 = .ok (.return_, 1) := by decide +kernel
theorem dX1_init_0 : decode cX1_init 0 = .ok (.aload_n 0, 1) := by decide +kernel
theorem dX1_init_1 : decode cX1_init 1 = .ok (.invokespecial 3, 3) := by decide +kernel
theorem dX1_init_4 : decode cX1_init 4 = .ok (.aload_n 0, 1) := by decide +kernel
theorem dX1_init_5 : decode cX1_init 5 = .ok (.bipush 96, 2) := by decide +kernel
theorem dX1_init_7 : decode cX1_init 7 = .ok (.newarray .int, 2) := by decide +kernel
theorem dX1_init_9 : decode cX1_init 9 = .ok (.putfield 9, 3) := by decide +kernel
theorem dX1_init_12 : decode cX1_init 12 = .ok (.return_, 1) := by decide +kernel
theorem dX1_append_0 : decode cX1_append 0 = .ok (.iload_n 1, 1) := by decide +kernel
theorem dX1_append_1 : decode cX1_append 1 = .ok (.iconst 1, 1) := by decide +kernel
theorem dX1_append_2 : decode cX1_append 2 = .ok (.isub, 1) := by decide +kernel
theorem dX1_append_3 : decode cX1_append 3 = .ok (.istore 4, 2) := by decide +kernel
theorem dX1_append_5 : decode cX1_append 5 = .ok (.iload 4, 2) := by decide +kernel
theorem dX1_append_7 : decode cX1_append 7 = .ok (.ifCond .lt 49, 3) := by decide +kernel
theorem dX1_append_10 : decode cX1_append 10 = .ok (.aload_n 0, 1) := by decide +kernel
theorem dX1_append_11 : decode cX1_append 11 = .ok (.getfield 15, 3) := by decide +kernel
theorem dX1_append_14 : decode cX1_append 14 = .ok (.bipush 96, 2) := by decide +kernel
theorem dX1_append_16 : decode cX1_append 16 = .ok (.if_icmp .ge 40, 3) := by decide +kernel
theorem dX1_append_19 : decode cX1_append 19 = .ok (.aload_n 0, 1) := by decide +kernel
theorem dX1_append_20 : decode cX1_append 20 = .ok (.getfield 9, 3) := by decide +kernel
theorem dX1_append_23 : decode cX1_append 23 = .ok (.aload_n 0, 1) := by decide +kernel
theorem dX1_append_24 : decode cX1_append 24 = .ok (.getfield 15, 3) := by decide +kernel
theorem dX1_append_27 : decode cX1_append 27 = .ok (.lload_n 2, 1) := by decide +kernel
theorem dX1_append_28 : decode cX1_append 28 = .ok (.bipush 8, 2) := by decide +kernel
theorem dX1_append_30 : decode cX1_append 30 = .ok (.iload 4, 2) := by decide +kernel
theorem dX1_append_32 : decode cX1_append 32 = .ok (.imul, 1) := by decide +kernel
theorem dX1_append_33 : decode cX1_append 33 = .ok (.lushr, 1) := by decide +kernel
theorem dX1_append_34 : decode cX1_append 34 = .ok (.l2i, 1) := by decide +kernel
theorem dX1_append_35 : decode cX1_append 35 = .ok (.sipush 255, 3) := by decide +kernel
theorem dX1_append_38 : decode cX1_append 38 = .ok (.iand, 1) := by decide +kernel
theorem dX1_append_39 : decode cX1_append 39 = .ok (.iastore, 1) := by decide +kernel
theorem dX1_append_40 : decode cX1_append 40 = .ok (.aload_n 0, 1) := by decide +kernel
theorem dX1_append_41 : decode cX1_append 41 = .ok (.dup, 1) := by decide +kernel
theorem dX1_append_42 : decode cX1_append 42 = .ok (.getfield 15, 3) := by decide +kernel
theorem dX1_append_45 : decode cX1_append 45 = .ok (.iconst 1, 1) := by decide +kernel
theorem dX1_append_46 : decode cX1_append 46 = .ok (.iadd, 1) := by decide +kernel
theorem dX1_append_47 : decode cX1_append 47 = .ok (.putfield 15, 3) := by decide +kernel
theorem dX1_append_50 : decode cX1_append 50 = .ok (.iinc 4 (-1), 3) := by decide +kernel
theorem dX1_append_53 : decode cX1_append 53 = .ok (.goto (-48), 3) := by decide +kernel
theorem dX1_append_56 : decode cX1_append 56 = .ok (.return_, 1) := by decide +kernel
theorem dX2_init_0 : decode cX2_init 0 = .ok (.aload_n 0, 1) := by decide +kernel
theorem dX2_init_1 : decode cX2_init 1 = .ok (.invokespecial 3, 3) := by decide +kernel
theorem dX2_init_4 : decode cX2_init 4 = .ok (.aload_n 0, 1) := by decide +kernel
theorem dX2_init_5 : decode cX2_init 5 = .ok (.bipush 8, 2) := by decide +kernel
theorem dX2_init_7 : decode cX2_init 7 = .ok (.newarray .int, 2) := by decide +kernel
theorem dX2_init_9 : decode cX2_init 9 = .ok (.putfield 9, 3) := by decide +kernel
theorem dX2_init_12 : decode cX2_init 12 = .ok (.aload_n 0, 1) := by decide +kernel
theorem dX2_init_13 : decode cX2_init 13 = .ok (.bipush 8, 2) := by decide +kernel
theorem dX2_init_15 : decode cX2_init 15 = .ok (.newarray .int, 2) := by decide +kernel
theorem dX2_init_17 : decode cX2_init 17 = .ok (.putfield 15, 3) := by decide +kernel
theorem dX2_init_20 : decode cX2_init 20 = .ok (.return_, 1) := by decide +kernel
theorem dX2_add_0 : decode cX2_add 0 = .ok (.aload_n 0, 1) := by decide +kernel
theorem dX2_add_1 : decode cX2_add 1 = .ok (.getfield 18, 3) := by decide +kernel
theorem dX2_add_4 : decode cX2_add 4 = .ok (.bipush 8, 2) := by decide +kernel
theorem dX2_add_6 : decode cX2_add 6 = .ok (.if_icmp .ge 33, 3) := by decide +kernel
theorem dX2_add_9 : decode cX2_add 9 = .ok (.aload_n 0, 1) := by decide +kernel
theorem dX2_add_10 : decode cX2_add 10 = .ok (.getfield 9, 3) := by decide +kernel
theorem dX2_add_13 : decode cX2_add 13 = .ok (.aload_n 0, 1) := by decide +kernel
theorem dX2_add_14 : decode cX2_add 14 = .ok (.getfield 18, 3) := by decide +kernel
theorem dX2_add_17 : decode cX2_add 17 = .ok (.iload_n 1, 1) := by decide +kernel
theorem dX2_add_18 : decode cX2_add 18 = .ok (.iastore, 1) := by decide +kernel
theorem dX2_add_19 : decode cX2_add 19 = .ok (.aload_n 0, 1) := by decide +kernel
theorem dX2_add_20 : decode cX2_add 20 = .ok (.getfield 15, 3) := by decide +kernel
theorem dX2_add_23 : decode cX2_add 23 = .ok (.aload_n 0, 1) := by decide +kernel
theorem dX2_add_24 : decode cX2_add 24 = .ok (.getfield 18, 3) := by decide +kernel
theorem dX2_add_27 : decode cX2_add 27 = .ok (.iload_n 2, 1) := by decide +kernel
theorem dX2_add_28 : decode cX2_add 28 = .ok (.iastore, 1) := by decide +kernel
theorem dX2_add_29 : decode cX2_add 29 = .ok (.aload_n 0, 1) := by decide +kernel
theorem dX2_add_30 : decode cX2_add 30 = .ok (.dup, 1) := by decide +kernel
theorem dX2_add_31 : decode cX2_add 31 = .ok (.getfield 18, 3) := by decide +kernel
theorem dX2_add_34 : decode cX2_add 34 = .ok (.iconst 1, 1) := by decide +kernel
theorem dX2_add_35 : decode cX2_add 35 = .ok (.iadd, 1) := by decide +kernel
theorem dX2_add_36 : decode cX2_add 36 = .ok (.putfield 18, 3) := by decide +kernel
theorem dX2_add_39 : decode cX2_add 39 = .ok (.return_, 1) := by decide +kernel
theorem dX2_hold_0 : decode cX2_hold 0 = .ok (.iconst 0, 1) := by decide +kernel
theorem dX2_hold_1 : decode cX2_hold 1 = .ok (.istore_n 3, 1) := by decide +kernel
theorem dX2_hold_2 : decode cX2_hold 2 = .ok (.iload_n 3, 1) := by decide +kernel
theorem dX2_hold_3 : decode cX2_hold 3 = .ok (.aload_n 0, 1) := by decide +kernel
theorem dX2_hold_4 : decode cX2_hold 4 = .ok (.getfield 18, 3) := by decide +kernel
theorem dX2_hold_7 : decode cX2_hold 7 = .ok (.if_icmp .ge 31, 3) := by decide +kernel
theorem dX2_hold_10 : decode cX2_hold 10 = .ok (.aload_n 0, 1) := by decide +kernel
theorem dX2_hold_11 : decode cX2_hold 11 = .ok (.getfield 9, 3) := by decide +kernel
theorem dX2_hold_14 : decode cX2_hold 14 = .ok (.iload_n 3, 1) := by decide +kernel
theorem dX2_hold_15 : decode cX2_hold 15 = .ok (.iaload, 1) := by decide +kernel
theorem dX2_hold_16 : decode cX2_hold 16 = .ok (.iload_n 1, 1) := by decide +kernel
theorem dX2_hold_17 : decode cX2_hold 17 = .ok (.if_icmp .ne 15, 3) := by decide +kernel
theorem dX2_hold_20 : decode cX2_hold 20 = .ok (.aload_n 0, 1) := by decide +kernel
theorem dX2_hold_21 : decode cX2_hold 21 = .ok (.getfield 15, 3) := by decide +kernel
theorem dX2_hold_24 : decode cX2_hold 24 = .ok (.iload_n 3, 1) := by decide +kernel
theorem dX2_hold_25 : decode cX2_hold 25 = .ok (.iaload, 1) := by decide +kernel
theorem dX2_hold_26 : decode cX2_hold 26 = .ok (.iload_n 2, 1) := by decide +kernel
theorem dX2_hold_27 : decode cX2_hold 27 = .ok (.if_icmp .eq 5, 3) := by decide +kernel
theorem dX2_hold_30 : decode cX2_hold 30 = .ok (.iconst 0, 1) := by decide +kernel
theorem dX2_hold_31 : decode cX2_hold 31 = .ok (.ireturn, 1) := by decide +kernel
theorem dX2_hold_32 : decode cX2_hold 32 = .ok (.iinc 3 1, 3) := by decide +kernel
theorem dX2_hold_35 : decode cX2_hold 35 = .ok (.goto (-33), 3) := by decide +kernel
theorem dX2_hold_38 : decode cX2_hold 38 = .ok (.iconst 1, 1) := by decide +kernel
theorem dX2_hold_39 : decode cX2_hold 39 = .ok (.ireturn, 1) := by decide +kernel
theorem dX3_init_0 : decode cX3_init 0 = .ok (.aload_n 0, 1) := by decide +kernel
theorem dX3_init_1 : decode cX3_init 1 = .ok (.invokespecial 3, 3) := by decide +kernel
theorem dX3_init_4 : decode cX3_init 4 = .ok (.aload_n 0, 1) := by decide +kernel
theorem dX3_init_5 : decode cX3_init 5 = .ok (.bipush 6, 2) := by decide +kernel
theorem dX3_init_7 : decode cX3_init 7 = .ok (.newarray .int, 2) := by decide +kernel
theorem dX3_init_9 : decode cX3_init 9 = .ok (.putfield 9, 3) := by decide +kernel
theorem dX3_init_12 : decode cX3_init 12 = .ok (.aload_n 0, 1) := by decide +kernel
theorem dX3_init_13 : decode cX3_init 13 = .ok (.bipush 6, 2) := by decide +kernel
theorem dX3_init_15 : decode cX3_init 15 = .ok (.newarray .int, 2) := by decide +kernel
theorem dX3_init_17 : decode cX3_init 17 = .ok (.putfield 15, 3) := by decide +kernel
theorem dX3_init_20 : decode cX3_init 20 = .ok (.aload_n 0, 1) := by decide +kernel
theorem dX3_init_21 : decode cX3_init 21 = .ok (.bipush 10, 2) := by decide +kernel
theorem dX3_init_23 : decode cX3_init 23 = .ok (.newarray .int, 2) := by decide +kernel
theorem dX3_init_25 : decode cX3_init 25 = .ok (.putfield 18, 3) := by decide +kernel
theorem dX3_init_28 : decode cX3_init 28 = .ok (.aload_n 0, 1) := by decide +kernel
theorem dX3_init_29 : decode cX3_init 29 = .ok (.bipush 10, 2) := by decide +kernel
theorem dX3_init_31 : decode cX3_init 31 = .ok (.newarray .int, 2) := by decide +kernel
theorem dX3_init_33 : decode cX3_init 33 = .ok (.putfield 21, 3) := by decide +kernel
theorem dX3_init_36 : decode cX3_init 36 = .ok (.aload_n 0, 1) := by decide +kernel
theorem dX3_init_37 : decode cX3_init 37 = .ok (.bipush 10, 2) := by decide +kernel
theorem dX3_init_39 : decode cX3_init 39 = .ok (.newarray .int, 2) := by decide +kernel
theorem dX3_init_41 : decode cX3_init 41 = .ok (.putfield 24, 3) := by decide +kernel
theorem dX3_init_44 : decode cX3_init 44 = .ok (.aload_n 0, 1) := by decide +kernel
theorem dX3_init_45 : decode cX3_init 45 = .ok (.bipush 6, 2) := by decide +kernel
theorem dX3_init_47 : decode cX3_init 47 = .ok (.newarray .int, 2) := by decide +kernel
theorem dX3_init_49 : decode cX3_init 49 = .ok (.putfield 27, 3) := by decide +kernel
theorem dX3_init_52 : decode cX3_init 52 = .ok (.aload_n 0, 1) := by decide +kernel
theorem dX3_init_53 : decode cX3_init 53 = .ok (.bipush 6, 2) := by decide +kernel
theorem dX3_init_55 : decode cX3_init 55 = .ok (.newarray .int, 2) := by decide +kernel
theorem dX3_init_57 : decode cX3_init 57 = .ok (.putfield 30, 3) := by decide +kernel
theorem dX3_init_60 : decode cX3_init 60 = .ok (.aload_n 0, 1) := by decide +kernel
theorem dX3_init_61 : decode cX3_init 61 = .ok (.bipush 6, 2) := by decide +kernel
theorem dX3_init_63 : decode cX3_init 63 = .ok (.newarray .int, 2) := by decide +kernel
theorem dX3_init_65 : decode cX3_init 65 = .ok (.putfield 33, 3) := by decide +kernel
theorem dX3_init_68 : decode cX3_init 68 = .ok (.aload_n 0, 1) := by decide +kernel
theorem dX3_init_69 : decode cX3_init 69 = .ok (.bipush 6, 2) := by decide +kernel
theorem dX3_init_71 : decode cX3_init 71 = .ok (.newarray .int, 2) := by decide +kernel
theorem dX3_init_73 : decode cX3_init 73 = .ok (.putfield 36, 3) := by decide +kernel
theorem dX3_init_76 : decode cX3_init 76 = .ok (.return_, 1) := by decide +kernel
theorem dX3_clear_0 : decode cX3_clear 0 = .ok (.aload_n 0, 1) := by decide +kernel
theorem dX3_clear_1 : decode cX3_clear 1 = .ok (.iconst 0, 1) := by decide +kernel
theorem dX3_clear_2 : decode cX3_clear 2 = .ok (.putfield 39, 3) := by decide +kernel
theorem dX3_clear_5 : decode cX3_clear 5 = .ok (.aload_n 0, 1) := by decide +kernel
theorem dX3_clear_6 : decode cX3_clear 6 = .ok (.iconst 0, 1) := by decide +kernel
theorem dX3_clear_7 : decode cX3_clear 7 = .ok (.putfield 43, 3) := by decide +kernel
theorem dX3_clear_10 : decode cX3_clear 10 = .ok (.aload_n 0, 1) := by decide +kernel
theorem dX3_clear_11 : decode cX3_clear 11 = .ok (.iconst 0, 1) := by decide +kernel
theorem dX3_clear_12 : decode cX3_clear 12 = .ok (.putfield 46, 3) := by decide +kernel
theorem dX3_clear_15 : decode cX3_clear 15 = .ok (.return_, 1) := by decide +kernel
theorem dX3_addHouse_0 : decode cX3_addHouse 0 = .ok (.aload_n 0, 1) := by decide +kernel
theorem dX3_addHouse_1 : decode cX3_addHouse 1 = .ok (.getfield 39, 3) := by decide +kernel
theorem dX3_addHouse_4 : decode cX3_addHouse 4 = .ok (.bipush 6, 2) := by decide +kernel
theorem dX3_addHouse_6 : decode cX3_addHouse 6 = .ok (.if_icmp .ge 33, 3) := by decide +kernel
theorem dX3_addHouse_9 : decode cX3_addHouse 9 = .ok (.aload_n 0, 1) := by decide +kernel
theorem dX3_addHouse_10 : decode cX3_addHouse 10 = .ok (.getfield 9, 3) := by decide +kernel
theorem dX3_addHouse_13 : decode cX3_addHouse 13 = .ok (.aload_n 0, 1) := by decide +kernel
theorem dX3_addHouse_14 : decode cX3_addHouse 14 = .ok (.getfield 39, 3) := by decide +kernel
theorem dX3_addHouse_17 : decode cX3_addHouse 17 = .ok (.iload_n 1, 1) := by decide +kernel
theorem dX3_addHouse_18 : decode cX3_addHouse 18 = .ok (.iastore, 1) := by decide +kernel
theorem dX3_addHouse_19 : decode cX3_addHouse 19 = .ok (.aload_n 0, 1) := by decide +kernel
theorem dX3_addHouse_20 : decode cX3_addHouse 20 = .ok (.getfield 15, 3) := by decide +kernel
theorem dX3_addHouse_23 : decode cX3_addHouse 23 = .ok (.aload_n 0, 1) := by decide +kernel
theorem dX3_addHouse_24 : decode cX3_addHouse 24 = .ok (.getfield 39, 3) := by decide +kernel
theorem dX3_addHouse_27 : decode cX3_addHouse 27 = .ok (.iload_n 2, 1) := by decide +kernel
theorem dX3_addHouse_28 : decode cX3_addHouse 28 = .ok (.iastore, 1) := by decide +kernel
theorem dX3_addHouse_29 : decode cX3_addHouse 29 = .ok (.aload_n 0, 1) := by decide +kernel
theorem dX3_addHouse_30 : decode cX3_addHouse 30 = .ok (.dup, 1) := by decide +kernel
theorem dX3_addHouse_31 : decode cX3_addHouse 31 = .ok (.getfield 39, 3) := by decide +kernel
theorem dX3_addHouse_34 : decode cX3_addHouse 34 = .ok (.iconst 1, 1) := by decide +kernel
theorem dX3_addHouse_35 : decode cX3_addHouse 35 = .ok (.iadd, 1) := by decide +kernel
theorem dX3_addHouse_36 : decode cX3_addHouse 36 = .ok (.putfield 39, 3) := by decide +kernel
theorem dX3_addHouse_39 : decode cX3_addHouse 39 = .ok (.return_, 1) := by decide +kernel
theorem dX3_addStream_0 : decode cX3_addStream 0 = .ok (.aload_n 0, 1) := by decide +kernel
theorem dX3_addStream_1 : decode cX3_addStream 1 = .ok (.getfield 43, 3) := by decide +kernel
theorem dX3_addStream_4 : decode cX3_addStream 4 = .ok (.bipush 10, 2) := by decide +kernel
theorem dX3_addStream_6 : decode cX3_addStream 6 = .ok (.if_icmp .ge 43, 3) := by decide +kernel
theorem dX3_addStream_9 : decode cX3_addStream 9 = .ok (.aload_n 0, 1) := by decide +kernel
theorem dX3_addStream_10 : decode cX3_addStream 10 = .ok (.getfield 18, 3) := by decide +kernel
theorem dX3_addStream_13 : decode cX3_addStream 13 = .ok (.aload_n 0, 1) := by decide +kernel
theorem dX3_addStream_14 : decode cX3_addStream 14 = .ok (.getfield 43, 3) := by decide +kernel
theorem dX3_addStream_17 : decode cX3_addStream 17 = .ok (.iload_n 1, 1) := by decide +kernel
theorem dX3_addStream_18 : decode cX3_addStream 18 = .ok (.iastore, 1) := by decide +kernel
theorem dX3_addStream_19 : decode cX3_addStream 19 = .ok (.aload_n 0, 1) := by decide +kernel
theorem dX3_addStream_20 : decode cX3_addStream 20 = .ok (.getfield 21, 3) := by decide +kernel
theorem dX3_addStream_23 : decode cX3_addStream 23 = .ok (.aload_n 0, 1) := by decide +kernel
theorem dX3_addStream_24 : decode cX3_addStream 24 = .ok (.getfield 43, 3) := by decide +kernel
theorem dX3_addStream_27 : decode cX3_addStream 27 = .ok (.iload_n 2, 1) := by decide +kernel
theorem dX3_addStream_28 : decode cX3_addStream 28 = .ok (.iastore, 1) := by decide +kernel
theorem dX3_addStream_29 : decode cX3_addStream 29 = .ok (.aload_n 0, 1) := by decide +kernel
theorem dX3_addStream_30 : decode cX3_addStream 30 = .ok (.getfield 24, 3) := by decide +kernel
theorem dX3_addStream_33 : decode cX3_addStream 33 = .ok (.aload_n 0, 1) := by decide +kernel
theorem dX3_addStream_34 : decode cX3_addStream 34 = .ok (.getfield 43, 3) := by decide +kernel
theorem dX3_addStream_37 : decode cX3_addStream 37 = .ok (.iload_n 3, 1) := by decide +kernel
theorem dX3_addStream_38 : decode cX3_addStream 38 = .ok (.iastore, 1) := by decide +kernel
theorem dX3_addStream_39 : decode cX3_addStream 39 = .ok (.aload_n 0, 1) := by decide +kernel
theorem dX3_addStream_40 : decode cX3_addStream 40 = .ok (.dup, 1) := by decide +kernel
theorem dX3_addStream_41 : decode cX3_addStream 41 = .ok (.getfield 43, 3) := by decide +kernel
theorem dX3_addStream_44 : decode cX3_addStream 44 = .ok (.iconst 1, 1) := by decide +kernel
theorem dX3_addStream_45 : decode cX3_addStream 45 = .ok (.iadd, 1) := by decide +kernel
theorem dX3_addStream_46 : decode cX3_addStream 46 = .ok (.putfield 43, 3) := by decide +kernel
theorem dX3_addStream_49 : decode cX3_addStream 49 = .ok (.return_, 1) := by decide +kernel
theorem dX3_addPiece_0 : decode cX3_addPiece 0 = .ok (.aload_n 0, 1) := by decide +kernel
theorem dX3_addPiece_1 : decode cX3_addPiece 1 = .ok (.getfield 46, 3) := by decide +kernel
theorem dX3_addPiece_4 : decode cX3_addPiece 4 = .ok (.bipush 6, 2) := by decide +kernel
theorem dX3_addPiece_6 : decode cX3_addPiece 6 = .ok (.if_icmp .ge 54, 3) := by decide +kernel
theorem dX3_addPiece_9 : decode cX3_addPiece 9 = .ok (.aload_n 0, 1) := by decide +kernel
theorem dX3_addPiece_10 : decode cX3_addPiece 10 = .ok (.getfield 27, 3) := by decide +kernel
theorem dX3_addPiece_13 : decode cX3_addPiece 13 = .ok (.aload_n 0, 1) := by decide +kernel
theorem dX3_addPiece_14 : decode cX3_addPiece 14 = .ok (.getfield 46, 3) := by decide +kernel
theorem dX3_addPiece_17 : decode cX3_addPiece 17 = .ok (.iload_n 1, 1) := by decide +kernel
theorem dX3_addPiece_18 : decode cX3_addPiece 18 = .ok (.iastore, 1) := by decide +kernel
theorem dX3_addPiece_19 : decode cX3_addPiece 19 = .ok (.aload_n 0, 1) := by decide +kernel
theorem dX3_addPiece_20 : decode cX3_addPiece 20 = .ok (.getfield 30, 3) := by decide +kernel
theorem dX3_addPiece_23 : decode cX3_addPiece 23 = .ok (.aload_n 0, 1) := by decide +kernel
theorem dX3_addPiece_24 : decode cX3_addPiece 24 = .ok (.getfield 46, 3) := by decide +kernel
theorem dX3_addPiece_27 : decode cX3_addPiece 27 = .ok (.iload_n 2, 1) := by decide +kernel
theorem dX3_addPiece_28 : decode cX3_addPiece 28 = .ok (.iastore, 1) := by decide +kernel
theorem dX3_addPiece_29 : decode cX3_addPiece 29 = .ok (.aload_n 0, 1) := by decide +kernel
theorem dX3_addPiece_30 : decode cX3_addPiece 30 = .ok (.getfield 33, 3) := by decide +kernel
theorem dX3_addPiece_33 : decode cX3_addPiece 33 = .ok (.aload_n 0, 1) := by decide +kernel
theorem dX3_addPiece_34 : decode cX3_addPiece 34 = .ok (.getfield 46, 3) := by decide +kernel
theorem dX3_addPiece_37 : decode cX3_addPiece 37 = .ok (.iload_n 3, 1) := by decide +kernel
theorem dX3_addPiece_38 : decode cX3_addPiece 38 = .ok (.iastore, 1) := by decide +kernel
theorem dX3_addPiece_39 : decode cX3_addPiece 39 = .ok (.aload_n 0, 1) := by decide +kernel
theorem dX3_addPiece_40 : decode cX3_addPiece 40 = .ok (.getfield 36, 3) := by decide +kernel
theorem dX3_addPiece_43 : decode cX3_addPiece 43 = .ok (.aload_n 0, 1) := by decide +kernel
theorem dX3_addPiece_44 : decode cX3_addPiece 44 = .ok (.getfield 46, 3) := by decide +kernel
theorem dX3_addPiece_47 : decode cX3_addPiece 47 = .ok (.iload 4, 2) := by decide +kernel
theorem dX3_addPiece_49 : decode cX3_addPiece 49 = .ok (.iastore, 1) := by decide +kernel
theorem dX3_addPiece_50 : decode cX3_addPiece 50 = .ok (.aload_n 0, 1) := by decide +kernel
theorem dX3_addPiece_51 : decode cX3_addPiece 51 = .ok (.dup, 1) := by decide +kernel
theorem dX3_addPiece_52 : decode cX3_addPiece 52 = .ok (.getfield 46, 3) := by decide +kernel
theorem dX3_addPiece_55 : decode cX3_addPiece 55 = .ok (.iconst 1, 1) := by decide +kernel
theorem dX3_addPiece_56 : decode cX3_addPiece 56 = .ok (.iadd, 1) := by decide +kernel
theorem dX3_addPiece_57 : decode cX3_addPiece 57 = .ok (.putfield 46, 3) := by decide +kernel
theorem dX3_addPiece_60 : decode cX3_addPiece 60 = .ok (.return_, 1) := by decide +kernel
theorem dX3_tenthsLeftFrom_0 : decode cX3_tenthsLeftFrom 0 = .ok (.bipush 10, 2) := by decide +kernel
theorem dX3_tenthsLeftFrom_2 : decode cX3_tenthsLeftFrom 2 = .ok (.istore_n 2, 1) := by decide +kernel
theorem dX3_tenthsLeftFrom_3 : decode cX3_tenthsLeftFrom 3 = .ok (.iconst 0, 1) := by decide +kernel
theorem dX3_tenthsLeftFrom_4 : decode cX3_tenthsLeftFrom 4 = .ok (.istore_n 3, 1) := by decide +kernel
theorem dX3_tenthsLeftFrom_5 : decode cX3_tenthsLeftFrom 5 = .ok (.iload_n 3, 1) := by decide +kernel
theorem dX3_tenthsLeftFrom_6 : decode cX3_tenthsLeftFrom 6 = .ok (.aload_n 0, 1) := by decide +kernel
theorem dX3_tenthsLeftFrom_7 : decode cX3_tenthsLeftFrom 7 = .ok (.getfield 43, 3) := by decide +kernel
theorem dX3_tenthsLeftFrom_10 : decode cX3_tenthsLeftFrom 10 = .ok (.if_icmp .ge 28, 3) := by decide +kernel
theorem dX3_tenthsLeftFrom_13 : decode cX3_tenthsLeftFrom 13 = .ok (.aload_n 0, 1) := by decide +kernel
theorem dX3_tenthsLeftFrom_14 : decode cX3_tenthsLeftFrom 14 = .ok (.getfield 18, 3) := by decide +kernel
theorem dX3_tenthsLeftFrom_17 : decode cX3_tenthsLeftFrom 17 = .ok (.iload_n 3, 1) := by decide +kernel
theorem dX3_tenthsLeftFrom_18 : decode cX3_tenthsLeftFrom 18 = .ok (.iaload, 1) := by decide +kernel
theorem dX3_tenthsLeftFrom_19 : decode cX3_tenthsLeftFrom 19 = .ok (.iload_n 1, 1) := by decide +kernel
theorem dX3_tenthsLeftFrom_20 : decode cX3_tenthsLeftFrom 20 = .ok (.if_icmp .ne 12, 3) := by decide +kernel
theorem dX3_tenthsLeftFrom_23 : decode cX3_tenthsLeftFrom 23 = .ok (.iload_n 2, 1) := by decide +kernel
theorem dX3_tenthsLeftFrom_24 : decode cX3_tenthsLeftFrom 24 = .ok (.aload_n 0, 1) := by decide +kernel
theorem dX3_tenthsLeftFrom_25 : decode cX3_tenthsLeftFrom 25 = .ok (.getfield 24, 3) := by decide +kernel
theorem dX3_tenthsLeftFrom_28 : decode cX3_tenthsLeftFrom 28 = .ok (.iload_n 3, 1) := by decide +kernel
theorem dX3_tenthsLeftFrom_29 : decode cX3_tenthsLeftFrom 29 = .ok (.iaload, 1) := by decide +kernel
theorem dX3_tenthsLeftFrom_30 : decode cX3_tenthsLeftFrom 30 = .ok (.isub, 1) := by decide +kernel
theorem dX3_tenthsLeftFrom_31 : decode cX3_tenthsLeftFrom 31 = .ok (.istore_n 2, 1) := by decide +kernel
theorem dX3_tenthsLeftFrom_32 : decode cX3_tenthsLeftFrom 32 = .ok (.iinc 3 1, 3) := by decide +kernel
theorem dX3_tenthsLeftFrom_35 : decode cX3_tenthsLeftFrom 35 = .ok (.goto (-30), 3) := by decide +kernel
theorem dX3_tenthsLeftFrom_38 : decode cX3_tenthsLeftFrom 38 = .ok (.iload_n 2, 1) := by decide +kernel
theorem dX3_tenthsLeftFrom_39 : decode cX3_tenthsLeftFrom 39 = .ok (.ireturn, 1) := by decide +kernel
theorem dX3_canJoin_0 : decode cX3_canJoin 0 = .ok (.iload_n 1, 1) := by decide +kernel
theorem dX3_canJoin_1 : decode cX3_canJoin 1 = .ok (.iload_n 2, 1) := by decide +kernel
theorem dX3_canJoin_2 : decode cX3_canJoin 2 = .ok (.if_icmp .eq 11, 3) := by decide +kernel
theorem dX3_canJoin_5 : decode cX3_canJoin 5 = .ok (.iload_n 2, 1) := by decide +kernel
theorem dX3_canJoin_6 : decode cX3_canJoin 6 = .ok (.aload_n 0, 1) := by decide +kernel
theorem dX3_canJoin_7 : decode cX3_canJoin 7 = .ok (.getfield 39, 3) := by decide +kernel
theorem dX3_canJoin_10 : decode cX3_canJoin 10 = .ok (.if_icmp .lt 5, 3) := by decide +kernel
theorem dX3_canJoin_13 : decode cX3_canJoin 13 = .ok (.iconst 0, 1) := by decide +kernel
theorem dX3_canJoin_14 : decode cX3_canJoin 14 = .ok (.ireturn, 1) := by decide +kernel
theorem dX3_canJoin_15 : decode cX3_canJoin 15 = .ok (.iconst 0, 1) := by decide +kernel
theorem dX3_canJoin_16 : decode cX3_canJoin 16 = .ok (.istore_n 3, 1) := by decide +kernel
theorem dX3_canJoin_17 : decode cX3_canJoin 17 = .ok (.iload_n 3, 1) := by decide +kernel
theorem dX3_canJoin_18 : decode cX3_canJoin 18 = .ok (.aload_n 0, 1) := by decide +kernel
theorem dX3_canJoin_19 : decode cX3_canJoin 19 = .ok (.getfield 43, 3) := by decide +kernel
theorem dX3_canJoin_22 : decode cX3_canJoin 22 = .ok (.if_icmp .ge 31, 3) := by decide +kernel
theorem dX3_canJoin_25 : decode cX3_canJoin 25 = .ok (.aload_n 0, 1) := by decide +kernel
theorem dX3_canJoin_26 : decode cX3_canJoin 26 = .ok (.getfield 18, 3) := by decide +kernel
theorem dX3_canJoin_29 : decode cX3_canJoin 29 = .ok (.iload_n 3, 1) := by decide +kernel
theorem dX3_canJoin_30 : decode cX3_canJoin 30 = .ok (.iaload, 1) := by decide +kernel
theorem dX3_canJoin_31 : decode cX3_canJoin 31 = .ok (.iload_n 1, 1) := by decide +kernel
theorem dX3_canJoin_32 : decode cX3_canJoin 32 = .ok (.if_icmp .ne 15, 3) := by decide +kernel
theorem dX3_canJoin_35 : decode cX3_canJoin 35 = .ok (.aload_n 0, 1) := by decide +kernel
theorem dX3_canJoin_36 : decode cX3_canJoin 36 = .ok (.getfield 21, 3) := by decide +kernel
theorem dX3_canJoin_39 : decode cX3_canJoin 39 = .ok (.iload_n 3, 1) := by decide +kernel
theorem dX3_canJoin_40 : decode cX3_canJoin 40 = .ok (.iaload, 1) := by decide +kernel
theorem dX3_canJoin_41 : decode cX3_canJoin 41 = .ok (.iload_n 2, 1) := by decide +kernel
theorem dX3_canJoin_42 : decode cX3_canJoin 42 = .ok (.if_icmp .ne 5, 3) := by decide +kernel
theorem dX3_canJoin_45 : decode cX3_canJoin 45 = .ok (.iconst 0, 1) := by decide +kernel
theorem dX3_canJoin_46 : decode cX3_canJoin 46 = .ok (.ireturn, 1) := by decide +kernel
theorem dX3_canJoin_47 : decode cX3_canJoin 47 = .ok (.iinc 3 1, 3) := by decide +kernel
theorem dX3_canJoin_50 : decode cX3_canJoin 50 = .ok (.goto (-33), 3) := by decide +kernel
theorem dX3_canJoin_53 : decode cX3_canJoin 53 = .ok (.iconst 1, 1) := by decide +kernel
theorem dX3_canJoin_54 : decode cX3_canJoin 54 = .ok (.ireturn, 1) := by decide +kernel
theorem dX3_canLeave_0 : decode cX3_canLeave 0 = .ok (.iload_n 1, 1) := by decide +kernel
theorem dX3_canLeave_1 : decode cX3_canLeave 1 = .ok (.aload_n 0, 1) := by decide +kernel
theorem dX3_canLeave_2 : decode cX3_canLeave 2 = .ok (.getfield 39, 3) := by decide +kernel
theorem dX3_canLeave_5 : decode cX3_canLeave 5 = .ok (.if_icmp .ge 12, 3) := by decide +kernel
theorem dX3_canLeave_8 : decode cX3_canLeave 8 = .ok (.aload_n 0, 1) := by decide +kernel
theorem dX3_canLeave_9 : decode cX3_canLeave 9 = .ok (.iload_n 1, 1) := by decide +kernel
theorem dX3_canLeave_10 : decode cX3_canLeave 10 = .ok (.invokevirtual 49, 3) := by decide +kernel
theorem dX3_canLeave_13 : decode cX3_canLeave 13 = .ok (.iconst 1, 1) := by decide +kernel
theorem dX3_canLeave_14 : decode cX3_canLeave 14 = .ok (.if_icmp .ge 5, 3) := by decide +kernel
theorem dX3_canLeave_17 : decode cX3_canLeave 17 = .ok (.iconst 0, 1) := by decide +kernel
theorem dX3_canLeave_18 : decode cX3_canLeave 18 = .ok (.ireturn, 1) := by decide +kernel
theorem dX3_canLeave_19 : decode cX3_canLeave 19 = .ok (.iconst 0, 1) := by decide +kernel
theorem dX3_canLeave_20 : decode cX3_canLeave 20 = .ok (.istore_n 2, 1) := by decide +kernel
theorem dX3_canLeave_21 : decode cX3_canLeave 21 = .ok (.iload_n 2, 1) := by decide +kernel
theorem dX3_canLeave_22 : decode cX3_canLeave 22 = .ok (.aload_n 0, 1) := by decide +kernel
theorem dX3_canLeave_23 : decode cX3_canLeave 23 = .ok (.getfield 39, 3) := by decide +kernel
theorem dX3_canLeave_26 : decode cX3_canLeave 26 = .ok (.if_icmp .ge 20, 3) := by decide +kernel
theorem dX3_canLeave_29 : decode cX3_canLeave 29 = .ok (.aload_n 0, 1) := by decide +kernel
theorem dX3_canLeave_30 : decode cX3_canLeave 30 = .ok (.iload_n 1, 1) := by decide +kernel
theorem dX3_canLeave_31 : decode cX3_canLeave 31 = .ok (.iload_n 2, 1) := by decide +kernel
theorem dX3_canLeave_32 : decode cX3_canLeave 32 = .ok (.invokevirtual 53, 3) := by decide +kernel
theorem dX3_canLeave_35 : decode cX3_canLeave 35 = .ok (.ifCond .eq 5, 3) := by decide +kernel
theorem dX3_canLeave_38 : decode cX3_canLeave 38 = .ok (.iconst 1, 1) := by decide +kernel
theorem dX3_canLeave_39 : decode cX3_canLeave 39 = .ok (.ireturn, 1) := by decide +kernel
theorem dX3_canLeave_40 : decode cX3_canLeave 40 = .ok (.iinc 2 1, 3) := by decide +kernel
theorem dX3_canLeave_43 : decode cX3_canLeave 43 = .ok (.goto (-22), 3) := by decide +kernel
theorem dX3_canLeave_46 : decode cX3_canLeave 46 = .ok (.iconst 0, 1) := by decide +kernel
theorem dX3_canLeave_47 : decode cX3_canLeave 47 = .ok (.ireturn, 1) := by decide +kernel
theorem dX3_canHaveStream_0 : decode cX3_canHaveStream 0 = .ok (.aload_n 0, 1) := by decide +kernel
theorem dX3_canHaveStream_1 : decode cX3_canHaveStream 1 = .ok (.getfield 43, 3) := by decide +kernel
theorem dX3_canHaveStream_4 : decode cX3_canHaveStream 4 = .ok (.bipush 10, 2) := by decide +kernel
theorem dX3_canHaveStream_6 : decode cX3_canHaveStream 6 = .ok (.if_icmp .lt 5, 3) := by decide +kernel
theorem dX3_canHaveStream_9 : decode cX3_canHaveStream 9 = .ok (.iconst 0, 1) := by decide +kernel
theorem dX3_canHaveStream_10 : decode cX3_canHaveStream 10 = .ok (.ireturn, 1) := by decide +kernel
theorem dX3_canHaveStream_11 : decode cX3_canHaveStream 11 = .ok (.iconst 0, 1) := by decide +kernel
theorem dX3_canHaveStream_12 : decode cX3_canHaveStream 12 = .ok (.istore_n 1, 1) := by decide +kernel
theorem dX3_canHaveStream_13 : decode cX3_canHaveStream 13 = .ok (.iload_n 1, 1) := by decide +kernel
theorem dX3_canHaveStream_14 : decode cX3_canHaveStream 14 = .ok (.aload_n 0, 1) := by decide +kernel
theorem dX3_canHaveStream_15 : decode cX3_canHaveStream 15 = .ok (.getfield 39, 3) := by decide +kernel
theorem dX3_canHaveStream_18 : decode cX3_canHaveStream 18 = .ok (.if_icmp .ge 19, 3) := by decide +kernel
theorem dX3_canHaveStream_21 : decode cX3_canHaveStream 21 = .ok (.aload_n 0, 1) := by decide +kernel
theorem dX3_canHaveStream_22 : decode cX3_canHaveStream 22 = .ok (.iload_n 1, 1) := by decide +kernel
theorem dX3_canHaveStream_23 : decode cX3_canHaveStream 23 = .ok (.invokevirtual 57, 3) := by decide +kernel
theorem dX3_canHaveStream_26 : decode cX3_canHaveStream 26 = .ok (.ifCond .eq 5, 3) := by decide +kernel
theorem dX3_canHaveStream_29 : decode cX3_canHaveStream 29 = .ok (.iconst 1, 1) := by decide +kernel
theorem dX3_canHaveStream_30 : decode cX3_canHaveStream 30 = .ok (.ireturn, 1) := by decide +kernel
theorem dX3_canHaveStream_31 : decode cX3_canHaveStream 31 = .ok (.iinc 1 1, 3) := by decide +kernel
theorem dX3_canHaveStream_34 : decode cX3_canHaveStream 34 = .ok (.goto (-21), 3) := by decide +kernel
theorem dX3_canHaveStream_37 : decode cX3_canHaveStream 37 = .ok (.iconst 0, 1) := by decide +kernel
theorem dX3_canHaveStream_38 : decode cX3_canHaveStream 38 = .ok (.ireturn, 1) := by decide +kernel
theorem dX3_waterIn_0 : decode cX3_waterIn 0 = .ok (.iconst 0, 1) := by decide +kernel
theorem dX3_waterIn_1 : decode cX3_waterIn 1 = .ok (.iload_n 2, 1) := by decide +kernel
theorem dX3_waterIn_2 : decode cX3_waterIn 2 = .ok (.aload_n 0, 1) := by decide +kernel
theorem dX3_waterIn_3 : decode cX3_waterIn 3 = .ok (.getfield 9, 3) := by decide +kernel
theorem dX3_waterIn_6 : decode cX3_waterIn 6 = .ok (.iload_n 1, 1) := by decide +kernel
theorem dX3_waterIn_7 : decode cX3_waterIn 7 = .ok (.iaload, 1) := by decide +kernel
theorem dX3_waterIn_8 : decode cX3_waterIn 8 = .ok (.isub, 1) := by decide +kernel
theorem dX3_waterIn_9 : decode cX3_waterIn 9 = .ok (.invokestatic 61, 3) := by decide +kernel
theorem dX3_waterIn_12 : decode cX3_waterIn 12 = .ok (.ireturn, 1) := by decide +kernel
theorem dX4_init_0 : decode cX4_init 0 = .ok (.aload_n 0, 1) := by decide +kernel
theorem dX4_init_1 : decode cX4_init 1 = .ok (.invokespecial 3, 3) := by decide +kernel
theorem dX4_init_4 : decode cX4_init 4 = .ok (.aload_n 0, 1) := by decide +kernel
theorem dX4_init_5 : decode cX4_init 5 = .ok (.iconst 5, 1) := by decide +kernel
theorem dX4_init_6 : decode cX4_init 6 = .ok (.newarray .int, 2) := by decide +kernel
theorem dX4_init_8 : decode cX4_init 8 = .ok (.putfield 11, 3) := by decide +kernel
theorem dX4_init_11 : decode cX4_init 11 = .ok (.return_, 1) := by decide +kernel
theorem dX4_firstFault_0 : decode cX4_firstFault 0 = .ok (.aload_n 2, 1) := by decide +kernel
theorem dX4_firstFault_1 : decode cX4_firstFault 1 = .ok (.invokevirtual 15, 3) := by decide +kernel
theorem dX4_firstFault_4 : decode cX4_firstFault 4 = .ok (.aload_n 0, 1) := by decide +kernel
theorem dX4_firstFault_5 : decode cX4_firstFault 5 = .ok (.iconst 0, 1) := by decide +kernel
theorem dX4_firstFault_6 : decode cX4_firstFault 6 = .ok (.putfield 20, 3) := by decide +kernel
theorem dX4_firstFault_9 : decode cX4_firstFault 9 = .ok (.iconst 0, 1) := by decide +kernel
theorem dX4_firstFault_10 : decode cX4_firstFault 10 = .ok (.istore_n 3, 1) := by decide +kernel
theorem dX4_firstFault_11 : decode cX4_firstFault 11 = .ok (.iload_n 3, 1) := by decide +kernel
theorem dX4_firstFault_12 : decode cX4_firstFault 12 = .ok (.aload_n 1, 1) := by decide +kernel
theorem dX4_firstFault_13 : decode cX4_firstFault 13 = .ok (.getfield 24, 3) := by decide +kernel
theorem dX4_firstFault_16 : decode cX4_firstFault 16 = .ok (.if_icmp .ge 25, 3) := by decide +kernel
theorem dX4_firstFault_19 : decode cX4_firstFault 19 = .ok (.aload_n 0, 1) := by decide +kernel
theorem dX4_firstFault_20 : decode cX4_firstFault 20 = .ok (.aload_n 1, 1) := by decide +kernel
theorem dX4_firstFault_21 : decode cX4_firstFault 21 = .ok (.getfield 29, 3) := by decide +kernel
theorem dX4_firstFault_24 : decode cX4_firstFault 24 = .ok (.iload_n 3, 1) := by decide +kernel
theorem dX4_firstFault_25 : decode cX4_firstFault 25 = .ok (.iaload, 1) := by decide +kernel
theorem dX4_firstFault_26 : decode cX4_firstFault 26 = .ok (.aload_n 2, 1) := by decide +kernel
theorem dX4_firstFault_27 : decode cX4_firstFault 27 = .ok (.invokevirtual 32, 3) := by decide +kernel
theorem dX4_firstFault_30 : decode cX4_firstFault 30 = .ok (.ifCond .ne 5, 3) := by decide +kernel
theorem dX4_firstFault_33 : decode cX4_firstFault 33 = .ok (.iload_n 3, 1) := by decide +kernel
theorem dX4_firstFault_34 : decode cX4_firstFault 34 = .ok (.ireturn, 1) := by decide +kernel
theorem dX4_firstFault_35 : decode cX4_firstFault 35 = .ok (.iinc 3 1, 3) := by decide +kernel
theorem dX4_firstFault_38 : decode cX4_firstFault 38 = .ok (.goto (-27), 3) := by decide +kernel
theorem dX4_firstFault_41 : decode cX4_firstFault 41 = .ok (.aload_n 0, 1) := by decide +kernel
theorem dX4_firstFault_42 : decode cX4_firstFault 42 = .ok (.getfield 20, 3) := by decide +kernel
theorem dX4_firstFault_45 : decode cX4_firstFault 45 = .ok (.ifCond .ne 8, 3) := by decide +kernel
theorem dX4_firstFault_48 : decode cX4_firstFault 48 = .ok (.bipush (-9), 2) := by decide +kernel
theorem dX4_firstFault_50 : decode cX4_firstFault 50 = .ok (.goto 7, 3) := by decide +kernel
theorem dX4_firstFault_53 : decode cX4_firstFault 53 = .ok (.aload_n 1, 1) := by decide +kernel
theorem dX4_firstFault_54 : decode cX4_firstFault 54 = .ok (.getfield 24, 3) := by decide +kernel
theorem dX4_firstFault_57 : decode cX4_firstFault 57 = .ok (.ireturn, 1) := by decide +kernel
theorem dX4_takes_0 : decode cX4_takes 0 = .ok (.aload_n 0, 1) := by decide +kernel
theorem dX4_takes_1 : decode cX4_takes 1 = .ok (.getfield 20, 3) := by decide +kernel
theorem dX4_takes_4 : decode cX4_takes 4 = .ok (.ifCond .ne 23, 3) := by decide +kernel
theorem dX4_takes_7 : decode cX4_takes 7 = .ok (.iload_n 1, 1) := by decide +kernel
theorem dX4_takes_8 : decode cX4_takes 8 = .ok (.aload_n 2, 1) := by decide +kernel
theorem dX4_takes_9 : decode cX4_takes 9 = .ok (.invokestatic 36, 3) := by decide +kernel
theorem dX4_takes_12 : decode cX4_takes 12 = .ok (.ifCond .ne 5, 3) := by decide +kernel
theorem dX4_takes_15 : decode cX4_takes 15 = .ok (.iconst 0, 1) := by decide +kernel
theorem dX4_takes_16 : decode cX4_takes 16 = .ok (.ireturn, 1) := by decide +kernel
theorem dX4_takes_17 : decode cX4_takes 17 = .ok (.aload_n 0, 1) := by decide +kernel
theorem dX4_takes_18 : decode cX4_takes 18 = .ok (.getfield 11, 3) := by decide +kernel
theorem dX4_takes_21 : decode cX4_takes 21 = .ok (.iconst 0, 1) := by decide +kernel
theorem dX4_takes_22 : decode cX4_takes 22 = .ok (.iload_n 1, 1) := by decide +kernel
theorem dX4_takes_23 : decode cX4_takes 23 = .ok (.iastore, 1) := by decide +kernel
theorem dX4_takes_24 : decode cX4_takes 24 = .ok (.goto 39, 3) := by decide +kernel
theorem dX4_takes_27 : decode cX4_takes 27 = .ok (.iload_n 1, 1) := by decide +kernel
theorem dX4_takes_28 : decode cX4_takes 28 = .ok (.bipush 48, 2) := by decide +kernel
theorem dX4_takes_30 : decode cX4_takes 30 = .ok (.isub, 1) := by decide +kernel
theorem dX4_takes_31 : decode cX4_takes 31 = .ok (.istore_n 3, 1) := by decide +kernel
theorem dX4_takes_32 : decode cX4_takes 32 = .ok (.iload_n 3, 1) := by decide +kernel
theorem dX4_takes_33 : decode cX4_takes 33 = .ok (.ifCond .lt 18, 3) := by decide +kernel
theorem dX4_takes_36 : decode cX4_takes 36 = .ok (.iload_n 3, 1) := by decide +kernel
theorem dX4_takes_37 : decode cX4_takes 37 = .ok (.bipush 9, 2) := by decide +kernel
theorem dX4_takes_39 : decode cX4_takes 39 = .ok (.if_icmp .gt 12, 3) := by decide +kernel
theorem dX4_takes_42 : decode cX4_takes 42 = .ok (.aload_n 0, 1) := by decide +kernel
theorem dX4_takes_43 : decode cX4_takes 43 = .ok (.iload_n 3, 1) := by decide +kernel
theorem dX4_takes_44 : decode cX4_takes 44 = .ok (.aload_n 2, 1) := by decide +kernel
theorem dX4_takes_45 : decode cX4_takes 45 = .ok (.invokevirtual 39, 3) := by decide +kernel
theorem dX4_takes_48 : decode cX4_takes 48 = .ok (.ifCond .ne 5, 3) := by decide +kernel
theorem dX4_takes_51 : decode cX4_takes 51 = .ok (.iconst 0, 1) := by decide +kernel
theorem dX4_takes_52 : decode cX4_takes 52 = .ok (.ireturn, 1) := by decide +kernel
theorem dX4_takes_53 : decode cX4_takes 53 = .ok (.aload_n 0, 1) := by decide +kernel
theorem dX4_takes_54 : decode cX4_takes 54 = .ok (.getfield 11, 3) := by decide +kernel
theorem dX4_takes_57 : decode cX4_takes 57 = .ok (.aload_n 0, 1) := by decide +kernel
theorem dX4_takes_58 : decode cX4_takes 58 = .ok (.getfield 20, 3) := by decide +kernel
theorem dX4_takes_61 : decode cX4_takes 61 = .ok (.iload_n 3, 1) := by decide +kernel
theorem dX4_takes_62 : decode cX4_takes 62 = .ok (.iastore, 1) := by decide +kernel
theorem dX4_takes_63 : decode cX4_takes 63 = .ok (.aload_n 0, 1) := by decide +kernel
theorem dX4_takes_64 : decode cX4_takes 64 = .ok (.dup, 1) := by decide +kernel
theorem dX4_takes_65 : decode cX4_takes 65 = .ok (.getfield 20, 3) := by decide +kernel
theorem dX4_takes_68 : decode cX4_takes 68 = .ok (.iconst 1, 1) := by decide +kernel
theorem dX4_takes_69 : decode cX4_takes 69 = .ok (.iadd, 1) := by decide +kernel
theorem dX4_takes_70 : decode cX4_takes 70 = .ok (.putfield 20, 3) := by decide +kernel
theorem dX4_takes_73 : decode cX4_takes 73 = .ok (.aload_n 0, 1) := by decide +kernel
theorem dX4_takes_74 : decode cX4_takes 74 = .ok (.getfield 20, 3) := by decide +kernel
theorem dX4_takes_77 : decode cX4_takes 77 = .ok (.aload_n 0, 1) := by decide +kernel
theorem dX4_takes_78 : decode cX4_takes 78 = .ok (.invokevirtual 42, 3) := by decide +kernel
theorem dX4_takes_81 : decode cX4_takes 81 = .ok (.if_icmp .ne 13, 3) := by decide +kernel
theorem dX4_takes_84 : decode cX4_takes 84 = .ok (.aload_n 0, 1) := by decide +kernel
theorem dX4_takes_85 : decode cX4_takes 85 = .ok (.aload_n 2, 1) := by decide +kernel
theorem dX4_takes_86 : decode cX4_takes 86 = .ok (.invokevirtual 46, 3) := by decide +kernel
theorem dX4_takes_89 : decode cX4_takes 89 = .ok (.aload_n 0, 1) := by decide +kernel
theorem dX4_takes_90 : decode cX4_takes 90 = .ok (.iconst 0, 1) := by decide +kernel
theorem dX4_takes_91 : decode cX4_takes 91 = .ok (.putfield 20, 3) := by decide +kernel
theorem dX4_takes_94 : decode cX4_takes 94 = .ok (.iconst 1, 1) := by decide +kernel
theorem dX4_takes_95 : decode cX4_takes 95 = .ok (.ireturn, 1) := by decide +kernel
theorem dX4_canBegin_0 : decode cX4_canBegin 0 = .ok (.iload_n 0, 1) := by decide +kernel
theorem dX4_canBegin_1 : decode cX4_canBegin 1 = .ok (.lookupswitch 77 #[(72, 35), (80, 55), (83, 50)], 35) := by decide +kernel
theorem dX4_canBegin_36 : decode cX4_canBegin 36 = .ok (.aload_n 1, 1) := by decide +kernel
theorem dX4_canBegin_37 : decode cX4_canBegin 37 = .ok (.getfield 50, 3) := by decide +kernel
theorem dX4_canBegin_40 : decode cX4_canBegin 40 = .ok (.bipush 6, 2) := by decide +kernel
theorem dX4_canBegin_42 : decode cX4_canBegin 42 = .ok (.if_icmp .ge 7, 3) := by decide +kernel
theorem dX4_canBegin_45 : decode cX4_canBegin 45 = .ok (.iconst 1, 1) := by decide +kernel
theorem dX4_canBegin_46 : decode cX4_canBegin 46 = .ok (.goto 4, 3) := by decide +kernel
theorem dX4_canBegin_49 : decode cX4_canBegin 49 = .ok (.iconst 0, 1) := by decide +kernel
theorem dX4_canBegin_50 : decode cX4_canBegin 50 = .ok (.ireturn, 1) := by decide +kernel
theorem dX4_canBegin_51 : decode cX4_canBegin 51 = .ok (.aload_n 1, 1) := by decide +kernel
theorem dX4_canBegin_52 : decode cX4_canBegin 52 = .ok (.invokevirtual 53, 3) := by decide +kernel
theorem dX4_canBegin_55 : decode cX4_canBegin 55 = .ok (.ireturn, 1) := by decide +kernel
theorem dX4_canBegin_56 : decode cX4_canBegin 56 = .ok (.aload_n 1, 1) := by decide +kernel
theorem dX4_canBegin_57 : decode cX4_canBegin 57 = .ok (.getfield 50, 3) := by decide +kernel
theorem dX4_canBegin_60 : decode cX4_canBegin 60 = .ok (.ifCond .le 16, 3) := by decide +kernel
theorem dX4_canBegin_63 : decode cX4_canBegin 63 = .ok (.aload_n 1, 1) := by decide +kernel
theorem dX4_canBegin_64 : decode cX4_canBegin 64 = .ok (.getfield 57, 3) := by decide +kernel
theorem dX4_canBegin_67 : decode cX4_canBegin 67 = .ok (.bipush 6, 2) := by decide +kernel
theorem dX4_canBegin_69 : decode cX4_canBegin 69 = .ok (.if_icmp .ge 7, 3) := by decide +kernel
theorem dX4_canBegin_72 : decode cX4_canBegin 72 = .ok (.iconst 1, 1) := by decide +kernel
theorem dX4_canBegin_73 : decode cX4_canBegin 73 = .ok (.goto 4, 3) := by decide +kernel
theorem dX4_canBegin_76 : decode cX4_canBegin 76 = .ok (.iconst 0, 1) := by decide +kernel
theorem dX4_canBegin_77 : decode cX4_canBegin 77 = .ok (.ireturn, 1) := by decide +kernel
theorem dX4_canBegin_78 : decode cX4_canBegin 78 = .ok (.iconst 0, 1) := by decide +kernel
theorem dX4_canBegin_79 : decode cX4_canBegin 79 = .ok (.ireturn, 1) := by decide +kernel
theorem dX4_canGoOn_0 : decode cX4_canGoOn 0 = .ok (.aload_n 0, 1) := by decide +kernel
theorem dX4_canGoOn_1 : decode cX4_canGoOn 1 = .ok (.getfield 11, 3) := by decide +kernel
theorem dX4_canGoOn_4 : decode cX4_canGoOn 4 = .ok (.iconst 0, 1) := by decide +kernel
theorem dX4_canGoOn_5 : decode cX4_canGoOn 5 = .ok (.iaload, 1) := by decide +kernel
theorem dX4_canGoOn_6 : decode cX4_canGoOn 6 = .ok (.lookupswitch 51 #[(72, 26), (83, 44)], 26) := by decide +kernel
theorem dX4_canGoOn_32 : decode cX4_canGoOn 32 = .ok (.aload_n 0, 1) := by decide +kernel
theorem dX4_canGoOn_33 : decode cX4_canGoOn 33 = .ok (.getfield 20, 3) := by decide +kernel
theorem dX4_canGoOn_36 : decode cX4_canGoOn 36 = .ok (.iconst 1, 1) := by decide +kernel
theorem dX4_canGoOn_37 : decode cX4_canGoOn 37 = .ok (.if_icmp .eq 7, 3) := by decide +kernel
theorem dX4_canGoOn_40 : decode cX4_canGoOn 40 = .ok (.iload_n 1, 1) := by decide +kernel
theorem dX4_canGoOn_41 : decode cX4_canGoOn 41 = .ok (.ifCond .le 7, 3) := by decide +kernel
theorem dX4_canGoOn_44 : decode cX4_canGoOn 44 = .ok (.iconst 1, 1) := by decide +kernel
theorem dX4_canGoOn_45 : decode cX4_canGoOn 45 = .ok (.goto 4, 3) := by decide +kernel
theorem dX4_canGoOn_48 : decode cX4_canGoOn 48 = .ok (.iconst 0, 1) := by decide +kernel
theorem dX4_canGoOn_49 : decode cX4_canGoOn 49 = .ok (.ireturn, 1) := by decide +kernel
theorem dX4_canGoOn_50 : decode cX4_canGoOn 50 = .ok (.aload_n 0, 1) := by decide +kernel
theorem dX4_canGoOn_51 : decode cX4_canGoOn 51 = .ok (.iload_n 1, 1) := by decide +kernel
theorem dX4_canGoOn_52 : decode cX4_canGoOn 52 = .ok (.aload_n 2, 1) := by decide +kernel
theorem dX4_canGoOn_53 : decode cX4_canGoOn 53 = .ok (.invokevirtual 60, 3) := by decide +kernel
theorem dX4_canGoOn_56 : decode cX4_canGoOn 56 = .ok (.ireturn, 1) := by decide +kernel
theorem dX4_canGoOn_57 : decode cX4_canGoOn 57 = .ok (.aload_n 0, 1) := by decide +kernel
theorem dX4_canGoOn_58 : decode cX4_canGoOn 58 = .ok (.iload_n 1, 1) := by decide +kernel
theorem dX4_canGoOn_59 : decode cX4_canGoOn 59 = .ok (.aload_n 2, 1) := by decide +kernel
theorem dX4_canGoOn_60 : decode cX4_canGoOn 60 = .ok (.invokevirtual 63, 3) := by decide +kernel
theorem dX4_canGoOn_63 : decode cX4_canGoOn 63 = .ok (.ireturn, 1) := by decide +kernel
theorem dX4_canGoOnWithStream_0 : decode cX4_canGoOnWithStream 0 = .ok (.aload_n 0, 1) := by decide +kernel
theorem dX4_canGoOnWithStream_1 : decode cX4_canGoOnWithStream 1 = .ok (.getfield 20, 3) := by decide +kernel
theorem dX4_canGoOnWithStream_4 : decode cX4_canGoOnWithStream 4 = .ok (.lookupswitch 46 #[(1, 28), (2, 34)], 28) := by decide +kernel
theorem dX4_canGoOnWithStream_32 : decode cX4_canGoOnWithStream 32 = .ok (.aload_n 2, 1) := by decide +kernel
theorem dX4_canGoOnWithStream_33 : decode cX4_canGoOnWithStream 33 = .ok (.iload_n 1, 1) := by decide +kernel
theorem dX4_canGoOnWithStream_34 : decode cX4_canGoOnWithStream 34 = .ok (.invokevirtual 66, 3) := by decide +kernel
theorem dX4_canGoOnWithStream_37 : decode cX4_canGoOnWithStream 37 = .ok (.ireturn, 1) := by decide +kernel
theorem dX4_canGoOnWithStream_38 : decode cX4_canGoOnWithStream 38 = .ok (.aload_n 2, 1) := by decide +kernel
theorem dX4_canGoOnWithStream_39 : decode cX4_canGoOnWithStream 39 = .ok (.aload_n 0, 1) := by decide +kernel
theorem dX4_canGoOnWithStream_40 : decode cX4_canGoOnWithStream 40 = .ok (.getfield 11, 3) := by decide +kernel
theorem dX4_canGoOnWithStream_43 : decode cX4_canGoOnWithStream 43 = .ok (.iconst 1, 1) := by decide +kernel
theorem dX4_canGoOnWithStream_44 : decode cX4_canGoOnWithStream 44 = .ok (.iaload, 1) := by decide +kernel
theorem dX4_canGoOnWithStream_45 : decode cX4_canGoOnWithStream 45 = .ok (.iload_n 1, 1) := by decide +kernel
theorem dX4_canGoOnWithStream_46 : decode cX4_canGoOnWithStream 46 = .ok (.invokevirtual 70, 3) := by decide +kernel
theorem dX4_canGoOnWithStream_49 : decode cX4_canGoOnWithStream 49 = .ok (.ireturn, 1) := by decide +kernel
theorem dX4_canGoOnWithStream_50 : decode cX4_canGoOnWithStream 50 = .ok (.iload_n 1, 1) := by decide +kernel
theorem dX4_canGoOnWithStream_51 : decode cX4_canGoOnWithStream 51 = .ok (.ifCond .le 21, 3) := by decide +kernel
theorem dX4_canGoOnWithStream_54 : decode cX4_canGoOnWithStream 54 = .ok (.iload_n 1, 1) := by decide +kernel
theorem dX4_canGoOnWithStream_55 : decode cX4_canGoOnWithStream 55 = .ok (.aload_n 2, 1) := by decide +kernel
theorem dX4_canGoOnWithStream_56 : decode cX4_canGoOnWithStream 56 = .ok (.aload_n 0, 1) := by decide +kernel
theorem dX4_canGoOnWithStream_57 : decode cX4_canGoOnWithStream 57 = .ok (.getfield 11, 3) := by decide +kernel
theorem dX4_canGoOnWithStream_60 : decode cX4_canGoOnWithStream 60 = .ok (.iconst 1, 1) := by decide +kernel
theorem dX4_canGoOnWithStream_61 : decode cX4_canGoOnWithStream 61 = .ok (.iaload, 1) := by decide +kernel
theorem dX4_canGoOnWithStream_62 : decode cX4_canGoOnWithStream 62 = .ok (.invokevirtual 74, 3) := by decide +kernel
theorem dX4_canGoOnWithStream_65 : decode cX4_canGoOnWithStream 65 = .ok (.if_icmp .gt 7, 3) := by decide +kernel
theorem dX4_canGoOnWithStream_68 : decode cX4_canGoOnWithStream 68 = .ok (.iconst 1, 1) := by decide +kernel
theorem dX4_canGoOnWithStream_69 : decode cX4_canGoOnWithStream 69 = .ok (.goto 4, 3) := by decide +kernel
theorem dX4_canGoOnWithStream_72 : decode cX4_canGoOnWithStream 72 = .ok (.iconst 0, 1) := by decide +kernel
theorem dX4_canGoOnWithStream_73 : decode cX4_canGoOnWithStream 73 = .ok (.ireturn, 1) := by decide +kernel
theorem dX4_canGoOnWithPiece_0 : decode cX4_canGoOnWithPiece 0 = .ok (.aload_n 0, 1) := by decide +kernel
theorem dX4_canGoOnWithPiece_1 : decode cX4_canGoOnWithPiece 1 = .ok (.getfield 20, 3) := by decide +kernel
theorem dX4_canGoOnWithPiece_4 : decode cX4_canGoOnWithPiece 4 = .ok (.lookupswitch 44 #[(1, 28), (4, 42)], 28) := by decide +kernel
theorem dX4_canGoOnWithPiece_32 : decode cX4_canGoOnWithPiece 32 = .ok (.iload_n 1, 1) := by decide +kernel
theorem dX4_canGoOnWithPiece_33 : decode cX4_canGoOnWithPiece 33 = .ok (.aload_n 2, 1) := by decide +kernel
theorem dX4_canGoOnWithPiece_34 : decode cX4_canGoOnWithPiece 34 = .ok (.getfield 50, 3) := by decide +kernel
theorem dX4_canGoOnWithPiece_37 : decode cX4_canGoOnWithPiece 37 = .ok (.if_icmp .ge 7, 3) := by decide +kernel
theorem dX4_canGoOnWithPiece_40 : decode cX4_canGoOnWithPiece 40 = .ok (.iconst 1, 1) := by decide +kernel
theorem dX4_canGoOnWithPiece_41 : decode cX4_canGoOnWithPiece 41 = .ok (.goto 4, 3) := by decide +kernel
theorem dX4_canGoOnWithPiece_44 : decode cX4_canGoOnWithPiece 44 = .ok (.iconst 0, 1) := by decide +kernel
theorem dX4_canGoOnWithPiece_45 : decode cX4_canGoOnWithPiece 45 = .ok (.ireturn, 1) := by decide +kernel
theorem dX4_canGoOnWithPiece_46 : decode cX4_canGoOnWithPiece 46 = .ok (.iconst 1, 1) := by decide +kernel
theorem dX4_canGoOnWithPiece_47 : decode cX4_canGoOnWithPiece 47 = .ok (.ireturn, 1) := by decide +kernel
theorem dX4_canGoOnWithPiece_48 : decode cX4_canGoOnWithPiece 48 = .ok (.iload_n 1, 1) := by decide +kernel
theorem dX4_canGoOnWithPiece_49 : decode cX4_canGoOnWithPiece 49 = .ok (.ifCond .le 7, 3) := by decide +kernel
theorem dX4_canGoOnWithPiece_52 : decode cX4_canGoOnWithPiece 52 = .ok (.iconst 1, 1) := by decide +kernel
theorem dX4_canGoOnWithPiece_53 : decode cX4_canGoOnWithPiece 53 = .ok (.goto 4, 3) := by decide +kernel
theorem dX4_canGoOnWithPiece_56 : decode cX4_canGoOnWithPiece 56 = .ok (.iconst 0, 1) := by decide +kernel
theorem dX4_canGoOnWithPiece_57 : decode cX4_canGoOnWithPiece 57 = .ok (.ireturn, 1) := by decide +kernel
theorem dX4_lengthOfPart_0 : decode cX4_lengthOfPart 0 = .ok (.aload_n 0, 1) := by decide +kernel
theorem dX4_lengthOfPart_1 : decode cX4_lengthOfPart 1 = .ok (.getfield 11, 3) := by decide +kernel
theorem dX4_lengthOfPart_4 : decode cX4_lengthOfPart 4 = .ok (.iconst 0, 1) := by decide +kernel
theorem dX4_lengthOfPart_5 : decode cX4_lengthOfPart 5 = .ok (.iaload, 1) := by decide +kernel
theorem dX4_lengthOfPart_6 : decode cX4_lengthOfPart 6 = .ok (.lookupswitch 30 #[(72, 26), (83, 28)], 26) := by decide +kernel
theorem dX4_lengthOfPart_32 : decode cX4_lengthOfPart 32 = .ok (.iconst 3, 1) := by decide +kernel
theorem dX4_lengthOfPart_33 : decode cX4_lengthOfPart 33 = .ok (.ireturn, 1) := by decide +kernel
theorem dX4_lengthOfPart_34 : decode cX4_lengthOfPart 34 = .ok (.iconst 4, 1) := by decide +kernel
theorem dX4_lengthOfPart_35 : decode cX4_lengthOfPart 35 = .ok (.ireturn, 1) := by decide +kernel
theorem dX4_lengthOfPart_36 : decode cX4_lengthOfPart 36 = .ok (.iconst 5, 1) := by decide +kernel
theorem dX4_lengthOfPart_37 : decode cX4_lengthOfPart 37 = .ok (.ireturn, 1) := by decide +kernel
theorem dX4_addPart_0 : decode cX4_addPart 0 = .ok (.aload_n 0, 1) := by decide +kernel
theorem dX4_addPart_1 : decode cX4_addPart 1 = .ok (.getfield 11, 3) := by decide +kernel
theorem dX4_addPart_4 : decode cX4_addPart 4 = .ok (.iconst 0, 1) := by decide +kernel
theorem dX4_addPart_5 : decode cX4_addPart 5 = .ok (.iaload, 1) := by decide +kernel
theorem dX4_addPart_6 : decode cX4_addPart 6 = .ok (.lookupswitch 70 #[(72, 26), (83, 45)], 26) := by decide +kernel
theorem dX4_addPart_32 : decode cX4_addPart 32 = .ok (.aload_n 1, 1) := by decide +kernel
theorem dX4_addPart_33 : decode cX4_addPart 33 = .ok (.aload_n 0, 1) := by decide +kernel
theorem dX4_addPart_34 : decode cX4_addPart 34 = .ok (.getfield 11, 3) := by decide +kernel
theorem dX4_addPart_37 : decode cX4_addPart 37 = .ok (.iconst 1, 1) := by decide +kernel
theorem dX4_addPart_38 : decode cX4_addPart 38 = .ok (.iaload, 1) := by decide +kernel
theorem dX4_addPart_39 : decode cX4_addPart 39 = .ok (.aload_n 0, 1) := by decide +kernel
theorem dX4_addPart_40 : decode cX4_addPart 40 = .ok (.getfield 11, 3) := by decide +kernel
theorem dX4_addPart_43 : decode cX4_addPart 43 = .ok (.iconst 2, 1) := by decide +kernel
theorem dX4_addPart_44 : decode cX4_addPart 44 = .ok (.iaload, 1) := by decide +kernel
theorem dX4_addPart_45 : decode cX4_addPart 45 = .ok (.invokevirtual 78, 3) := by decide +kernel
theorem dX4_addPart_48 : decode cX4_addPart 48 = .ok (.goto 56, 3) := by decide +kernel
theorem dX4_addPart_51 : decode cX4_addPart 51 = .ok (.aload_n 1, 1) := by decide +kernel
theorem dX4_addPart_52 : decode cX4_addPart 52 = .ok (.aload_n 0, 1) := by decide +kernel
theorem dX4_addPart_53 : decode cX4_addPart 53 = .ok (.getfield 11, 3) := by decide +kernel
theorem dX4_addPart_56 : decode cX4_addPart 56 = .ok (.iconst 1, 1) := by decide +kernel
theorem dX4_addPart_57 : decode cX4_addPart 57 = .ok (.iaload, 1) := by decide +kernel
theorem dX4_addPart_58 : decode cX4_addPart 58 = .ok (.aload_n 0, 1) := by decide +kernel
theorem dX4_addPart_59 : decode cX4_addPart 59 = .ok (.getfield 11, 3) := by decide +kernel
theorem dX4_addPart_62 : decode cX4_addPart 62 = .ok (.iconst 2, 1) := by decide +kernel
theorem dX4_addPart_63 : decode cX4_addPart 63 = .ok (.iaload, 1) := by decide +kernel
theorem dX4_addPart_64 : decode cX4_addPart 64 = .ok (.aload_n 0, 1) := by decide +kernel
theorem dX4_addPart_65 : decode cX4_addPart 65 = .ok (.getfield 11, 3) := by decide +kernel
theorem dX4_addPart_68 : decode cX4_addPart 68 = .ok (.iconst 3, 1) := by decide +kernel
theorem dX4_addPart_69 : decode cX4_addPart 69 = .ok (.iaload, 1) := by decide +kernel
theorem dX4_addPart_70 : decode cX4_addPart 70 = .ok (.invokevirtual 82, 3) := by decide +kernel
theorem dX4_addPart_73 : decode cX4_addPart 73 = .ok (.goto 31, 3) := by decide +kernel
theorem dX4_addPart_76 : decode cX4_addPart 76 = .ok (.aload_n 1, 1) := by decide +kernel
theorem dX4_addPart_77 : decode cX4_addPart 77 = .ok (.aload_n 0, 1) := by decide +kernel
theorem dX4_addPart_78 : decode cX4_addPart 78 = .ok (.getfield 11, 3) := by decide +kernel
theorem dX4_addPart_81 : decode cX4_addPart 81 = .ok (.iconst 1, 1) := by decide +kernel
theorem dX4_addPart_82 : decode cX4_addPart 82 = .ok (.iaload, 1) := by decide +kernel
theorem dX4_addPart_83 : decode cX4_addPart 83 = .ok (.aload_n 0, 1) := by decide +kernel
theorem dX4_addPart_84 : decode cX4_addPart 84 = .ok (.getfield 11, 3) := by decide +kernel
theorem dX4_addPart_87 : decode cX4_addPart 87 = .ok (.iconst 2, 1) := by decide +kernel
theorem dX4_addPart_88 : decode cX4_addPart 88 = .ok (.iaload, 1) := by decide +kernel
theorem dX4_addPart_89 : decode cX4_addPart 89 = .ok (.aload_n 0, 1) := by decide +kernel
theorem dX4_addPart_90 : decode cX4_addPart 90 = .ok (.getfield 11, 3) := by decide +kernel
theorem dX4_addPart_93 : decode cX4_addPart 93 = .ok (.iconst 3, 1) := by decide +kernel
theorem dX4_addPart_94 : decode cX4_addPart 94 = .ok (.iaload, 1) := by decide +kernel
theorem dX4_addPart_95 : decode cX4_addPart 95 = .ok (.aload_n 0, 1) := by decide +kernel
theorem dX4_addPart_96 : decode cX4_addPart 96 = .ok (.getfield 11, 3) := by decide +kernel
theorem dX4_addPart_99 : decode cX4_addPart 99 = .ok (.iconst 4, 1) := by decide +kernel
theorem dX4_addPart_100 : decode cX4_addPart 100 = .ok (.iaload, 1) := by decide +kernel
theorem dX4_addPart_101 : decode cX4_addPart 101 = .ok (.invokevirtual 86, 3) := by decide +kernel
theorem dX4_addPart_104 : decode cX4_addPart 104 = .ok (.return_, 1) := by decide +kernel
theorem dX5_init_0 : decode cX5_init 0 = .ok (.aload_n 0, 1) := by decide +kernel
theorem dX5_init_1 : decode cX5_init 1 = .ok (.invokespecial 3, 3) := by decide +kernel
theorem dX5_init_4 : decode cX5_init 4 = .ok (.aload_n 0, 1) := by decide +kernel
theorem dX5_init_5 : decode cX5_init 5 = .ok (.bipush 6, 2) := by decide +kernel
theorem dX5_init_7 : decode cX5_init 7 = .ok (.newarray .long, 2) := by decide +kernel
theorem dX5_init_9 : decode cX5_init 9 = .ok (.putfield 9, 3) := by decide +kernel
theorem dX5_init_12 : decode cX5_init 12 = .ok (.aload_n 0, 1) := by decide +kernel
theorem dX5_init_13 : decode cX5_init 13 = .ok (.bipush 6, 2) := by decide +kernel
theorem dX5_init_15 : decode cX5_init 15 = .ok (.newarray .long, 2) := by decide +kernel
theorem dX5_init_17 : decode cX5_init 17 = .ok (.putfield 15, 3) := by decide +kernel
theorem dX5_init_20 : decode cX5_init 20 = .ok (.return_, 1) := by decide +kernel
theorem dX5_begin_0 : decode cX5_begin 0 = .ok (.iconst 0, 1) := by decide +kernel
theorem dX5_begin_1 : decode cX5_begin 1 = .ok (.istore_n 2, 1) := by decide +kernel
theorem dX5_begin_2 : decode cX5_begin 2 = .ok (.iload_n 2, 1) := by decide +kernel
theorem dX5_begin_3 : decode cX5_begin 3 = .ok (.bipush 6, 2) := by decide +kernel
theorem dX5_begin_5 : decode cX5_begin 5 = .ok (.if_icmp .ge 25, 3) := by decide +kernel
theorem dX5_begin_8 : decode cX5_begin 8 = .ok (.aload_n 0, 1) := by decide +kernel
theorem dX5_begin_9 : decode cX5_begin 9 = .ok (.getfield 9, 3) := by decide +kernel
theorem dX5_begin_12 : decode cX5_begin 12 = .ok (.iload_n 2, 1) := by decide +kernel
theorem dX5_begin_13 : decode cX5_begin 13 = .ok (.iload_n 2, 1) := by decide +kernel
theorem dX5_begin_14 : decode cX5_begin 14 = .ok (.iload_n 1, 1) := by decide +kernel
theorem dX5_begin_15 : decode cX5_begin 15 = .ok (.if_icmp .ne 7, 3) := by decide +kernel
theorem dX5_begin_18 : decode cX5_begin 18 = .ok (.lconst 1, 1) := by decide +kernel
theorem dX5_begin_19 : decode cX5_begin 19 = .ok (.goto 4, 3) := by decide +kernel
theorem dX5_begin_22 : decode cX5_begin 22 = .ok (.lconst 0, 1) := by decide +kernel
theorem dX5_begin_23 : decode cX5_begin 23 = .ok (.lastore, 1) := by decide +kernel
theorem dX5_begin_24 : decode cX5_begin 24 = .ok (.iinc 2 1, 3) := by decide +kernel
theorem dX5_begin_27 : decode cX5_begin 27 = .ok (.goto (-25), 3) := by decide +kernel
theorem dX5_begin_30 : decode cX5_begin 30 = .ok (.return_, 1) := by decide +kernel
theorem dX5_drawHour_0 : decode cX5_drawHour 0 = .ok (.iconst 0, 1) := by decide +kernel
theorem dX5_drawHour_1 : decode cX5_drawHour 1 = .ok (.istore 5, 2) := by decide +kernel
theorem dX5_drawHour_3 : decode cX5_drawHour 3 = .ok (.iload 5, 2) := by decide +kernel
theorem dX5_drawHour_5 : decode cX5_drawHour 5 = .ok (.bipush 6, 2) := by decide +kernel
theorem dX5_drawHour_7 : decode cX5_drawHour 7 = .ok (.if_icmp .ge 27, 3) := by decide +kernel
theorem dX5_drawHour_10 : decode cX5_drawHour 10 = .ok (.aload_n 0, 1) := by decide +kernel
theorem dX5_drawHour_11 : decode cX5_drawHour 11 = .ok (.getfield 15, 3) := by decide +kernel
theorem dX5_drawHour_14 : decode cX5_drawHour 14 = .ok (.iload 5, 2) := by decide +kernel
theorem dX5_drawHour_16 : decode cX5_drawHour 16 = .ok (.ldc2_w 18, 3) := by decide +kernel
theorem dX5_drawHour_19 : decode cX5_drawHour 19 = .ok (.aload_n 0, 1) := by decide +kernel
theorem dX5_drawHour_20 : decode cX5_drawHour 20 = .ok (.getfield 9, 3) := by decide +kernel
theorem dX5_drawHour_23 : decode cX5_drawHour 23 = .ok (.iload 5, 2) := by decide +kernel
theorem dX5_drawHour_25 : decode cX5_drawHour 25 = .ok (.laload, 1) := by decide +kernel
theorem dX5_drawHour_26 : decode cX5_drawHour 26 = .ok (.lmul, 1) := by decide +kernel
theorem dX5_drawHour_27 : decode cX5_drawHour 27 = .ok (.lastore, 1) := by decide +kernel
theorem dX5_drawHour_28 : decode cX5_drawHour 28 = .ok (.iinc 5 1, 3) := by decide +kernel
theorem dX5_drawHour_31 : decode cX5_drawHour 31 = .ok (.goto (-28), 3) := by decide +kernel
theorem dX5_drawHour_34 : decode cX5_drawHour 34 = .ok (.iconst 0, 1) := by decide +kernel
theorem dX5_drawHour_35 : decode cX5_drawHour 35 = .ok (.istore 5, 2) := by decide +kernel
theorem dX5_drawHour_37 : decode cX5_drawHour 37 = .ok (.iload 5, 2) := by decide +kernel
theorem dX5_drawHour_39 : decode cX5_drawHour 39 = .ok (.aload_n 1, 1) := by decide +kernel
theorem dX5_drawHour_40 : decode cX5_drawHour 40 = .ok (.getfield 20, 3) := by decide +kernel
theorem dX5_drawHour_43 : decode cX5_drawHour 43 = .ok (.if_icmp .ge 57, 3) := by decide +kernel
theorem dX5_drawHour_46 : decode cX5_drawHour 46 = .ok (.aload_n 1, 1) := by decide +kernel
theorem dX5_drawHour_47 : decode cX5_drawHour 47 = .ok (.getfield 26, 3) := by decide +kernel
theorem dX5_drawHour_50 : decode cX5_drawHour 50 = .ok (.iload 5, 2) := by decide +kernel
theorem dX5_drawHour_52 : decode cX5_drawHour 52 = .ok (.iaload, 1) := by decide +kernel
theorem dX5_drawHour_53 : decode cX5_drawHour 53 = .ok (.istore 6, 2) := by decide +kernel
theorem dX5_drawHour_55 : decode cX5_drawHour 55 = .ok (.aload_n 2, 1) := by decide +kernel
theorem dX5_drawHour_56 : decode cX5_drawHour 56 = .ok (.iload 5, 2) := by decide +kernel
theorem dX5_drawHour_58 : decode cX5_drawHour 58 = .ok (.baload, 1) := by decide +kernel
theorem dX5_drawHour_59 : decode cX5_drawHour 59 = .ok (.ifCond .ne 35, 3) := by decide +kernel
theorem dX5_drawHour_62 : decode cX5_drawHour 62 = .ok (.aload_n 1, 1) := by decide +kernel
theorem dX5_drawHour_63 : decode cX5_drawHour 63 = .ok (.iload 6, 2) := by decide +kernel
theorem dX5_drawHour_65 : decode cX5_drawHour 65 = .ok (.iload 4, 2) := by decide +kernel
theorem dX5_drawHour_67 : decode cX5_drawHour 67 = .ok (.invokevirtual 30, 3) := by decide +kernel
theorem dX5_drawHour_70 : decode cX5_drawHour 70 = .ok (.iload_n 3, 1) := by decide +kernel
theorem dX5_drawHour_71 : decode cX5_drawHour 71 = .ok (.if_icmp .lt 23, 3) := by decide +kernel
theorem dX5_drawHour_74 : decode cX5_drawHour 74 = .ok (.aload_n 0, 1) := by decide +kernel
theorem dX5_drawHour_75 : decode cX5_drawHour 75 = .ok (.iload 6, 2) := by decide +kernel
theorem dX5_drawHour_77 : decode cX5_drawHour 77 = .ok (.aload_n 1, 1) := by decide +kernel
theorem dX5_drawHour_78 : decode cX5_drawHour 78 = .ok (.getfield 34, 3) := by decide +kernel
theorem dX5_drawHour_81 : decode cX5_drawHour 81 = .ok (.iload 5, 2) := by decide +kernel
theorem dX5_drawHour_83 : decode cX5_drawHour 83 = .ok (.iaload, 1) := by decide +kernel
theorem dX5_drawHour_84 : decode cX5_drawHour 84 = .ok (.aload_n 1, 1) := by decide +kernel
theorem dX5_drawHour_85 : decode cX5_drawHour 85 = .ok (.getfield 37, 3) := by decide +kernel
theorem dX5_drawHour_88 : decode cX5_drawHour 88 = .ok (.iload 5, 2) := by decide +kernel
theorem dX5_drawHour_90 : decode cX5_drawHour 90 = .ok (.iaload, 1) := by decide +kernel
theorem dX5_drawHour_91 : decode cX5_drawHour 91 = .ok (.invokevirtual 40, 3) := by decide +kernel
theorem dX5_drawHour_94 : decode cX5_drawHour 94 = .ok (.iinc 5 1, 3) := by decide +kernel
theorem dX5_drawHour_97 : decode cX5_drawHour 97 = .ok (.goto (-60), 3) := by decide +kernel
theorem dX5_drawHour_100 : decode cX5_drawHour 100 = .ok (.aload_n 0, 1) := by decide +kernel
theorem dX5_drawHour_101 : decode cX5_drawHour 101 = .ok (.invokevirtual 44, 3) := by decide +kernel
theorem dX5_drawHour_104 : decode cX5_drawHour 104 = .ok (.return_, 1) := by decide +kernel
theorem dX5_move_0 : decode cX5_move 0 = .ok (.aload_n 0, 1) := by decide +kernel
theorem dX5_move_1 : decode cX5_move 1 = .ok (.getfield 15, 3) := by decide +kernel
theorem dX5_move_4 : decode cX5_move 4 = .ok (.iload_n 1, 1) := by decide +kernel
theorem dX5_move_5 : decode cX5_move 5 = .ok (.dup2, 1) := by decide +kernel
theorem dX5_move_6 : decode cX5_move 6 = .ok (.laload, 1) := by decide +kernel
theorem dX5_move_7 : decode cX5_move 7 = .ok (.iload_n 3, 1) := by decide +kernel
theorem dX5_move_8 : decode cX5_move 8 = .ok (.i2l, 1) := by decide +kernel
theorem dX5_move_9 : decode cX5_move 9 = .ok (.aload_n 0, 1) := by decide +kernel
theorem dX5_move_10 : decode cX5_move 10 = .ok (.getfield 9, 3) := by decide +kernel
theorem dX5_move_13 : decode cX5_move 13 = .ok (.iload_n 1, 1) := by decide +kernel
theorem dX5_move_14 : decode cX5_move 14 = .ok (.laload, 1) := by decide +kernel
theorem dX5_move_15 : decode cX5_move 15 = .ok (.lmul, 1) := by decide +kernel
theorem dX5_move_16 : decode cX5_move 16 = .ok (.lsub, 1) := by decide +kernel
theorem dX5_move_17 : decode cX5_move 17 = .ok (.lastore, 1) := by decide +kernel
theorem dX5_move_18 : decode cX5_move 18 = .ok (.aload_n 0, 1) := by decide +kernel
theorem dX5_move_19 : decode cX5_move 19 = .ok (.getfield 15, 3) := by decide +kernel
theorem dX5_move_22 : decode cX5_move 22 = .ok (.iload_n 2, 1) := by decide +kernel
theorem dX5_move_23 : decode cX5_move 23 = .ok (.dup2, 1) := by decide +kernel
theorem dX5_move_24 : decode cX5_move 24 = .ok (.laload, 1) := by decide +kernel
theorem dX5_move_25 : decode cX5_move 25 = .ok (.iload_n 3, 1) := by decide +kernel
theorem dX5_move_26 : decode cX5_move 26 = .ok (.i2l, 1) := by decide +kernel
theorem dX5_move_27 : decode cX5_move 27 = .ok (.aload_n 0, 1) := by decide +kernel
theorem dX5_move_28 : decode cX5_move 28 = .ok (.getfield 9, 3) := by decide +kernel
theorem dX5_move_31 : decode cX5_move 31 = .ok (.iload_n 1, 1) := by decide +kernel
theorem dX5_move_32 : decode cX5_move 32 = .ok (.laload, 1) := by decide +kernel
theorem dX5_move_33 : decode cX5_move 33 = .ok (.lmul, 1) := by decide +kernel
theorem dX5_move_34 : decode cX5_move 34 = .ok (.ladd, 1) := by decide +kernel
theorem dX5_move_35 : decode cX5_move 35 = .ok (.lastore, 1) := by decide +kernel
theorem dX5_move_36 : decode cX5_move 36 = .ok (.return_, 1) := by decide +kernel
theorem dX5_drawSpring_0 : decode cX5_drawSpring 0 = .ok (.iconst 0, 1) := by decide +kernel
theorem dX5_drawSpring_1 : decode cX5_drawSpring 1 = .ok (.istore_n 2, 1) := by decide +kernel
theorem dX5_drawSpring_2 : decode cX5_drawSpring 2 = .ok (.iload_n 2, 1) := by decide +kernel
theorem dX5_drawSpring_3 : decode cX5_drawSpring 3 = .ok (.bipush 6, 2) := by decide +kernel
theorem dX5_drawSpring_5 : decode cX5_drawSpring 5 = .ok (.if_icmp .ge 21, 3) := by decide +kernel
theorem dX5_drawSpring_8 : decode cX5_drawSpring 8 = .ok (.aload_n 0, 1) := by decide +kernel
theorem dX5_drawSpring_9 : decode cX5_drawSpring 9 = .ok (.getfield 15, 3) := by decide +kernel
theorem dX5_drawSpring_12 : decode cX5_drawSpring 12 = .ok (.iload_n 2, 1) := by decide +kernel
theorem dX5_drawSpring_13 : decode cX5_drawSpring 13 = .ok (.aload_n 0, 1) := by decide +kernel
theorem dX5_drawSpring_14 : decode cX5_drawSpring 14 = .ok (.getfield 9, 3) := by decide +kernel
theorem dX5_drawSpring_17 : decode cX5_drawSpring 17 = .ok (.iload_n 2, 1) := by decide +kernel
theorem dX5_drawSpring_18 : decode cX5_drawSpring 18 = .ok (.laload, 1) := by decide +kernel
theorem dX5_drawSpring_19 : decode cX5_drawSpring 19 = .ok (.lastore, 1) := by decide +kernel
theorem dX5_drawSpring_20 : decode cX5_drawSpring 20 = .ok (.iinc 2 1, 3) := by decide +kernel
theorem dX5_drawSpring_23 : decode cX5_drawSpring 23 = .ok (.goto (-21), 3) := by decide +kernel
theorem dX5_drawSpring_26 : decode cX5_drawSpring 26 = .ok (.iconst 0, 1) := by decide +kernel
theorem dX5_drawSpring_27 : decode cX5_drawSpring 27 = .ok (.istore_n 2, 1) := by decide +kernel
theorem dX5_drawSpring_28 : decode cX5_drawSpring 28 = .ok (.iload_n 2, 1) := by decide +kernel
theorem dX5_drawSpring_29 : decode cX5_drawSpring 29 = .ok (.aload_n 1, 1) := by decide +kernel
theorem dX5_drawSpring_30 : decode cX5_drawSpring 30 = .ok (.getfield 20, 3) := by decide +kernel
theorem dX5_drawSpring_33 : decode cX5_drawSpring 33 = .ok (.if_icmp .ge 34, 3) := by decide +kernel
theorem dX5_drawSpring_36 : decode cX5_drawSpring 36 = .ok (.aload_n 0, 1) := by decide +kernel
theorem dX5_drawSpring_37 : decode cX5_drawSpring 37 = .ok (.getfield 15, 3) := by decide +kernel
theorem dX5_drawSpring_40 : decode cX5_drawSpring 40 = .ok (.aload_n 1, 1) := by decide +kernel
theorem dX5_drawSpring_41 : decode cX5_drawSpring 41 = .ok (.getfield 34, 3) := by decide +kernel
theorem dX5_drawSpring_44 : decode cX5_drawSpring 44 = .ok (.iload_n 2, 1) := by decide +kernel
theorem dX5_drawSpring_45 : decode cX5_drawSpring 45 = .ok (.iaload, 1) := by decide +kernel
theorem dX5_drawSpring_46 : decode cX5_drawSpring 46 = .ok (.dup2, 1) := by decide +kernel
theorem dX5_drawSpring_47 : decode cX5_drawSpring 47 = .ok (.laload, 1) := by decide +kernel
theorem dX5_drawSpring_48 : decode cX5_drawSpring 48 = .ok (.aload_n 0, 1) := by decide +kernel
theorem dX5_drawSpring_49 : decode cX5_drawSpring 49 = .ok (.getfield 9, 3) := by decide +kernel
theorem dX5_drawSpring_52 : decode cX5_drawSpring 52 = .ok (.aload_n 1, 1) := by decide +kernel
theorem dX5_drawSpring_53 : decode cX5_drawSpring 53 = .ok (.getfield 26, 3) := by decide +kernel
theorem dX5_drawSpring_56 : decode cX5_drawSpring 56 = .ok (.iload_n 2, 1) := by decide +kernel
theorem dX5_drawSpring_57 : decode cX5_drawSpring 57 = .ok (.iaload, 1) := by decide +kernel
theorem dX5_drawSpring_58 : decode cX5_drawSpring 58 = .ok (.laload, 1) := by decide +kernel
theorem dX5_drawSpring_59 : decode cX5_drawSpring 59 = .ok (.ladd, 1) := by decide +kernel
theorem dX5_drawSpring_60 : decode cX5_drawSpring 60 = .ok (.lastore, 1) := by decide +kernel
theorem dX5_drawSpring_61 : decode cX5_drawSpring 61 = .ok (.iinc 2 1, 3) := by decide +kernel
theorem dX5_drawSpring_64 : decode cX5_drawSpring 64 = .ok (.goto (-36), 3) := by decide +kernel
theorem dX5_drawSpring_67 : decode cX5_drawSpring 67 = .ok (.aload_n 0, 1) := by decide +kernel
theorem dX5_drawSpring_68 : decode cX5_drawSpring 68 = .ok (.invokevirtual 44, 3) := by decide +kernel
theorem dX5_drawSpring_71 : decode cX5_drawSpring 71 = .ok (.return_, 1) := by decide +kernel
theorem dX5_turn_0 : decode cX5_turn 0 = .ok (.aload_n 0, 1) := by decide +kernel
theorem dX5_turn_1 : decode cX5_turn 1 = .ok (.getfield 9, 3) := by decide +kernel
theorem dX5_turn_4 : decode cX5_turn 4 = .ok (.astore_n 1, 1) := by decide +kernel
theorem dX5_turn_5 : decode cX5_turn 5 = .ok (.aload_n 0, 1) := by decide +kernel
theorem dX5_turn_6 : decode cX5_turn 6 = .ok (.aload_n 0, 1) := by decide +kernel
theorem dX5_turn_7 : decode cX5_turn 7 = .ok (.getfield 15, 3) := by decide +kernel
theorem dX5_turn_10 : decode cX5_turn 10 = .ok (.putfield 9, 3) := by decide +kernel
theorem dX5_turn_13 : decode cX5_turn 13 = .ok (.aload_n 0, 1) := by decide +kernel
theorem dX5_turn_14 : decode cX5_turn 14 = .ok (.aload_n 1, 1) := by decide +kernel
theorem dX5_turn_15 : decode cX5_turn 15 = .ok (.putfield 15, 3) := by decide +kernel
theorem dX5_turn_18 : decode cX5_turn 18 = .ok (.return_, 1) := by decide +kernel
theorem dX5_holdTo_0 : decode cX5_holdTo 0 = .ok (.iconst 0, 1) := by decide +kernel
theorem dX5_holdTo_1 : decode cX5_holdTo 1 = .ok (.istore_n 3, 1) := by decide +kernel
theorem dX5_holdTo_2 : decode cX5_holdTo 2 = .ok (.iload_n 3, 1) := by decide +kernel
theorem dX5_holdTo_3 : decode cX5_holdTo 3 = .ok (.bipush 6, 2) := by decide +kernel
theorem dX5_holdTo_5 : decode cX5_holdTo 5 = .ok (.if_icmp .ge 25, 3) := by decide +kernel
theorem dX5_holdTo_8 : decode cX5_holdTo 8 = .ok (.aload_n 1, 1) := by decide +kernel
theorem dX5_holdTo_9 : decode cX5_holdTo 9 = .ok (.iload_n 2, 1) := by decide +kernel
theorem dX5_holdTo_10 : decode cX5_holdTo 10 = .ok (.iload_n 3, 1) := by decide +kernel
theorem dX5_holdTo_11 : decode cX5_holdTo 11 = .ok (.invokevirtual 47, 3) := by decide +kernel
theorem dX5_holdTo_14 : decode cX5_holdTo 14 = .ok (.ifCond .ne 10, 3) := by decide +kernel
theorem dX5_holdTo_17 : decode cX5_holdTo 17 = .ok (.aload_n 0, 1) := by decide +kernel
theorem dX5_holdTo_18 : decode cX5_holdTo 18 = .ok (.getfield 9, 3) := by decide +kernel
theorem dX5_holdTo_21 : decode cX5_holdTo 21 = .ok (.iload_n 3, 1) := by decide +kernel
theorem dX5_holdTo_22 : decode cX5_holdTo 22 = .ok (.lconst 0, 1) := by decide +kernel
theorem dX5_holdTo_23 : decode cX5_holdTo 23 = .ok (.lastore, 1) := by decide +kernel
theorem dX5_holdTo_24 : decode cX5_holdTo 24 = .ok (.iinc 3 1, 3) := by decide +kernel
theorem dX5_holdTo_27 : decode cX5_holdTo 27 = .ok (.goto (-25), 3) := by decide +kernel
theorem dX5_holdTo_30 : decode cX5_holdTo 30 = .ok (.return_, 1) := by decide +kernel
theorem dX6_init_0 : decode cX6_init 0 = .ok (.aload_n 0, 1) := by decide +kernel
theorem dX6_init_1 : decode cX6_init 1 = .ok (.invokespecial 3, 3) := by decide +kernel
theorem dX6_init_4 : decode cX6_init 4 = .ok (.aload_n 0, 1) := by decide +kernel
theorem dX6_init_5 : decode cX6_init 5 = .ok (.bipush 6, 2) := by decide +kernel
theorem dX6_init_7 : decode cX6_init 7 = .ok (.newarray .int, 2) := by decide +kernel
theorem dX6_init_9 : decode cX6_init 9 = .ok (.putfield 9, 3) := by decide +kernel
theorem dX6_init_12 : decode cX6_init 12 = .ok (.aload_n 0, 1) := by decide +kernel
theorem dX6_init_13 : decode cX6_init 13 = .ok (.bipush 6, 2) := by decide +kernel
theorem dX6_init_15 : decode cX6_init 15 = .ok (.newarray .int, 2) := by decide +kernel
theorem dX6_init_17 : decode cX6_init 17 = .ok (.putfield 15, 3) := by decide +kernel
theorem dX6_init_20 : decode cX6_init 20 = .ok (.aload_n 0, 1) := by decide +kernel
theorem dX6_init_21 : decode cX6_init 21 = .ok (.bipush 6, 2) := by decide +kernel
theorem dX6_init_23 : decode cX6_init 23 = .ok (.newarray .int, 2) := by decide +kernel
theorem dX6_init_25 : decode cX6_init 25 = .ok (.putfield 18, 3) := by decide +kernel
theorem dX6_init_28 : decode cX6_init 28 = .ok (.aload_n 0, 1) := by decide +kernel
theorem dX6_init_29 : decode cX6_init 29 = .ok (.bipush 6, 2) := by decide +kernel
theorem dX6_init_31 : decode cX6_init 31 = .ok (.newarray .int, 2) := by decide +kernel
theorem dX6_init_33 : decode cX6_init 33 = .ok (.putfield 21, 3) := by decide +kernel
theorem dX6_init_36 : decode cX6_init 36 = .ok (.aload_n 0, 1) := by decide +kernel
theorem dX6_init_37 : decode cX6_init 37 = .ok (.bipush 6, 2) := by decide +kernel
theorem dX6_init_39 : decode cX6_init 39 = .ok (.bipush 8, 2) := by decide +kernel
theorem dX6_init_41 : decode cX6_init 41 = .ok (.multianewarray 24 2, 4) := by decide +kernel
theorem dX6_init_45 : decode cX6_init 45 = .ok (.putfield 26, 3) := by decide +kernel
theorem dX6_init_48 : decode cX6_init 48 = .ok (.aload_n 0, 1) := by decide +kernel
theorem dX6_init_49 : decode cX6_init 49 = .ok (.bipush 10, 2) := by decide +kernel
theorem dX6_init_51 : decode cX6_init 51 = .ok (.newarray .boolean, 2) := by decide +kernel
theorem dX6_init_53 : decode cX6_init 53 = .ok (.putfield 29, 3) := by decide +kernel
theorem dX6_init_56 : decode cX6_init 56 = .ok (.return_, 1) := by decide +kernel
theorem dX6_begin_0 : decode cX6_begin 0 = .ok (.aload_n 0, 1) := by decide +kernel
theorem dX6_begin_1 : decode cX6_begin 1 = .ok (.iconst 0, 1) := by decide +kernel
theorem dX6_begin_2 : decode cX6_begin 2 = .ok (.putfield 33, 3) := by decide +kernel
theorem dX6_begin_5 : decode cX6_begin 5 = .ok (.iconst 0, 1) := by decide +kernel
theorem dX6_begin_6 : decode cX6_begin 6 = .ok (.istore_n 2, 1) := by decide +kernel
theorem dX6_begin_7 : decode cX6_begin 7 = .ok (.iload_n 2, 1) := by decide +kernel
theorem dX6_begin_8 : decode cX6_begin 8 = .ok (.aload_n 1, 1) := by decide +kernel
theorem dX6_begin_9 : decode cX6_begin 9 = .ok (.getfield 37, 3) := by decide +kernel
theorem dX6_begin_12 : decode cX6_begin 12 = .ok (.if_icmp .ge 58, 3) := by decide +kernel
theorem dX6_begin_15 : decode cX6_begin 15 = .ok (.aload_n 1, 1) := by decide +kernel
theorem dX6_begin_16 : decode cX6_begin 16 = .ok (.getfield 42, 3) := by decide +kernel
theorem dX6_begin_19 : decode cX6_begin 19 = .ok (.iload_n 2, 1) := by decide +kernel
theorem dX6_begin_20 : decode cX6_begin 20 = .ok (.iaload, 1) := by decide +kernel
theorem dX6_begin_21 : decode cX6_begin 21 = .ok (.istore_n 3, 1) := by decide +kernel
theorem dX6_begin_22 : decode cX6_begin 22 = .ok (.aload_n 0, 1) := by decide +kernel
theorem dX6_begin_23 : decode cX6_begin 23 = .ok (.getfield 9, 3) := by decide +kernel
theorem dX6_begin_26 : decode cX6_begin 26 = .ok (.iload_n 2, 1) := by decide +kernel
theorem dX6_begin_27 : decode cX6_begin 27 = .ok (.iload_n 3, 1) := by decide +kernel
theorem dX6_begin_28 : decode cX6_begin 28 = .ok (.iastore, 1) := by decide +kernel
theorem dX6_begin_29 : decode cX6_begin 29 = .ok (.aload_n 0, 1) := by decide +kernel
theorem dX6_begin_30 : decode cX6_begin 30 = .ok (.getfield 15, 3) := by decide +kernel
theorem dX6_begin_33 : decode cX6_begin 33 = .ok (.iload_n 2, 1) := by decide +kernel
theorem dX6_begin_34 : decode cX6_begin 34 = .ok (.aload_n 1, 1) := by decide +kernel
theorem dX6_begin_35 : decode cX6_begin 35 = .ok (.getfield 45, 3) := by decide +kernel
theorem dX6_begin_38 : decode cX6_begin 38 = .ok (.iload_n 2, 1) := by decide +kernel
theorem dX6_begin_39 : decode cX6_begin 39 = .ok (.iaload, 1) := by decide +kernel
theorem dX6_begin_40 : decode cX6_begin 40 = .ok (.iastore, 1) := by decide +kernel
theorem dX6_begin_41 : decode cX6_begin 41 = .ok (.aload_n 0, 1) := by decide +kernel
theorem dX6_begin_42 : decode cX6_begin 42 = .ok (.getfield 18, 3) := by decide +kernel
theorem dX6_begin_45 : decode cX6_begin 45 = .ok (.iload_n 2, 1) := by decide +kernel
theorem dX6_begin_46 : decode cX6_begin 46 = .ok (.iload_n 3, 1) := by decide +kernel
theorem dX6_begin_47 : decode cX6_begin 47 = .ok (.iastore, 1) := by decide +kernel
theorem dX6_begin_48 : decode cX6_begin 48 = .ok (.aload_n 0, 1) := by decide +kernel
theorem dX6_begin_49 : decode cX6_begin 49 = .ok (.getfield 26, 3) := by decide +kernel
theorem dX6_begin_52 : decode cX6_begin 52 = .ok (.iload_n 2, 1) := by decide +kernel
theorem dX6_begin_53 : decode cX6_begin 53 = .ok (.aaload, 1) := by decide +kernel
theorem dX6_begin_54 : decode cX6_begin 54 = .ok (.iconst 0, 1) := by decide +kernel
theorem dX6_begin_55 : decode cX6_begin 55 = .ok (.iload_n 3, 1) := by decide +kernel
theorem dX6_begin_56 : decode cX6_begin 56 = .ok (.iastore, 1) := by decide +kernel
theorem dX6_begin_57 : decode cX6_begin 57 = .ok (.aload_n 0, 1) := by decide +kernel
theorem dX6_begin_58 : decode cX6_begin 58 = .ok (.getfield 21, 3) := by decide +kernel
theorem dX6_begin_61 : decode cX6_begin 61 = .ok (.iload_n 2, 1) := by decide +kernel
theorem dX6_begin_62 : decode cX6_begin 62 = .ok (.iconst 1, 1) := by decide +kernel
theorem dX6_begin_63 : decode cX6_begin 63 = .ok (.iastore, 1) := by decide +kernel
theorem dX6_begin_64 : decode cX6_begin 64 = .ok (.iinc 2 1, 3) := by decide +kernel
theorem dX6_begin_67 : decode cX6_begin 67 = .ok (.goto (-60), 3) := by decide +kernel
theorem dX6_begin_70 : decode cX6_begin 70 = .ok (.iconst 0, 1) := by decide +kernel
theorem dX6_begin_71 : decode cX6_begin 71 = .ok (.istore_n 2, 1) := by decide +kernel
theorem dX6_begin_72 : decode cX6_begin 72 = .ok (.iload_n 2, 1) := by decide +kernel
theorem dX6_begin_73 : decode cX6_begin 73 = .ok (.bipush 10, 2) := by decide +kernel
theorem dX6_begin_75 : decode cX6_begin 75 = .ok (.if_icmp .ge 16, 3) := by decide +kernel
theorem dX6_begin_78 : decode cX6_begin 78 = .ok (.aload_n 0, 1) := by decide +kernel
theorem dX6_begin_79 : decode cX6_begin 79 = .ok (.getfield 29, 3) := by decide +kernel
theorem dX6_begin_82 : decode cX6_begin 82 = .ok (.iload_n 2, 1) := by decide +kernel
theorem dX6_begin_83 : decode cX6_begin 83 = .ok (.iconst 0, 1) := by decide +kernel
theorem dX6_begin_84 : decode cX6_begin 84 = .ok (.bastore, 1) := by decide +kernel
theorem dX6_begin_85 : decode cX6_begin 85 = .ok (.iinc 2 1, 3) := by decide +kernel
theorem dX6_begin_88 : decode cX6_begin 88 = .ok (.goto (-16), 3) := by decide +kernel
theorem dX6_begin_91 : decode cX6_begin 91 = .ok (.return_, 1) := by decide +kernel
theorem dX6_takePlacesAndTies_0 : decode cX6_takePlacesAndTies 0 = .ok (.iconst 0, 1) := by decide +kernel
theorem dX6_takePlacesAndTies_1 : decode cX6_takePlacesAndTies 1 = .ok (.istore_n 3, 1) := by decide +kernel
theorem dX6_takePlacesAndTies_2 : decode cX6_takePlacesAndTies 2 = .ok (.iload_n 3, 1) := by decide +kernel
theorem dX6_takePlacesAndTies_3 : decode cX6_takePlacesAndTies 3 = .ok (.bipush 6, 2) := by decide +kernel
theorem dX6_takePlacesAndTies_5 : decode cX6_takePlacesAndTies 5 = .ok (.if_icmp .ge 27, 3) := by decide +kernel
theorem dX6_takePlacesAndTies_8 : decode cX6_takePlacesAndTies 8 = .ok (.aload_n 0, 1) := by decide +kernel
theorem dX6_takePlacesAndTies_9 : decode cX6_takePlacesAndTies 9 = .ok (.getfield 9, 3) := by decide +kernel
theorem dX6_takePlacesAndTies_12 : decode cX6_takePlacesAndTies 12 = .ok (.iload_n 3, 1) := by decide +kernel
theorem dX6_takePlacesAndTies_13 : decode cX6_takePlacesAndTies 13 = .ok (.aload_n 1, 1) := by decide +kernel
theorem dX6_takePlacesAndTies_14 : decode cX6_takePlacesAndTies 14 = .ok (.iload_n 3, 1) := by decide +kernel
theorem dX6_takePlacesAndTies_15 : decode cX6_takePlacesAndTies 15 = .ok (.iaload, 1) := by decide +kernel
theorem dX6_takePlacesAndTies_16 : decode cX6_takePlacesAndTies 16 = .ok (.iastore, 1) := by decide +kernel
theorem dX6_takePlacesAndTies_17 : decode cX6_takePlacesAndTies 17 = .ok (.aload_n 0, 1) := by decide +kernel
theorem dX6_takePlacesAndTies_18 : decode cX6_takePlacesAndTies 18 = .ok (.getfield 15, 3) := by decide +kernel
theorem dX6_takePlacesAndTies_21 : decode cX6_takePlacesAndTies 21 = .ok (.iload_n 3, 1) := by decide +kernel
theorem dX6_takePlacesAndTies_22 : decode cX6_takePlacesAndTies 22 = .ok (.aload_n 2, 1) := by decide +kernel
theorem dX6_takePlacesAndTies_23 : decode cX6_takePlacesAndTies 23 = .ok (.iload_n 3, 1) := by decide +kernel
theorem dX6_takePlacesAndTies_24 : decode cX6_takePlacesAndTies 24 = .ok (.iaload, 1) := by decide +kernel
theorem dX6_takePlacesAndTies_25 : decode cX6_takePlacesAndTies 25 = .ok (.iastore, 1) := by decide +kernel
theorem dX6_takePlacesAndTies_26 : decode cX6_takePlacesAndTies 26 = .ok (.iinc 3 1, 3) := by decide +kernel
theorem dX6_takePlacesAndTies_29 : decode cX6_takePlacesAndTies 29 = .ok (.goto (-27), 3) := by decide +kernel
theorem dX6_takePlacesAndTies_32 : decode cX6_takePlacesAndTies 32 = .ok (.return_, 1) := by decide +kernel
theorem dX6_takeAllButShut_0 : decode cX6_takeAllButShut 0 = .ok (.aload_n 0, 1) := by decide +kernel
theorem dX6_takeAllButShut_1 : decode cX6_takeAllButShut 1 = .ok (.aload_n 1, 1) := by decide +kernel
theorem dX6_takeAllButShut_2 : decode cX6_takeAllButShut 2 = .ok (.getfield 33, 3) := by decide +kernel
theorem dX6_takeAllButShut_5 : decode cX6_takeAllButShut 5 = .ok (.putfield 33, 3) := by decide +kernel
theorem dX6_takeAllButShut_8 : decode cX6_takeAllButShut 8 = .ok (.aload_n 0, 1) := by decide +kernel
theorem dX6_takeAllButShut_9 : decode cX6_takeAllButShut 9 = .ok (.aload_n 1, 1) := by decide +kernel
theorem dX6_takeAllButShut_10 : decode cX6_takeAllButShut 10 = .ok (.getfield 9, 3) := by decide +kernel
theorem dX6_takeAllButShut_13 : decode cX6_takeAllButShut 13 = .ok (.aload_n 1, 1) := by decide +kernel
theorem dX6_takeAllButShut_14 : decode cX6_takeAllButShut 14 = .ok (.getfield 15, 3) := by decide +kernel
theorem dX6_takeAllButShut_17 : decode cX6_takeAllButShut 17 = .ok (.invokevirtual 48, 3) := by decide +kernel
theorem dX6_takeAllButShut_20 : decode cX6_takeAllButShut 20 = .ok (.iconst 0, 1) := by decide +kernel
theorem dX6_takeAllButShut_21 : decode cX6_takeAllButShut 21 = .ok (.istore_n 2, 1) := by decide +kernel
theorem dX6_takeAllButShut_22 : decode cX6_takeAllButShut 22 = .ok (.iload_n 2, 1) := by decide +kernel
theorem dX6_takeAllButShut_23 : decode cX6_takeAllButShut 23 = .ok (.bipush 6, 2) := by decide +kernel
theorem dX6_takeAllButShut_25 : decode cX6_takeAllButShut 25 = .ok (.if_icmp .ge 63, 3) := by decide +kernel
theorem dX6_takeAllButShut_28 : decode cX6_takeAllButShut 28 = .ok (.aload_n 0, 1) := by decide +kernel
theorem dX6_takeAllButShut_29 : decode cX6_takeAllButShut 29 = .ok (.getfield 18, 3) := by decide +kernel
theorem dX6_takeAllButShut_32 : decode cX6_takeAllButShut 32 = .ok (.iload_n 2, 1) := by decide +kernel
theorem dX6_takeAllButShut_33 : decode cX6_takeAllButShut 33 = .ok (.aload_n 1, 1) := by decide +kernel
theorem dX6_takeAllButShut_34 : decode cX6_takeAllButShut 34 = .ok (.getfield 18, 3) := by decide +kernel
theorem dX6_takeAllButShut_37 : decode cX6_takeAllButShut 37 = .ok (.iload_n 2, 1) := by decide +kernel
theorem dX6_takeAllButShut_38 : decode cX6_takeAllButShut 38 = .ok (.iaload, 1) := by decide +kernel
theorem dX6_takeAllButShut_39 : decode cX6_takeAllButShut 39 = .ok (.iastore, 1) := by decide +kernel
theorem dX6_takeAllButShut_40 : decode cX6_takeAllButShut 40 = .ok (.aload_n 0, 1) := by decide +kernel
theorem dX6_takeAllButShut_41 : decode cX6_takeAllButShut 41 = .ok (.getfield 21, 3) := by decide +kernel
theorem dX6_takeAllButShut_44 : decode cX6_takeAllButShut 44 = .ok (.iload_n 2, 1) := by decide +kernel
theorem dX6_takeAllButShut_45 : decode cX6_takeAllButShut 45 = .ok (.aload_n 1, 1) := by decide +kernel
theorem dX6_takeAllButShut_46 : decode cX6_takeAllButShut 46 = .ok (.getfield 21, 3) := by decide +kernel
theorem dX6_takeAllButShut_49 : decode cX6_takeAllButShut 49 = .ok (.iload_n 2, 1) := by decide +kernel
theorem dX6_takeAllButShut_50 : decode cX6_takeAllButShut 50 = .ok (.iaload, 1) := by decide +kernel
theorem dX6_takeAllButShut_51 : decode cX6_takeAllButShut 51 = .ok (.iastore, 1) := by decide +kernel
theorem dX6_takeAllButShut_52 : decode cX6_takeAllButShut 52 = .ok (.iconst 0, 1) := by decide +kernel
theorem dX6_takeAllButShut_53 : decode cX6_takeAllButShut 53 = .ok (.istore_n 3, 1) := by decide +kernel
theorem dX6_takeAllButShut_54 : decode cX6_takeAllButShut 54 = .ok (.iload_n 3, 1) := by decide +kernel
theorem dX6_takeAllButShut_55 : decode cX6_takeAllButShut 55 = .ok (.bipush 8, 2) := by decide +kernel
theorem dX6_takeAllButShut_57 : decode cX6_takeAllButShut 57 = .ok (.if_icmp .ge 25, 3) := by decide +kernel
theorem dX6_takeAllButShut_60 : decode cX6_takeAllButShut 60 = .ok (.aload_n 0, 1) := by decide +kernel
theorem dX6_takeAllButShut_61 : decode cX6_takeAllButShut 61 = .ok (.getfield 26, 3) := by decide +kernel
theorem dX6_takeAllButShut_64 : decode cX6_takeAllButShut 64 = .ok (.iload_n 2, 1) := by decide +kernel
theorem dX6_takeAllButShut_65 : decode cX6_takeAllButShut 65 = .ok (.aaload, 1) := by decide +kernel
theorem dX6_takeAllButShut_66 : decode cX6_takeAllButShut 66 = .ok (.iload_n 3, 1) := by decide +kernel
theorem dX6_takeAllButShut_67 : decode cX6_takeAllButShut 67 = .ok (.aload_n 1, 1) := by decide +kernel
theorem dX6_takeAllButShut_68 : decode cX6_takeAllButShut 68 = .ok (.getfield 26, 3) := by decide +kernel
theorem dX6_takeAllButShut_71 : decode cX6_takeAllButShut 71 = .ok (.iload_n 2, 1) := by decide +kernel
theorem dX6_takeAllButShut_72 : decode cX6_takeAllButShut 72 = .ok (.aaload, 1) := by decide +kernel
theorem dX6_takeAllButShut_73 : decode cX6_takeAllButShut 73 = .ok (.iload_n 3, 1) := by decide +kernel
theorem dX6_takeAllButShut_74 : decode cX6_takeAllButShut 74 = .ok (.iaload, 1) := by decide +kernel
theorem dX6_takeAllButShut_75 : decode cX6_takeAllButShut 75 = .ok (.iastore, 1) := by decide +kernel
theorem dX6_takeAllButShut_76 : decode cX6_takeAllButShut 76 = .ok (.iinc 3 1, 3) := by decide +kernel
theorem dX6_takeAllButShut_79 : decode cX6_takeAllButShut 79 = .ok (.goto (-25), 3) := by decide +kernel
theorem dX6_takeAllButShut_82 : decode cX6_takeAllButShut 82 = .ok (.iinc 2 1, 3) := by decide +kernel
theorem dX6_takeAllButShut_85 : decode cX6_takeAllButShut 85 = .ok (.goto (-63), 3) := by decide +kernel
theorem dX6_takeAllButShut_88 : decode cX6_takeAllButShut 88 = .ok (.return_, 1) := by decide +kernel
theorem dX6_takeAll_0 : decode cX6_takeAll 0 = .ok (.aload_n 0, 1) := by decide +kernel
theorem dX6_takeAll_1 : decode cX6_takeAll 1 = .ok (.aload_n 1, 1) := by decide +kernel
theorem dX6_takeAll_2 : decode cX6_takeAll 2 = .ok (.invokevirtual 52, 3) := by decide +kernel
theorem dX6_takeAll_5 : decode cX6_takeAll 5 = .ok (.iconst 0, 1) := by decide +kernel
theorem dX6_takeAll_6 : decode cX6_takeAll 6 = .ok (.istore_n 2, 1) := by decide +kernel
theorem dX6_takeAll_7 : decode cX6_takeAll 7 = .ok (.iload_n 2, 1) := by decide +kernel
theorem dX6_takeAll_8 : decode cX6_takeAll 8 = .ok (.bipush 10, 2) := by decide +kernel
theorem dX6_takeAll_10 : decode cX6_takeAll 10 = .ok (.if_icmp .ge 21, 3) := by decide +kernel
theorem dX6_takeAll_13 : decode cX6_takeAll 13 = .ok (.aload_n 0, 1) := by decide +kernel
theorem dX6_takeAll_14 : decode cX6_takeAll 14 = .ok (.getfield 29, 3) := by decide +kernel
theorem dX6_takeAll_17 : decode cX6_takeAll 17 = .ok (.iload_n 2, 1) := by decide +kernel
theorem dX6_takeAll_18 : decode cX6_takeAll 18 = .ok (.aload_n 1, 1) := by decide +kernel
theorem dX6_takeAll_19 : decode cX6_takeAll 19 = .ok (.getfield 29, 3) := by decide +kernel
theorem dX6_takeAll_22 : decode cX6_takeAll 22 = .ok (.iload_n 2, 1) := by decide +kernel
theorem dX6_takeAll_23 : decode cX6_takeAll 23 = .ok (.baload, 1) := by decide +kernel
theorem dX6_takeAll_24 : decode cX6_takeAll 24 = .ok (.bastore, 1) := by decide +kernel
theorem dX6_takeAll_25 : decode cX6_takeAll 25 = .ok (.iinc 2 1, 3) := by decide +kernel
theorem dX6_takeAll_28 : decode cX6_takeAll 28 = .ok (.goto (-21), 3) := by decide +kernel
theorem dX6_takeAll_31 : decode cX6_takeAll 31 = .ok (.return_, 1) := by decide +kernel
theorem dX6_passSpring_0 : decode cX6_passSpring 0 = .ok (.aload_n 0, 1) := by decide +kernel
theorem dX6_passSpring_1 : decode cX6_passSpring 1 = .ok (.dup, 1) := by decide +kernel
theorem dX6_passSpring_2 : decode cX6_passSpring 2 = .ok (.getfield 33, 3) := by decide +kernel
theorem dX6_passSpring_5 : decode cX6_passSpring 5 = .ok (.iconst 1, 1) := by decide +kernel
theorem dX6_passSpring_6 : decode cX6_passSpring 6 = .ok (.iadd, 1) := by decide +kernel
theorem dX6_passSpring_7 : decode cX6_passSpring 7 = .ok (.putfield 33, 3) := by decide +kernel
theorem dX6_passSpring_10 : decode cX6_passSpring 10 = .ok (.iconst 0, 1) := by decide +kernel
theorem dX6_passSpring_11 : decode cX6_passSpring 11 = .ok (.istore_n 2, 1) := by decide +kernel
theorem dX6_passSpring_12 : decode cX6_passSpring 12 = .ok (.iconst 0, 1) := by decide +kernel
theorem dX6_passSpring_13 : decode cX6_passSpring 13 = .ok (.istore_n 3, 1) := by decide +kernel
theorem dX6_passSpring_14 : decode cX6_passSpring 14 = .ok (.iload_n 3, 1) := by decide +kernel
theorem dX6_passSpring_15 : decode cX6_passSpring 15 = .ok (.iload_n 1, 1) := by decide +kernel
theorem dX6_passSpring_16 : decode cX6_passSpring 16 = .ok (.if_icmp .ge 38, 3) := by decide +kernel
theorem dX6_passSpring_19 : decode cX6_passSpring 19 = .ok (.aload_n 0, 1) := by decide +kernel
theorem dX6_passSpring_20 : decode cX6_passSpring 20 = .ok (.getfield 18, 3) := by decide +kernel
theorem dX6_passSpring_23 : decode cX6_passSpring 23 = .ok (.iload_n 3, 1) := by decide +kernel
theorem dX6_passSpring_24 : decode cX6_passSpring 24 = .ok (.iaload, 1) := by decide +kernel
theorem dX6_passSpring_25 : decode cX6_passSpring 25 = .ok (.aload_n 0, 1) := by decide +kernel
theorem dX6_passSpring_26 : decode cX6_passSpring 26 = .ok (.getfield 9, 3) := by decide +kernel
theorem dX6_passSpring_29 : decode cX6_passSpring 29 = .ok (.iload_n 3, 1) := by decide +kernel
theorem dX6_passSpring_30 : decode cX6_passSpring 30 = .ok (.iaload, 1) := by decide +kernel
theorem dX6_passSpring_31 : decode cX6_passSpring 31 = .ok (.if_icmp .eq 17, 3) := by decide +kernel
theorem dX6_passSpring_34 : decode cX6_passSpring 34 = .ok (.aload_n 0, 1) := by decide +kernel
theorem dX6_passSpring_35 : decode cX6_passSpring 35 = .ok (.iload_n 3, 1) := by decide +kernel
theorem dX6_passSpring_36 : decode cX6_passSpring 36 = .ok (.aload_n 0, 1) := by decide +kernel
theorem dX6_passSpring_37 : decode cX6_passSpring 37 = .ok (.getfield 9, 3) := by decide +kernel
theorem dX6_passSpring_40 : decode cX6_passSpring 40 = .ok (.iload_n 3, 1) := by decide +kernel
theorem dX6_passSpring_41 : decode cX6_passSpring 41 = .ok (.iaload, 1) := by decide +kernel
theorem dX6_passSpring_42 : decode cX6_passSpring 42 = .ok (.invokevirtual 56, 3) := by decide +kernel
theorem dX6_passSpring_45 : decode cX6_passSpring 45 = .ok (.iinc 2 1, 3) := by decide +kernel
theorem dX6_passSpring_48 : decode cX6_passSpring 48 = .ok (.iinc 3 1, 3) := by decide +kernel
theorem dX6_passSpring_51 : decode cX6_passSpring 51 = .ok (.goto (-37), 3) := by decide +kernel
theorem dX6_passSpring_54 : decode cX6_passSpring 54 = .ok (.iload_n 2, 1) := by decide +kernel
theorem dX6_passSpring_55 : decode cX6_passSpring 55 = .ok (.ireturn, 1) := by decide +kernel
theorem dX6_addOwner_0 : decode cX6_addOwner 0 = .ok (.aload_n 0, 1) := by decide +kernel
theorem dX6_addOwner_1 : decode cX6_addOwner 1 = .ok (.getfield 18, 3) := by decide +kernel
theorem dX6_addOwner_4 : decode cX6_addOwner 4 = .ok (.iload_n 1, 1) := by decide +kernel
theorem dX6_addOwner_5 : decode cX6_addOwner 5 = .ok (.iload_n 2, 1) := by decide +kernel
theorem dX6_addOwner_6 : decode cX6_addOwner 6 = .ok (.iastore, 1) := by decide +kernel
theorem dX6_addOwner_7 : decode cX6_addOwner 7 = .ok (.aload_n 0, 1) := by decide +kernel
theorem dX6_addOwner_8 : decode cX6_addOwner 8 = .ok (.getfield 21, 3) := by decide +kernel
theorem dX6_addOwner_11 : decode cX6_addOwner 11 = .ok (.iload_n 1, 1) := by decide +kernel
theorem dX6_addOwner_12 : decode cX6_addOwner 12 = .ok (.iaload, 1) := by decide +kernel
theorem dX6_addOwner_13 : decode cX6_addOwner 13 = .ok (.istore_n 3, 1) := by decide +kernel
theorem dX6_addOwner_14 : decode cX6_addOwner 14 = .ok (.iload_n 3, 1) := by decide +kernel
theorem dX6_addOwner_15 : decode cX6_addOwner 15 = .ok (.bipush 8, 2) := by decide +kernel
theorem dX6_addOwner_17 : decode cX6_addOwner 17 = .ok (.if_icmp .ge 21, 3) := by decide +kernel
theorem dX6_addOwner_20 : decode cX6_addOwner 20 = .ok (.aload_n 0, 1) := by decide +kernel
theorem dX6_addOwner_21 : decode cX6_addOwner 21 = .ok (.getfield 26, 3) := by decide +kernel
theorem dX6_addOwner_24 : decode cX6_addOwner 24 = .ok (.iload_n 1, 1) := by decide +kernel
theorem dX6_addOwner_25 : decode cX6_addOwner 25 = .ok (.aaload, 1) := by decide +kernel
theorem dX6_addOwner_26 : decode cX6_addOwner 26 = .ok (.iload_n 3, 1) := by decide +kernel
theorem dX6_addOwner_27 : decode cX6_addOwner 27 = .ok (.iload_n 2, 1) := by decide +kernel
theorem dX6_addOwner_28 : decode cX6_addOwner 28 = .ok (.iastore, 1) := by decide +kernel
theorem dX6_addOwner_29 : decode cX6_addOwner 29 = .ok (.aload_n 0, 1) := by decide +kernel
theorem dX6_addOwner_30 : decode cX6_addOwner 30 = .ok (.getfield 21, 3) := by decide +kernel
theorem dX6_addOwner_33 : decode cX6_addOwner 33 = .ok (.iload_n 1, 1) := by decide +kernel
theorem dX6_addOwner_34 : decode cX6_addOwner 34 = .ok (.iload_n 3, 1) := by decide +kernel
theorem dX6_addOwner_35 : decode cX6_addOwner 35 = .ok (.iconst 1, 1) := by decide +kernel
theorem dX6_addOwner_36 : decode cX6_addOwner 36 = .ok (.iadd, 1) := by decide +kernel
theorem dX6_addOwner_37 : decode cX6_addOwner 37 = .ok (.iastore, 1) := by decide +kernel
theorem dX6_addOwner_38 : decode cX6_addOwner 38 = .ok (.return_, 1) := by decide +kernel
theorem dX6_countNotAtHome_0 : decode cX6_countNotAtHome 0 = .ok (.aload_n 0, 1) := by decide +kernel
theorem dX6_countNotAtHome_1 : decode cX6_countNotAtHome 1 = .ok (.getfield 9, 3) := by decide +kernel
theorem dX6_countNotAtHome_4 : decode cX6_countNotAtHome 4 = .ok (.aload_n 1, 1) := by decide +kernel
theorem dX6_countNotAtHome_5 : decode cX6_countNotAtHome 5 = .ok (.getfield 42, 3) := by decide +kernel
theorem dX6_countNotAtHome_8 : decode cX6_countNotAtHome 8 = .ok (.aload_n 1, 1) := by decide +kernel
theorem dX6_countNotAtHome_9 : decode cX6_countNotAtHome 9 = .ok (.getfield 37, 3) := by decide +kernel
theorem dX6_countNotAtHome_12 : decode cX6_countNotAtHome 12 = .ok (.invokestatic 60, 3) := by decide +kernel
theorem dX6_countNotAtHome_15 : decode cX6_countNotAtHome 15 = .ok (.ireturn, 1) := by decide +kernel
theorem dX6_countNotOwnedByHome_0 : decode cX6_countNotOwnedByHome 0 = .ok (.aload_n 0, 1) := by decide +kernel
theorem dX6_countNotOwnedByHome_1 : decode cX6_countNotOwnedByHome 1 = .ok (.getfield 18, 3) := by decide +kernel
theorem dX6_countNotOwnedByHome_4 : decode cX6_countNotOwnedByHome 4 = .ok (.aload_n 1, 1) := by decide +kernel
theorem dX6_countNotOwnedByHome_5 : decode cX6_countNotOwnedByHome 5 = .ok (.getfield 42, 3) := by decide +kernel
theorem dX6_countNotOwnedByHome_8 : decode cX6_countNotOwnedByHome 8 = .ok (.aload_n 1, 1) := by decide +kernel
theorem dX6_countNotOwnedByHome_9 : decode cX6_countNotOwnedByHome 9 = .ok (.getfield 37, 3) := by decide +kernel
theorem dX6_countNotOwnedByHome_12 : decode cX6_countNotOwnedByHome 12 = .ok (.invokestatic 60, 3) := by decide +kernel
theorem dX6_countNotOwnedByHome_15 : decode cX6_countNotOwnedByHome 15 = .ok (.ireturn, 1) := by decide +kernel
theorem dX6_countUnlike_0 : decode cX6_countUnlike 0 = .ok (.iconst 0, 1) := by decide +kernel
theorem dX6_countUnlike_1 : decode cX6_countUnlike 1 = .ok (.istore_n 3, 1) := by decide +kernel
theorem dX6_countUnlike_2 : decode cX6_countUnlike 2 = .ok (.iconst 0, 1) := by decide +kernel
theorem dX6_countUnlike_3 : decode cX6_countUnlike 3 = .ok (.istore 4, 2) := by decide +kernel
theorem dX6_countUnlike_5 : decode cX6_countUnlike 5 = .ok (.iload 4, 2) := by decide +kernel
theorem dX6_countUnlike_7 : decode cX6_countUnlike 7 = .ok (.iload_n 2, 1) := by decide +kernel
theorem dX6_countUnlike_8 : decode cX6_countUnlike 8 = .ok (.if_icmp .ge 23, 3) := by decide +kernel
theorem dX6_countUnlike_11 : decode cX6_countUnlike 11 = .ok (.aload_n 0, 1) := by decide +kernel
theorem dX6_countUnlike_12 : decode cX6_countUnlike 12 = .ok (.iload 4, 2) := by decide +kernel
theorem dX6_countUnlike_14 : decode cX6_countUnlike 14 = .ok (.iaload, 1) := by decide +kernel
theorem dX6_countUnlike_15 : decode cX6_countUnlike 15 = .ok (.aload_n 1, 1) := by decide +kernel
theorem dX6_countUnlike_16 : decode cX6_countUnlike 16 = .ok (.iload 4, 2) := by decide +kernel
theorem dX6_countUnlike_18 : decode cX6_countUnlike 18 = .ok (.iaload, 1) := by decide +kernel
theorem dX6_countUnlike_19 : decode cX6_countUnlike 19 = .ok (.if_icmp .eq 6, 3) := by decide +kernel
theorem dX6_countUnlike_22 : decode cX6_countUnlike 22 = .ok (.iinc 3 1, 3) := by decide +kernel
theorem dX6_countUnlike_25 : decode cX6_countUnlike 25 = .ok (.iinc 4 1, 3) := by decide +kernel
theorem dX6_countUnlike_28 : decode cX6_countUnlike 28 = .ok (.goto (-23), 3) := by decide +kernel
theorem dX6_countUnlike_31 : decode cX6_countUnlike 31 = .ok (.iload_n 3, 1) := by decide +kernel
theorem dX6_countUnlike_32 : decode cX6_countUnlike 32 = .ok (.ireturn, 1) := by decide +kernel
theorem dX7_init_0 : decode cX7_init 0 = .ok (.aload_n 0, 1) := by decide +kernel
theorem dX7_init_1 : decode cX7_init 1 = .ok (.invokespecial 3, 3) := by decide +kernel
theorem dX7_init_4 : decode cX7_init 4 = .ok (.aload_n 0, 1) := by decide +kernel
theorem dX7_init_5 : decode cX7_init 5 = .ok (.bipush 6, 2) := by decide +kernel
theorem dX7_init_7 : decode cX7_init 7 = .ok (.newarray .int, 2) := by decide +kernel
theorem dX7_init_9 : decode cX7_init 9 = .ok (.putfield 9, 3) := by decide +kernel
theorem dX7_init_12 : decode cX7_init 12 = .ok (.aload_n 0, 1) := by decide +kernel
theorem dX7_init_13 : decode cX7_init 13 = .ok (.bipush 6, 2) := by decide +kernel
theorem dX7_init_15 : decode cX7_init 15 = .ok (.newarray .int, 2) := by decide +kernel
theorem dX7_init_17 : decode cX7_init 17 = .ok (.putfield 15, 3) := by decide +kernel
theorem dX7_init_20 : decode cX7_init 20 = .ok (.aload_n 0, 1) := by decide +kernel
theorem dX7_init_21 : decode cX7_init 21 = .ok (.bipush 6, 2) := by decide +kernel
theorem dX7_init_23 : decode cX7_init 23 = .ok (.newarray .int, 2) := by decide +kernel
theorem dX7_init_25 : decode cX7_init 25 = .ok (.putfield 18, 3) := by decide +kernel
theorem dX7_init_28 : decode cX7_init 28 = .ok (.aload_n 0, 1) := by decide +kernel
theorem dX7_init_29 : decode cX7_init 29 = .ok (.bipush 6, 2) := by decide +kernel
theorem dX7_init_31 : decode cX7_init 31 = .ok (.newarray .int, 2) := by decide +kernel
theorem dX7_init_33 : decode cX7_init 33 = .ok (.putfield 21, 3) := by decide +kernel
theorem dX7_init_36 : decode cX7_init 36 = .ok (.return_, 1) := by decide +kernel
theorem dX7_begin_0 : decode cX7_begin 0 = .ok (.iconst 0, 1) := by decide +kernel
theorem dX7_begin_1 : decode cX7_begin 1 = .ok (.istore 4, 2) := by decide +kernel
theorem dX7_begin_3 : decode cX7_begin 3 = .ok (.iload 4, 2) := by decide +kernel
theorem dX7_begin_5 : decode cX7_begin 5 = .ok (.aload_n 1, 1) := by decide +kernel
theorem dX7_begin_6 : decode cX7_begin 6 = .ok (.getfield 24, 3) := by decide +kernel
theorem dX7_begin_9 : decode cX7_begin 9 = .ok (.if_icmp .ge 37, 3) := by decide +kernel
theorem dX7_begin_12 : decode cX7_begin 12 = .ok (.aload_n 0, 1) := by decide +kernel
theorem dX7_begin_13 : decode cX7_begin 13 = .ok (.getfield 9, 3) := by decide +kernel
theorem dX7_begin_16 : decode cX7_begin 16 = .ok (.iload 4, 2) := by decide +kernel
theorem dX7_begin_18 : decode cX7_begin 18 = .ok (.aload_n 2, 1) := by decide +kernel
theorem dX7_begin_19 : decode cX7_begin 19 = .ok (.getfield 30, 3) := by decide +kernel
theorem dX7_begin_22 : decode cX7_begin 22 = .ok (.iload 4, 2) := by decide +kernel
theorem dX7_begin_24 : decode cX7_begin 24 = .ok (.iaload, 1) := by decide +kernel
theorem dX7_begin_25 : decode cX7_begin 25 = .ok (.iastore, 1) := by decide +kernel
theorem dX7_begin_26 : decode cX7_begin 26 = .ok (.aload_n 0, 1) := by decide +kernel
theorem dX7_begin_27 : decode cX7_begin 27 = .ok (.getfield 15, 3) := by decide +kernel
theorem dX7_begin_30 : decode cX7_begin 30 = .ok (.iload 4, 2) := by decide +kernel
theorem dX7_begin_32 : decode cX7_begin 32 = .ok (.aload_n 2, 1) := by decide +kernel
theorem dX7_begin_33 : decode cX7_begin 33 = .ok (.getfield 33, 3) := by decide +kernel
theorem dX7_begin_36 : decode cX7_begin 36 = .ok (.iload 4, 2) := by decide +kernel
theorem dX7_begin_38 : decode cX7_begin 38 = .ok (.iaload, 1) := by decide +kernel
theorem dX7_begin_39 : decode cX7_begin 39 = .ok (.iastore, 1) := by decide +kernel
theorem dX7_begin_40 : decode cX7_begin 40 = .ok (.iinc 4 1, 3) := by decide +kernel
theorem dX7_begin_43 : decode cX7_begin 43 = .ok (.goto (-40), 3) := by decide +kernel
theorem dX7_begin_46 : decode cX7_begin 46 = .ok (.iconst 0, 1) := by decide +kernel
theorem dX7_begin_47 : decode cX7_begin 47 = .ok (.istore 4, 2) := by decide +kernel
theorem dX7_begin_49 : decode cX7_begin 49 = .ok (.iload 4, 2) := by decide +kernel
theorem dX7_begin_51 : decode cX7_begin 51 = .ok (.aload_n 1, 1) := by decide +kernel
theorem dX7_begin_52 : decode cX7_begin 52 = .ok (.getfield 34, 3) := by decide +kernel
theorem dX7_begin_55 : decode cX7_begin 55 = .ok (.if_icmp .ge 18, 3) := by decide +kernel
theorem dX7_begin_58 : decode cX7_begin 58 = .ok (.aload_n 0, 1) := by decide +kernel
theorem dX7_begin_59 : decode cX7_begin 59 = .ok (.getfield 18, 3) := by decide +kernel
theorem dX7_begin_62 : decode cX7_begin 62 = .ok (.iload 4, 2) := by decide +kernel
theorem dX7_begin_64 : decode cX7_begin 64 = .ok (.bipush (-9), 2) := by decide +kernel
theorem dX7_begin_66 : decode cX7_begin 66 = .ok (.iastore, 1) := by decide +kernel
theorem dX7_begin_67 : decode cX7_begin 67 = .ok (.iinc 4 1, 3) := by decide +kernel
theorem dX7_begin_70 : decode cX7_begin 70 = .ok (.goto (-21), 3) := by decide +kernel
theorem dX7_begin_73 : decode cX7_begin 73 = .ok (.iconst 0, 1) := by decide +kernel
theorem dX7_begin_74 : decode cX7_begin 74 = .ok (.istore 4, 2) := by decide +kernel
theorem dX7_begin_76 : decode cX7_begin 76 = .ok (.iload 4, 2) := by decide +kernel
theorem dX7_begin_78 : decode cX7_begin 78 = .ok (.aload_n 1, 1) := by decide +kernel
theorem dX7_begin_79 : decode cX7_begin 79 = .ok (.getfield 37, 3) := by decide +kernel
theorem dX7_begin_82 : decode cX7_begin 82 = .ok (.if_icmp .ge 32, 3) := by decide +kernel
theorem dX7_begin_85 : decode cX7_begin 85 = .ok (.iload 4, 2) := by decide +kernel
theorem dX7_begin_87 : decode cX7_begin 87 = .ok (.iload_n 3, 1) := by decide +kernel
theorem dX7_begin_88 : decode cX7_begin 88 = .ok (.if_icmp .eq 20, 3) := by decide +kernel
theorem dX7_begin_91 : decode cX7_begin 91 = .ok (.aload_n 2, 1) := by decide +kernel
theorem dX7_begin_92 : decode cX7_begin 92 = .ok (.getfield 40, 3) := by decide +kernel
theorem dX7_begin_95 : decode cX7_begin 95 = .ok (.iload 4, 2) := by decide +kernel
theorem dX7_begin_97 : decode cX7_begin 97 = .ok (.baload, 1) := by decide +kernel
theorem dX7_begin_98 : decode cX7_begin 98 = .ok (.ifCond .ne 10, 3) := by decide +kernel
theorem dX7_begin_101 : decode cX7_begin 101 = .ok (.aload_n 0, 1) := by decide +kernel
theorem dX7_begin_102 : decode cX7_begin 102 = .ok (.aload_n 1, 1) := by decide +kernel
theorem dX7_begin_103 : decode cX7_begin 103 = .ok (.iload 4, 2) := by decide +kernel
theorem dX7_begin_105 : decode cX7_begin 105 = .ok (.invokevirtual 44, 3) := by decide +kernel
theorem dX7_begin_108 : decode cX7_begin 108 = .ok (.iinc 4 1, 3) := by decide +kernel
theorem dX7_begin_111 : decode cX7_begin 111 = .ok (.goto (-35), 3) := by decide +kernel
theorem dX7_begin_114 : decode cX7_begin 114 = .ok (.return_, 1) := by decide +kernel
theorem dX7_weigh_0 : decode cX7_weigh 0 = .ok (.aload_n 1, 1) := by decide +kernel
theorem dX7_weigh_1 : decode cX7_weigh 1 = .ok (.getfield 48, 3) := by decide +kernel
theorem dX7_weigh_4 : decode cX7_weigh 4 = .ok (.iload_n 2, 1) := by decide +kernel
theorem dX7_weigh_5 : decode cX7_weigh 5 = .ok (.iaload, 1) := by decide +kernel
theorem dX7_weigh_6 : decode cX7_weigh 6 = .ok (.istore_n 3, 1) := by decide +kernel
theorem dX7_weigh_7 : decode cX7_weigh 7 = .ok (.aload_n 0, 1) := by decide +kernel
theorem dX7_weigh_8 : decode cX7_weigh 8 = .ok (.getfield 18, 3) := by decide +kernel
theorem dX7_weigh_11 : decode cX7_weigh 11 = .ok (.iload_n 3, 1) := by decide +kernel
theorem dX7_weigh_12 : decode cX7_weigh 12 = .ok (.iaload, 1) := by decide +kernel
theorem dX7_weigh_13 : decode cX7_weigh 13 = .ok (.istore 4, 2) := by decide +kernel
theorem dX7_weigh_15 : decode cX7_weigh 15 = .ok (.iload 4, 2) := by decide +kernel
theorem dX7_weigh_17 : decode cX7_weigh 17 = .ok (.bipush (-9), 2) := by decide +kernel
theorem dX7_weigh_19 : decode cX7_weigh 19 = .ok (.if_icmp .eq 19, 3) := by decide +kernel
theorem dX7_weigh_22 : decode cX7_weigh 22 = .ok (.aload_n 1, 1) := by decide +kernel
theorem dX7_weigh_23 : decode cX7_weigh 23 = .ok (.getfield 51, 3) := by decide +kernel
theorem dX7_weigh_26 : decode cX7_weigh 26 = .ok (.iload 4, 2) := by decide +kernel
theorem dX7_weigh_28 : decode cX7_weigh 28 = .ok (.iaload, 1) := by decide +kernel
theorem dX7_weigh_29 : decode cX7_weigh 29 = .ok (.aload_n 1, 1) := by decide +kernel
theorem dX7_weigh_30 : decode cX7_weigh 30 = .ok (.getfield 51, 3) := by decide +kernel
theorem dX7_weigh_33 : decode cX7_weigh 33 = .ok (.iload_n 2, 1) := by decide +kernel
theorem dX7_weigh_34 : decode cX7_weigh 34 = .ok (.iaload, 1) := by decide +kernel
theorem dX7_weigh_35 : decode cX7_weigh 35 = .ok (.if_icmp .ge 10, 3) := by decide +kernel
theorem dX7_weigh_38 : decode cX7_weigh 38 = .ok (.aload_n 0, 1) := by decide +kernel
theorem dX7_weigh_39 : decode cX7_weigh 39 = .ok (.getfield 18, 3) := by decide +kernel
theorem dX7_weigh_42 : decode cX7_weigh 42 = .ok (.iload_n 3, 1) := by decide +kernel
theorem dX7_weigh_43 : decode cX7_weigh 43 = .ok (.iload_n 2, 1) := by decide +kernel
theorem dX7_weigh_44 : decode cX7_weigh 44 = .ok (.iastore, 1) := by decide +kernel
theorem dX7_weigh_45 : decode cX7_weigh 45 = .ok (.return_, 1) := by decide +kernel
theorem dX7_passHours_0 : decode cX7_passHours 0 = .ok (.iconst 0, 1) := by decide +kernel
theorem dX7_passHours_1 : decode cX7_passHours 1 = .ok (.istore 4, 2) := by decide +kernel
theorem dX7_passHours_3 : decode cX7_passHours 3 = .ok (.iload 4, 2) := by decide +kernel
theorem dX7_passHours_5 : decode cX7_passHours 5 = .ok (.iload_n 3, 1) := by decide +kernel
theorem dX7_passHours_6 : decode cX7_passHours 6 = .ok (.if_icmp .ge 23, 3) := by decide +kernel
theorem dX7_passHours_9 : decode cX7_passHours 9 = .ok (.aload_n 0, 1) := by decide +kernel
theorem dX7_passHours_10 : decode cX7_passHours 10 = .ok (.aload_n 1, 1) := by decide +kernel
theorem dX7_passHours_11 : decode cX7_passHours 11 = .ok (.iload_n 2, 1) := by decide +kernel
theorem dX7_passHours_12 : decode cX7_passHours 12 = .ok (.invokevirtual 54, 3) := by decide +kernel
theorem dX7_passHours_15 : decode cX7_passHours 15 = .ok (.aload_n 0, 1) := by decide +kernel
theorem dX7_passHours_16 : decode cX7_passHours 16 = .ok (.getfield 57, 3) := by decide +kernel
theorem dX7_passHours_19 : decode cX7_passHours 19 = .ok (.ifCond .ne 4, 3) := by decide +kernel
theorem dX7_passHours_22 : decode cX7_passHours 22 = .ok (.return_, 1) := by decide +kernel
theorem dX7_passHours_23 : decode cX7_passHours 23 = .ok (.iinc 4 1, 3) := by decide +kernel
theorem dX7_passHours_26 : decode cX7_passHours 26 = .ok (.goto (-23), 3) := by decide +kernel
theorem dX7_passHours_29 : decode cX7_passHours 29 = .ok (.return_, 1) := by decide +kernel
theorem dX7_passHour_0 : decode cX7_passHour 0 = .ok (.aload_n 0, 1) := by decide +kernel
theorem dX7_passHour_1 : decode cX7_passHour 1 = .ok (.iconst 0, 1) := by decide +kernel
theorem dX7_passHour_2 : decode cX7_passHour 2 = .ok (.putfield 57, 3) := by decide +kernel
theorem dX7_passHour_5 : decode cX7_passHour 5 = .ok (.aload_n 0, 1) := by decide +kernel
theorem dX7_passHour_6 : decode cX7_passHour 6 = .ok (.iconst 0, 1) := by decide +kernel
theorem dX7_passHour_7 : decode cX7_passHour 7 = .ok (.putfield 60, 3) := by decide +kernel
theorem dX7_passHour_10 : decode cX7_passHour 10 = .ok (.iconst 0, 1) := by decide +kernel
theorem dX7_passHour_11 : decode cX7_passHour 11 = .ok (.istore_n 3, 1) := by decide +kernel
theorem dX7_passHour_12 : decode cX7_passHour 12 = .ok (.iload_n 3, 1) := by decide +kernel
theorem dX7_passHour_13 : decode cX7_passHour 13 = .ok (.aload_n 1, 1) := by decide +kernel
theorem dX7_passHour_14 : decode cX7_passHour 14 = .ok (.getfield 34, 3) := by decide +kernel
theorem dX7_passHour_17 : decode cX7_passHour 17 = .ok (.if_icmp .ge 16, 3) := by decide +kernel
theorem dX7_passHour_20 : decode cX7_passHour 20 = .ok (.aload_n 0, 1) := by decide +kernel
theorem dX7_passHour_21 : decode cX7_passHour 21 = .ok (.getfield 21, 3) := by decide +kernel
theorem dX7_passHour_24 : decode cX7_passHour 24 = .ok (.iload_n 3, 1) := by decide +kernel
theorem dX7_passHour_25 : decode cX7_passHour 25 = .ok (.iconst 0, 1) := by decide +kernel
theorem dX7_passHour_26 : decode cX7_passHour 26 = .ok (.iastore, 1) := by decide +kernel
theorem dX7_passHour_27 : decode cX7_passHour 27 = .ok (.iinc 3 1, 3) := by decide +kernel
theorem dX7_passHour_30 : decode cX7_passHour 30 = .ok (.goto (-18), 3) := by decide +kernel
theorem dX7_passHour_33 : decode cX7_passHour 33 = .ok (.iconst 0, 1) := by decide +kernel
theorem dX7_passHour_34 : decode cX7_passHour 34 = .ok (.istore_n 3, 1) := by decide +kernel
theorem dX7_passHour_35 : decode cX7_passHour 35 = .ok (.iload_n 3, 1) := by decide +kernel
theorem dX7_passHour_36 : decode cX7_passHour 36 = .ok (.aload_n 1, 1) := by decide +kernel
theorem dX7_passHour_37 : decode cX7_passHour 37 = .ok (.getfield 24, 3) := by decide +kernel
theorem dX7_passHour_40 : decode cX7_passHour 40 = .ok (.if_icmp .ge 66, 3) := by decide +kernel
theorem dX7_passHour_43 : decode cX7_passHour 43 = .ok (.aload_n 0, 1) := by decide +kernel
theorem dX7_passHour_44 : decode cX7_passHour 44 = .ok (.getfield 9, 3) := by decide +kernel
theorem dX7_passHour_47 : decode cX7_passHour 47 = .ok (.iload_n 3, 1) := by decide +kernel
theorem dX7_passHour_48 : decode cX7_passHour 48 = .ok (.iaload, 1) := by decide +kernel
theorem dX7_passHour_49 : decode cX7_passHour 49 = .ok (.istore 4, 2) := by decide +kernel
theorem dX7_passHour_51 : decode cX7_passHour 51 = .ok (.aload_n 0, 1) := by decide +kernel
theorem dX7_passHour_52 : decode cX7_passHour 52 = .ok (.aload_n 1, 1) := by decide +kernel
theorem dX7_passHour_53 : decode cX7_passHour 53 = .ok (.iload_n 3, 1) := by decide +kernel
theorem dX7_passHour_54 : decode cX7_passHour 54 = .ok (.iload_n 2, 1) := by decide +kernel
theorem dX7_passHour_55 : decode cX7_passHour 55 = .ok (.invokevirtual 63, 3) := by decide +kernel
theorem dX7_passHour_58 : decode cX7_passHour 58 = .ok (.ifCond .eq 42, 3) := by decide +kernel
theorem dX7_passHour_61 : decode cX7_passHour 61 = .ok (.aload_n 0, 1) := by decide +kernel
theorem dX7_passHour_62 : decode cX7_passHour 62 = .ok (.getfield 15, 3) := by decide +kernel
theorem dX7_passHour_65 : decode cX7_passHour 65 = .ok (.iload_n 3, 1) := by decide +kernel
theorem dX7_passHour_66 : decode cX7_passHour 66 = .ok (.iconst 0, 1) := by decide +kernel
theorem dX7_passHour_67 : decode cX7_passHour 67 = .ok (.iastore, 1) := by decide +kernel
theorem dX7_passHour_68 : decode cX7_passHour 68 = .ok (.aload_n 0, 1) := by decide +kernel
theorem dX7_passHour_69 : decode cX7_passHour 69 = .ok (.getfield 18, 3) := by decide +kernel
theorem dX7_passHour_72 : decode cX7_passHour 72 = .ok (.iload 4, 2) := by decide +kernel
theorem dX7_passHour_74 : decode cX7_passHour 74 = .ok (.iaload, 1) := by decide +kernel
theorem dX7_passHour_75 : decode cX7_passHour 75 = .ok (.bipush (-9), 2) := by decide +kernel
theorem dX7_passHour_77 : decode cX7_passHour 77 = .ok (.if_icmp .eq 23, 3) := by decide +kernel
theorem dX7_passHour_80 : decode cX7_passHour 80 = .ok (.aload_n 0, 1) := by decide +kernel
theorem dX7_passHour_81 : decode cX7_passHour 81 = .ok (.iload_n 3, 1) := by decide +kernel
theorem dX7_passHour_82 : decode cX7_passHour 82 = .ok (.iload 4, 2) := by decide +kernel
theorem dX7_passHour_84 : decode cX7_passHour 84 = .ok (.aload_n 1, 1) := by decide +kernel
theorem dX7_passHour_85 : decode cX7_passHour 85 = .ok (.getfield 67, 3) := by decide +kernel
theorem dX7_passHour_88 : decode cX7_passHour 88 = .ok (.aload_n 0, 1) := by decide +kernel
theorem dX7_passHour_89 : decode cX7_passHour 89 = .ok (.getfield 18, 3) := by decide +kernel
theorem dX7_passHour_92 : decode cX7_passHour 92 = .ok (.iload 4, 2) := by decide +kernel
theorem dX7_passHour_94 : decode cX7_passHour 94 = .ok (.iaload, 1) := by decide +kernel
theorem dX7_passHour_95 : decode cX7_passHour 95 = .ok (.iaload, 1) := by decide +kernel
theorem dX7_passHour_96 : decode cX7_passHour 96 = .ok (.aload_n 1, 1) := by decide +kernel
theorem dX7_passHour_97 : decode cX7_passHour 97 = .ok (.invokevirtual 70, 3) := by decide +kernel
theorem dX7_passHour_100 : decode cX7_passHour 100 = .ok (.iinc 3 1, 3) := by decide +kernel
theorem dX7_passHour_103 : decode cX7_passHour 103 = .ok (.goto (-68), 3) := by decide +kernel
theorem dX7_passHour_106 : decode cX7_passHour 106 = .ok (.return_, 1) := by decide +kernel
theorem dX7_isLoose_0 : decode cX7_isLoose 0 = .ok (.aload_n 1, 1) := by decide +kernel
theorem dX7_isLoose_1 : decode cX7_isLoose 1 = .ok (.aload_n 0, 1) := by decide +kernel
theorem dX7_isLoose_2 : decode cX7_isLoose 2 = .ok (.getfield 9, 3) := by decide +kernel
theorem dX7_isLoose_5 : decode cX7_isLoose 5 = .ok (.iload_n 2, 1) := by decide +kernel
theorem dX7_isLoose_6 : decode cX7_isLoose 6 = .ok (.iaload, 1) := by decide +kernel
theorem dX7_isLoose_7 : decode cX7_isLoose 7 = .ok (.iload_n 3, 1) := by decide +kernel
theorem dX7_isLoose_8 : decode cX7_isLoose 8 = .ok (.invokevirtual 74, 3) := by decide +kernel
theorem dX7_isLoose_11 : decode cX7_isLoose 11 = .ok (.istore 4, 2) := by decide +kernel
theorem dX7_isLoose_13 : decode cX7_isLoose 13 = .ok (.iload 4, 2) := by decide +kernel
theorem dX7_isLoose_15 : decode cX7_isLoose 15 = .ok (.aload_n 1, 1) := by decide +kernel
theorem dX7_isLoose_16 : decode cX7_isLoose 16 = .ok (.getfield 78, 3) := by decide +kernel
theorem dX7_isLoose_19 : decode cX7_isLoose 19 = .ok (.iload_n 2, 1) := by decide +kernel
theorem dX7_isLoose_20 : decode cX7_isLoose 20 = .ok (.iaload, 1) := by decide +kernel
theorem dX7_isLoose_21 : decode cX7_isLoose 21 = .ok (.if_icmp .lt 18, 3) := by decide +kernel
theorem dX7_isLoose_24 : decode cX7_isLoose 24 = .ok (.iload 4, 2) := by decide +kernel
theorem dX7_isLoose_26 : decode cX7_isLoose 26 = .ok (.aload_n 0, 1) := by decide +kernel
theorem dX7_isLoose_27 : decode cX7_isLoose 27 = .ok (.getfield 15, 3) := by decide +kernel
theorem dX7_isLoose_30 : decode cX7_isLoose 30 = .ok (.iload_n 2, 1) := by decide +kernel
theorem dX7_isLoose_31 : decode cX7_isLoose 31 = .ok (.iaload, 1) := by decide +kernel
theorem dX7_isLoose_32 : decode cX7_isLoose 32 = .ok (.if_icmp .le 7, 3) := by decide +kernel
theorem dX7_isLoose_35 : decode cX7_isLoose 35 = .ok (.iconst 1, 1) := by decide +kernel
theorem dX7_isLoose_36 : decode cX7_isLoose 36 = .ok (.goto 4, 3) := by decide +kernel
theorem dX7_isLoose_39 : decode cX7_isLoose 39 = .ok (.iconst 0, 1) := by decide +kernel
theorem dX7_isLoose_40 : decode cX7_isLoose 40 = .ok (.ireturn, 1) := by decide +kernel
theorem dX7_letGo_0 : decode cX7_letGo 0 = .ok (.aload 4, 2) := by decide +kernel
theorem dX7_letGo_2 : decode cX7_letGo 2 = .ok (.getfield 81, 3) := by decide +kernel
theorem dX7_letGo_5 : decode cX7_letGo 5 = .ok (.iload_n 1, 1) := by decide +kernel
theorem dX7_letGo_6 : decode cX7_letGo 6 = .ok (.iaload, 1) := by decide +kernel
theorem dX7_letGo_7 : decode cX7_letGo 7 = .ok (.istore 5, 2) := by decide +kernel
theorem dX7_letGo_9 : decode cX7_letGo 9 = .ok (.aload_n 0, 1) := by decide +kernel
theorem dX7_letGo_10 : decode cX7_letGo 10 = .ok (.getfield 21, 3) := by decide +kernel
theorem dX7_letGo_13 : decode cX7_letGo 13 = .ok (.iload_n 2, 1) := by decide +kernel
theorem dX7_letGo_14 : decode cX7_letGo 14 = .ok (.iaload, 1) := by decide +kernel
theorem dX7_letGo_15 : decode cX7_letGo 15 = .ok (.iload 5, 2) := by decide +kernel
theorem dX7_letGo_17 : decode cX7_letGo 17 = .ok (.iadd, 1) := by decide +kernel
theorem dX7_letGo_18 : decode cX7_letGo 18 = .ok (.aload 4, 2) := by decide +kernel
theorem dX7_letGo_20 : decode cX7_letGo 20 = .ok (.getfield 84, 3) := by decide +kernel
theorem dX7_letGo_23 : decode cX7_letGo 23 = .ok (.iload_n 2, 1) := by decide +kernel
theorem dX7_letGo_24 : decode cX7_letGo 24 = .ok (.iaload, 1) := by decide +kernel
theorem dX7_letGo_25 : decode cX7_letGo 25 = .ok (.if_icmp .gt 22, 3) := by decide +kernel
theorem dX7_letGo_28 : decode cX7_letGo 28 = .ok (.aload_n 0, 1) := by decide +kernel
theorem dX7_letGo_29 : decode cX7_letGo 29 = .ok (.getfield 21, 3) := by decide +kernel
theorem dX7_letGo_32 : decode cX7_letGo 32 = .ok (.iload_n 3, 1) := by decide +kernel
theorem dX7_letGo_33 : decode cX7_letGo 33 = .ok (.iaload, 1) := by decide +kernel
theorem dX7_letGo_34 : decode cX7_letGo 34 = .ok (.iload 5, 2) := by decide +kernel
theorem dX7_letGo_36 : decode cX7_letGo 36 = .ok (.iadd, 1) := by decide +kernel
theorem dX7_letGo_37 : decode cX7_letGo 37 = .ok (.aload 4, 2) := by decide +kernel
theorem dX7_letGo_39 : decode cX7_letGo 39 = .ok (.getfield 84, 3) := by decide +kernel
theorem dX7_letGo_42 : decode cX7_letGo 42 = .ok (.iload_n 3, 1) := by decide +kernel
theorem dX7_letGo_43 : decode cX7_letGo 43 = .ok (.iaload, 1) := by decide +kernel
theorem dX7_letGo_44 : decode cX7_letGo 44 = .ok (.if_icmp .le 16, 3) := by decide +kernel
theorem dX7_letGo_47 : decode cX7_letGo 47 = .ok (.aload_n 0, 1) := by decide +kernel
theorem dX7_letGo_48 : decode cX7_letGo 48 = .ok (.dup, 1) := by decide +kernel
theorem dX7_letGo_49 : decode cX7_letGo 49 = .ok (.getfield 60, 3) := by decide +kernel
theorem dX7_letGo_52 : decode cX7_letGo 52 = .ok (.iconst 1, 1) := by decide +kernel
theorem dX7_letGo_53 : decode cX7_letGo 53 = .ok (.iload_n 1, 1) := by decide +kernel
theorem dX7_letGo_54 : decode cX7_letGo 54 = .ok (.ishl, 1) := by decide +kernel
theorem dX7_letGo_55 : decode cX7_letGo 55 = .ok (.ior, 1) := by decide +kernel
theorem dX7_letGo_56 : decode cX7_letGo 56 = .ok (.putfield 60, 3) := by decide +kernel
theorem dX7_letGo_59 : decode cX7_letGo 59 = .ok (.return_, 1) := by decide +kernel
theorem dX7_letGo_60 : decode cX7_letGo 60 = .ok (.aload_n 0, 1) := by decide +kernel
theorem dX7_letGo_61 : decode cX7_letGo 61 = .ok (.getfield 21, 3) := by decide +kernel
theorem dX7_letGo_64 : decode cX7_letGo 64 = .ok (.iload_n 2, 1) := by decide +kernel
theorem dX7_letGo_65 : decode cX7_letGo 65 = .ok (.dup2, 1) := by decide +kernel
theorem dX7_letGo_66 : decode cX7_letGo 66 = .ok (.iaload, 1) := by decide +kernel
theorem dX7_letGo_67 : decode cX7_letGo 67 = .ok (.iload 5, 2) := by decide +kernel
theorem dX7_letGo_69 : decode cX7_letGo 69 = .ok (.iadd, 1) := by decide +kernel
theorem dX7_letGo_70 : decode cX7_letGo 70 = .ok (.iastore, 1) := by decide +kernel
theorem dX7_letGo_71 : decode cX7_letGo 71 = .ok (.aload_n 0, 1) := by decide +kernel
theorem dX7_letGo_72 : decode cX7_letGo 72 = .ok (.getfield 21, 3) := by decide +kernel
theorem dX7_letGo_75 : decode cX7_letGo 75 = .ok (.iload_n 3, 1) := by decide +kernel
theorem dX7_letGo_76 : decode cX7_letGo 76 = .ok (.dup2, 1) := by decide +kernel
theorem dX7_letGo_77 : decode cX7_letGo 77 = .ok (.iaload, 1) := by decide +kernel
theorem dX7_letGo_78 : decode cX7_letGo 78 = .ok (.iload 5, 2) := by decide +kernel
theorem dX7_letGo_80 : decode cX7_letGo 80 = .ok (.iadd, 1) := by decide +kernel
theorem dX7_letGo_81 : decode cX7_letGo 81 = .ok (.iastore, 1) := by decide +kernel
theorem dX7_letGo_82 : decode cX7_letGo 82 = .ok (.aload_n 0, 1) := by decide +kernel
theorem dX7_letGo_83 : decode cX7_letGo 83 = .ok (.getfield 9, 3) := by decide +kernel
theorem dX7_letGo_86 : decode cX7_letGo 86 = .ok (.iload_n 1, 1) := by decide +kernel
theorem dX7_letGo_87 : decode cX7_letGo 87 = .ok (.iload_n 3, 1) := by decide +kernel
theorem dX7_letGo_88 : decode cX7_letGo 88 = .ok (.iastore, 1) := by decide +kernel
theorem dX7_letGo_89 : decode cX7_letGo 89 = .ok (.aload_n 0, 1) := by decide +kernel
theorem dX7_letGo_90 : decode cX7_letGo 90 = .ok (.dup, 1) := by decide +kernel
theorem dX7_letGo_91 : decode cX7_letGo 91 = .ok (.getfield 57, 3) := by decide +kernel
theorem dX7_letGo_94 : decode cX7_letGo 94 = .ok (.iconst 1, 1) := by decide +kernel
theorem dX7_letGo_95 : decode cX7_letGo 95 = .ok (.iload_n 1, 1) := by decide +kernel
theorem dX7_letGo_96 : decode cX7_letGo 96 = .ok (.ishl, 1) := by decide +kernel
theorem dX7_letGo_97 : decode cX7_letGo 97 = .ok (.ior, 1) := by decide +kernel
theorem dX7_letGo_98 : decode cX7_letGo 98 = .ok (.putfield 57, 3) := by decide +kernel
theorem dX7_letGo_101 : decode cX7_letGo 101 = .ok (.return_, 1) := by decide +kernel
theorem dX8_init_0 : decode cX8_init 0 = .ok (.aload_n 0, 1) := by decide +kernel
theorem dX8_init_1 : decode cX8_init 1 = .ok (.invokespecial 1, 3) := by decide +kernel
theorem dX8_init_4 : decode cX8_init 4 = .ok (.aload_n 0, 1) := by decide +kernel
theorem dX8_init_5 : decode cX8_init 5 = .ok (.new 7, 3) := by decide +kernel
theorem dX8_init_8 : decode cX8_init 8 = .ok (.dup, 1) := by decide +kernel
theorem dX8_init_9 : decode cX8_init 9 = .ok (.invokespecial 9, 3) := by decide +kernel
theorem dX8_init_12 : decode cX8_init 12 = .ok (.putfield 10, 3) := by decide +kernel
theorem dX8_init_15 : decode cX8_init 15 = .ok (.aload_n 0, 1) := by decide +kernel
theorem dX8_init_16 : decode cX8_init 16 = .ok (.new 16, 3) := by decide +kernel
theorem dX8_init_19 : decode cX8_init 19 = .ok (.dup, 1) := by decide +kernel
theorem dX8_init_20 : decode cX8_init 20 = .ok (.invokespecial 18, 3) := by decide +kernel
theorem dX8_init_23 : decode cX8_init 23 = .ok (.putfield 19, 3) := by decide +kernel
theorem dX8_init_26 : decode cX8_init 26 = .ok (.aload_n 0, 1) := by decide +kernel
theorem dX8_init_27 : decode cX8_init 27 = .ok (.new 23, 3) := by decide +kernel
theorem dX8_init_30 : decode cX8_init 30 = .ok (.dup, 1) := by decide +kernel
theorem dX8_init_31 : decode cX8_init 31 = .ok (.invokespecial 25, 3) := by decide +kernel
theorem dX8_init_34 : decode cX8_init 34 = .ok (.putfield 26, 3) := by decide +kernel
theorem dX8_init_37 : decode cX8_init 37 = .ok (.aload_n 0, 1) := by decide +kernel
theorem dX8_init_38 : decode cX8_init 38 = .ok (.new 30, 3) := by decide +kernel
theorem dX8_init_41 : decode cX8_init 41 = .ok (.dup, 1) := by decide +kernel
theorem dX8_init_42 : decode cX8_init 42 = .ok (.invokespecial 32, 3) := by decide +kernel
theorem dX8_init_45 : decode cX8_init 45 = .ok (.putfield 33, 3) := by decide +kernel
theorem dX8_init_48 : decode cX8_init 48 = .ok (.aload_n 0, 1) := by decide +kernel
theorem dX8_init_49 : decode cX8_init 49 = .ok (.new 37, 3) := by decide +kernel
theorem dX8_init_52 : decode cX8_init 52 = .ok (.dup, 1) := by decide +kernel
theorem dX8_init_53 : decode cX8_init 53 = .ok (.invokespecial 39, 3) := by decide +kernel
theorem dX8_init_56 : decode cX8_init 56 = .ok (.putfield 40, 3) := by decide +kernel
theorem dX8_init_59 : decode cX8_init 59 = .ok (.aload_n 0, 1) := by decide +kernel
theorem dX8_init_60 : decode cX8_init 60 = .ok (.new 44, 3) := by decide +kernel
theorem dX8_init_63 : decode cX8_init 63 = .ok (.dup, 1) := by decide +kernel
theorem dX8_init_64 : decode cX8_init 64 = .ok (.invokespecial 46, 3) := by decide +kernel
theorem dX8_init_67 : decode cX8_init 67 = .ok (.putfield 47, 3) := by decide +kernel
theorem dX8_init_70 : decode cX8_init 70 = .ok (.aload_n 0, 1) := by decide +kernel
theorem dX8_init_71 : decode cX8_init 71 = .ok (.new 51, 3) := by decide +kernel
theorem dX8_init_74 : decode cX8_init 74 = .ok (.dup, 1) := by decide +kernel
theorem dX8_init_75 : decode cX8_init 75 = .ok (.invokespecial 53, 3) := by decide +kernel
theorem dX8_init_78 : decode cX8_init 78 = .ok (.putfield 54, 3) := by decide +kernel
theorem dX8_init_81 : decode cX8_init 81 = .ok (.aload_n 0, 1) := by decide +kernel
theorem dX8_init_82 : decode cX8_init 82 = .ok (.iconst 2, 1) := by decide +kernel
theorem dX8_init_83 : decode cX8_init 83 = .ok (.anewarray 51, 3) := by decide +kernel
theorem dX8_init_86 : decode cX8_init 86 = .ok (.putfield 58, 3) := by decide +kernel
theorem dX8_init_89 : decode cX8_init 89 = .ok (.aload_n 0, 1) := by decide +kernel
theorem dX8_init_90 : decode cX8_init 90 = .ok (.iconst 2, 1) := by decide +kernel
theorem dX8_init_91 : decode cX8_init 91 = .ok (.newarray .boolean, 2) := by decide +kernel
theorem dX8_init_93 : decode cX8_init 93 = .ok (.putfield 62, 3) := by decide +kernel
theorem dX8_init_96 : decode cX8_init 96 = .ok (.aload_n 0, 1) := by decide +kernel
theorem dX8_init_97 : decode cX8_init 97 = .ok (.new 66, 3) := by decide +kernel
theorem dX8_init_100 : decode cX8_init 100 = .ok (.dup, 1) := by decide +kernel
theorem dX8_init_101 : decode cX8_init 101 = .ok (.invokespecial 68, 3) := by decide +kernel
theorem dX8_init_104 : decode cX8_init 104 = .ok (.putfield 69, 3) := by decide +kernel
theorem dX8_init_107 : decode cX8_init 107 = .ok (.aload_n 0, 1) := by decide +kernel
theorem dX8_init_108 : decode cX8_init 108 = .ok (.new 66, 3) := by decide +kernel
theorem dX8_init_111 : decode cX8_init 111 = .ok (.dup, 1) := by decide +kernel
theorem dX8_init_112 : decode cX8_init 112 = .ok (.invokespecial 68, 3) := by decide +kernel
theorem dX8_init_115 : decode cX8_init 115 = .ok (.putfield 73, 3) := by decide +kernel
theorem dX8_init_118 : decode cX8_init 118 = .ok (.iconst 0, 1) := by decide +kernel
theorem dX8_init_119 : decode cX8_init 119 = .ok (.istore_n 1, 1) := by decide +kernel
theorem dX8_init_120 : decode cX8_init 120 = .ok (.iload_n 1, 1) := by decide +kernel
theorem dX8_init_121 : decode cX8_init 121 = .ok (.iconst 2, 1) := by decide +kernel
theorem dX8_init_122 : decode cX8_init 122 = .ok (.if_icmp .ge 22, 3) := by decide +kernel
theorem dX8_init_125 : decode cX8_init 125 = .ok (.aload_n 0, 1) := by decide +kernel
theorem dX8_init_126 : decode cX8_init 126 = .ok (.getfield 58, 3) := by decide +kernel
theorem dX8_init_129 : decode cX8_init 129 = .ok (.iload_n 1, 1) := by decide +kernel
theorem dX8_init_130 : decode cX8_init 130 = .ok (.new 51, 3) := by decide +kernel
theorem dX8_init_133 : decode cX8_init 133 = .ok (.dup, 1) := by decide +kernel
theorem dX8_init_134 : decode cX8_init 134 = .ok (.invokespecial 53, 3) := by decide +kernel
theorem dX8_init_137 : decode cX8_init 137 = .ok (.aastore, 1) := by decide +kernel
theorem dX8_init_138 : decode cX8_init 138 = .ok (.iinc 1 1, 3) := by decide +kernel
theorem dX8_init_141 : decode cX8_init 141 = .ok (.goto (-21), 3) := by decide +kernel
theorem dX8_init_144 : decode cX8_init 144 = .ok (.return_, 1) := by decide +kernel
theorem dX8_write_0 : decode cX8_write 0 = .ok (.iload_n 1, 1) := by decide +kernel
theorem dX8_write_1 : decode cX8_write 1 = .ok (.iconst 1, 1) := by decide +kernel
theorem dX8_write_2 : decode cX8_write 2 = .ok (.if_icmp .lt 9, 3) := by decide +kernel
theorem dX8_write_5 : decode cX8_write 5 = .ok (.iload_n 1, 1) := by decide +kernel
theorem dX8_write_6 : decode cX8_write 6 = .ok (.bipush 8, 2) := by decide +kernel
theorem dX8_write_8 : decode cX8_write 8 = .ok (.if_icmp .le 6, 3) := by decide +kernel
theorem dX8_write_11 : decode cX8_write 11 = .ok (.bipush (-2), 2) := by decide +kernel
theorem dX8_write_13 : decode cX8_write 13 = .ok (.ireturn, 1) := by decide +kernel
theorem dX8_write_14 : decode cX8_write 14 = .ok (.aload_n 0, 1) := by decide +kernel
theorem dX8_write_15 : decode cX8_write 15 = .ok (.getfield 10, 3) := by decide +kernel
theorem dX8_write_18 : decode cX8_write 18 = .ok (.getfield 76, 3) := by decide +kernel
theorem dX8_write_21 : decode cX8_write 21 = .ok (.iload_n 1, 1) := by decide +kernel
theorem dX8_write_22 : decode cX8_write 22 = .ok (.iadd, 1) := by decide +kernel
theorem dX8_write_23 : decode cX8_write 23 = .ok (.bipush 96, 2) := by decide +kernel
theorem dX8_write_25 : decode cX8_write 25 = .ok (.if_icmp .le 6, 3) := by decide +kernel
theorem dX8_write_28 : decode cX8_write 28 = .ok (.bipush (-4), 2) := by decide +kernel
theorem dX8_write_30 : decode cX8_write 30 = .ok (.ireturn, 1) := by decide +kernel
theorem dX8_write_31 : decode cX8_write 31 = .ok (.aload_n 0, 1) := by decide +kernel
theorem dX8_write_32 : decode cX8_write 32 = .ok (.getfield 10, 3) := by decide +kernel
theorem dX8_write_35 : decode cX8_write 35 = .ok (.iload_n 1, 1) := by decide +kernel
theorem dX8_write_36 : decode cX8_write 36 = .ok (.lload_n 2, 1) := by decide +kernel
theorem dX8_write_37 : decode cX8_write 37 = .ok (.invokevirtual 80, 3) := by decide +kernel
theorem dX8_write_40 : decode cX8_write 40 = .ok (.aload_n 0, 1) := by decide +kernel
theorem dX8_write_41 : decode cX8_write 41 = .ok (.getfield 10, 3) := by decide +kernel
theorem dX8_write_44 : decode cX8_write 44 = .ok (.getfield 76, 3) := by decide +kernel
theorem dX8_write_47 : decode cX8_write 47 = .ok (.ireturn, 1) := by decide +kernel
theorem dX8_wipe_0 : decode cX8_wipe 0 = .ok (.aload_n 0, 1) := by decide +kernel
theorem dX8_wipe_1 : decode cX8_wipe 1 = .ok (.getfield 10, 3) := by decide +kernel
theorem dX8_wipe_4 : decode cX8_wipe 4 = .ok (.getfield 76, 3) := by decide +kernel
theorem dX8_wipe_7 : decode cX8_wipe 7 = .ok (.istore_n 1, 1) := by decide +kernel
theorem dX8_wipe_8 : decode cX8_wipe 8 = .ok (.aload_n 0, 1) := by decide +kernel
theorem dX8_wipe_9 : decode cX8_wipe 9 = .ok (.getfield 10, 3) := by decide +kernel
theorem dX8_wipe_12 : decode cX8_wipe 12 = .ok (.iconst 0, 1) := by decide +kernel
theorem dX8_wipe_13 : decode cX8_wipe 13 = .ok (.putfield 76, 3) := by decide +kernel
theorem dX8_wipe_16 : decode cX8_wipe 16 = .ok (.iload_n 1, 1) := by decide +kernel
theorem dX8_wipe_17 : decode cX8_wipe 17 = .ok (.ireturn, 1) := by decide +kernel
theorem dX8_fault_0 : decode cX8_fault 0 = .ok (.aload_n 0, 1) := by decide +kernel
theorem dX8_fault_1 : decode cX8_fault 1 = .ok (.getfield 19, 3) := by decide +kernel
theorem dX8_fault_4 : decode cX8_fault 4 = .ok (.aload_n 0, 1) := by decide +kernel
theorem dX8_fault_5 : decode cX8_fault 5 = .ok (.getfield 10, 3) := by decide +kernel
theorem dX8_fault_8 : decode cX8_fault 8 = .ok (.aload_n 0, 1) := by decide +kernel
theorem dX8_fault_9 : decode cX8_fault 9 = .ok (.getfield 73, 3) := by decide +kernel
theorem dX8_fault_12 : decode cX8_fault 12 = .ok (.invokevirtual 84, 3) := by decide +kernel
theorem dX8_fault_15 : decode cX8_fault 15 = .ok (.ireturn, 1) := by decide +kernel
theorem dX8_town_0 : decode cX8_town 0 = .ok (.aload_n 0, 1) := by decide +kernel
theorem dX8_town_1 : decode cX8_town 1 = .ok (.getfield 19, 3) := by decide +kernel
theorem dX8_town_4 : decode cX8_town 4 = .ok (.aload_n 0, 1) := by decide +kernel
theorem dX8_town_5 : decode cX8_town 5 = .ok (.getfield 10, 3) := by decide +kernel
theorem dX8_town_8 : decode cX8_town 8 = .ok (.aload_n 0, 1) := by decide +kernel
theorem dX8_town_9 : decode cX8_town 9 = .ok (.getfield 73, 3) := by decide +kernel
theorem dX8_town_12 : decode cX8_town 12 = .ok (.invokevirtual 84, 3) := by decide +kernel
theorem dX8_town_15 : decode cX8_town 15 = .ok (.bipush (-9), 2) := by decide +kernel
theorem dX8_town_17 : decode cX8_town 17 = .ok (.if_icmp .eq 6, 3) := by decide +kernel
theorem dX8_town_20 : decode cX8_town 20 = .ok (.bipush (-3), 2) := by decide +kernel
theorem dX8_town_22 : decode cX8_town 22 = .ok (.ireturn, 1) := by decide +kernel
theorem dX8_town_23 : decode cX8_town 23 = .ok (.aload_n 0, 1) := by decide +kernel
theorem dX8_town_24 : decode cX8_town 24 = .ok (.getfield 73, 3) := by decide +kernel
theorem dX8_town_27 : decode cX8_town 27 = .ok (.astore_n 1, 1) := by decide +kernel
theorem dX8_town_28 : decode cX8_town 28 = .ok (.aload_n 0, 1) := by decide +kernel
theorem dX8_town_29 : decode cX8_town 29 = .ok (.aload_n 0, 1) := by decide +kernel
theorem dX8_town_30 : decode cX8_town 30 = .ok (.getfield 69, 3) := by decide +kernel
theorem dX8_town_33 : decode cX8_town 33 = .ok (.putfield 73, 3) := by decide +kernel
theorem dX8_town_36 : decode cX8_town 36 = .ok (.aload_n 0, 1) := by decide +kernel
theorem dX8_town_37 : decode cX8_town 37 = .ok (.aload_n 1, 1) := by decide +kernel
theorem dX8_town_38 : decode cX8_town 38 = .ok (.putfield 69, 3) := by decide +kernel
theorem dX8_town_41 : decode cX8_town 41 = .ok (.aload_n 0, 1) := by decide +kernel
theorem dX8_town_42 : decode cX8_town 42 = .ok (.getfield 54, 3) := by decide +kernel
theorem dX8_town_45 : decode cX8_town 45 = .ok (.aload_n 0, 1) := by decide +kernel
theorem dX8_town_46 : decode cX8_town 46 = .ok (.getfield 69, 3) := by decide +kernel
theorem dX8_town_49 : decode cX8_town 49 = .ok (.invokevirtual 88, 3) := by decide +kernel
theorem dX8_town_52 : decode cX8_town 52 = .ok (.aload_n 0, 1) := by decide +kernel
theorem dX8_town_53 : decode cX8_town 53 = .ok (.getfield 26, 3) := by decide +kernel
theorem dX8_town_56 : decode cX8_town 56 = .ok (.invokevirtual 92, 3) := by decide +kernel
theorem dX8_town_59 : decode cX8_town 59 = .ok (.iconst 0, 1) := by decide +kernel
theorem dX8_town_60 : decode cX8_town 60 = .ok (.istore_n 2, 1) := by decide +kernel
theorem dX8_town_61 : decode cX8_town 61 = .ok (.iload_n 2, 1) := by decide +kernel
theorem dX8_town_62 : decode cX8_town 62 = .ok (.iconst 2, 1) := by decide +kernel
theorem dX8_town_63 : decode cX8_town 63 = .ok (.if_icmp .ge 16, 3) := by decide +kernel
theorem dX8_town_66 : decode cX8_town 66 = .ok (.aload_n 0, 1) := by decide +kernel
theorem dX8_town_67 : decode cX8_town 67 = .ok (.getfield 62, 3) := by decide +kernel
theorem dX8_town_70 : decode cX8_town 70 = .ok (.iload_n 2, 1) := by decide +kernel
theorem dX8_town_71 : decode cX8_town 71 = .ok (.iconst 0, 1) := by decide +kernel
theorem dX8_town_72 : decode cX8_town 72 = .ok (.bastore, 1) := by decide +kernel
theorem dX8_town_73 : decode cX8_town 73 = .ok (.iinc 2 1, 3) := by decide +kernel
theorem dX8_town_76 : decode cX8_town 76 = .ok (.goto (-15), 3) := by decide +kernel
theorem dX8_town_79 : decode cX8_town 79 = .ok (.aload_n 0, 1) := by decide +kernel
theorem dX8_town_80 : decode cX8_town 80 = .ok (.getfield 69, 3) := by decide +kernel
theorem dX8_town_83 : decode cX8_town 83 = .ok (.getfield 95, 3) := by decide +kernel
theorem dX8_town_86 : decode cX8_town 86 = .ok (.ireturn, 1) := by decide +kernel
theorem dX8_about_0 : decode cX8_about 0 = .ok (.iload_n 1, 1) := by decide +kernel
theorem dX8_about_1 : decode cX8_about 1 = .ok (.tableswitch 131 0 8 #[51, 59, 67, 75, 83, 91, 103, 115, 123], 51) := by decide +kernel
theorem dX8_about_52 : decode cX8_about 52 = .ok (.aload_n 0, 1) := by decide +kernel
theorem dX8_about_53 : decode cX8_about 53 = .ok (.getfield 69, 3) := by decide +kernel
theorem dX8_about_56 : decode cX8_about 56 = .ok (.getfield 95, 3) := by decide +kernel
theorem dX8_about_59 : decode cX8_about 59 = .ok (.ireturn, 1) := by decide +kernel
theorem dX8_about_60 : decode cX8_about 60 = .ok (.aload_n 0, 1) := by decide +kernel
theorem dX8_about_61 : decode cX8_about 61 = .ok (.getfield 69, 3) := by decide +kernel
theorem dX8_about_64 : decode cX8_about 64 = .ok (.getfield 98, 3) := by decide +kernel
theorem dX8_about_67 : decode cX8_about 67 = .ok (.ireturn, 1) := by decide +kernel
theorem dX8_about_68 : decode cX8_about 68 = .ok (.aload_n 0, 1) := by decide +kernel
theorem dX8_about_69 : decode cX8_about 69 = .ok (.getfield 69, 3) := by decide +kernel
theorem dX8_about_72 : decode cX8_about 72 = .ok (.getfield 101, 3) := by decide +kernel
theorem dX8_about_75 : decode cX8_about 75 = .ok (.ireturn, 1) := by decide +kernel
theorem dX8_about_76 : decode cX8_about 76 = .ok (.aload_n 0, 1) := by decide +kernel
theorem dX8_about_77 : decode cX8_about 77 = .ok (.getfield 54, 3) := by decide +kernel
theorem dX8_about_80 : decode cX8_about 80 = .ok (.getfield 104, 3) := by decide +kernel
theorem dX8_about_83 : decode cX8_about 83 = .ok (.ireturn, 1) := by decide +kernel
theorem dX8_about_84 : decode cX8_about 84 = .ok (.aload_n 0, 1) := by decide +kernel
theorem dX8_about_85 : decode cX8_about 85 = .ok (.getfield 26, 3) := by decide +kernel
theorem dX8_about_88 : decode cX8_about 88 = .ok (.getfield 107, 3) := by decide +kernel
theorem dX8_about_91 : decode cX8_about 91 = .ok (.ireturn, 1) := by decide +kernel
theorem dX8_about_92 : decode cX8_about 92 = .ok (.aload_n 0, 1) := by decide +kernel
theorem dX8_about_93 : decode cX8_about 93 = .ok (.getfield 54, 3) := by decide +kernel
theorem dX8_about_96 : decode cX8_about 96 = .ok (.aload_n 0, 1) := by decide +kernel
theorem dX8_about_97 : decode cX8_about 97 = .ok (.getfield 69, 3) := by decide +kernel
theorem dX8_about_100 : decode cX8_about 100 = .ok (.invokevirtual 110, 3) := by decide +kernel
theorem dX8_about_103 : decode cX8_about 103 = .ok (.ireturn, 1) := by decide +kernel
theorem dX8_about_104 : decode cX8_about 104 = .ok (.aload_n 0, 1) := by decide +kernel
theorem dX8_about_105 : decode cX8_about 105 = .ok (.getfield 54, 3) := by decide +kernel
theorem dX8_about_108 : decode cX8_about 108 = .ok (.aload_n 0, 1) := by decide +kernel
theorem dX8_about_109 : decode cX8_about 109 = .ok (.getfield 69, 3) := by decide +kernel
theorem dX8_about_112 : decode cX8_about 112 = .ok (.invokevirtual 114, 3) := by decide +kernel
theorem dX8_about_115 : decode cX8_about 115 = .ok (.ireturn, 1) := by decide +kernel
theorem dX8_about_116 : decode cX8_about 116 = .ok (.aload_n 0, 1) := by decide +kernel
theorem dX8_about_117 : decode cX8_about 117 = .ok (.getfield 33, 3) := by decide +kernel
theorem dX8_about_120 : decode cX8_about 120 = .ok (.getfield 117, 3) := by decide +kernel
theorem dX8_about_123 : decode cX8_about 123 = .ok (.ireturn, 1) := by decide +kernel
theorem dX8_about_124 : decode cX8_about 124 = .ok (.aload_n 0, 1) := by decide +kernel
theorem dX8_about_125 : decode cX8_about 125 = .ok (.getfield 10, 3) := by decide +kernel
theorem dX8_about_128 : decode cX8_about 128 = .ok (.getfield 76, 3) := by decide +kernel
theorem dX8_about_131 : decode cX8_about 131 = .ok (.ireturn, 1) := by decide +kernel
theorem dX8_about_132 : decode cX8_about 132 = .ok (.bipush (-2), 2) := by decide +kernel
theorem dX8_about_134 : decode cX8_about 134 = .ok (.ireturn, 1) := by decide +kernel
theorem dX8_house_0 : decode cX8_house 0 = .ok (.aload_n 0, 1) := by decide +kernel
theorem dX8_house_1 : decode cX8_house 1 = .ok (.iload_n 1, 1) := by decide +kernel
theorem dX8_house_2 : decode cX8_house 2 = .ok (.invokevirtual 118, 3) := by decide +kernel
theorem dX8_house_5 : decode cX8_house 5 = .ok (.ifCond .ne 5, 3) := by decide +kernel
theorem dX8_house_8 : decode cX8_house 8 = .ok (.iconst (-1), 1) := by decide +kernel
theorem dX8_house_9 : decode cX8_house 9 = .ok (.ireturn, 1) := by decide +kernel
theorem dX8_house_10 : decode cX8_house 10 = .ok (.iload_n 2, 1) := by decide +kernel
theorem dX8_house_11 : decode cX8_house 11 = .ok (.tableswitch 68 0 3 #[29, 39, 49, 55], 29) := by decide +kernel
theorem dX8_house_40 : decode cX8_house 40 = .ok (.aload_n 0, 1) := by decide +kernel
theorem dX8_house_41 : decode cX8_house 41 = .ok (.getfield 69, 3) := by decide +kernel
theorem dX8_house_44 : decode cX8_house 44 = .ok (.getfield 122, 3) := by decide +kernel
theorem dX8_house_47 : decode cX8_house 47 = .ok (.iload_n 1, 1) := by decide +kernel
theorem dX8_house_48 : decode cX8_house 48 = .ok (.iaload, 1) := by decide +kernel
theorem dX8_house_49 : decode cX8_house 49 = .ok (.ireturn, 1) := by decide +kernel
theorem dX8_house_50 : decode cX8_house 50 = .ok (.aload_n 0, 1) := by decide +kernel
theorem dX8_house_51 : decode cX8_house 51 = .ok (.getfield 69, 3) := by decide +kernel
theorem dX8_house_54 : decode cX8_house 54 = .ok (.getfield 126, 3) := by decide +kernel
theorem dX8_house_57 : decode cX8_house 57 = .ok (.iload_n 1, 1) := by decide +kernel
theorem dX8_house_58 : decode cX8_house 58 = .ok (.iaload, 1) := by decide +kernel
theorem dX8_house_59 : decode cX8_house 59 = .ok (.ireturn, 1) := by decide +kernel
theorem dX8_house_60 : decode cX8_house 60 = .ok (.aload_n 0, 1) := by decide +kernel
theorem dX8_house_61 : decode cX8_house 61 = .ok (.iload_n 1, 1) := by decide +kernel
theorem dX8_house_62 : decode cX8_house 62 = .ok (.invokevirtual 129, 3) := by decide +kernel
theorem dX8_house_65 : decode cX8_house 65 = .ok (.ireturn, 1) := by decide +kernel
theorem dX8_house_66 : decode cX8_house 66 = .ok (.aload_n 0, 1) := by decide +kernel
theorem dX8_house_67 : decode cX8_house 67 = .ok (.aload_n 0, 1) := by decide +kernel
theorem dX8_house_68 : decode cX8_house 68 = .ok (.getfield 54, 3) := by decide +kernel
theorem dX8_house_71 : decode cX8_house 71 = .ok (.getfield 133, 3) := by decide +kernel
theorem dX8_house_74 : decode cX8_house 74 = .ok (.iload_n 1, 1) := by decide +kernel
theorem dX8_house_75 : decode cX8_house 75 = .ok (.invokevirtual 136, 3) := by decide +kernel
theorem dX8_house_78 : decode cX8_house 78 = .ok (.ireturn, 1) := by decide +kernel
theorem dX8_house_79 : decode cX8_house 79 = .ok (.bipush (-2), 2) := by decide +kernel
theorem dX8_house_81 : decode cX8_house 81 = .ok (.ireturn, 1) := by decide +kernel
theorem dX8_stream_0 : decode cX8_stream 0 = .ok (.aload_n 0, 1) := by decide +kernel
theorem dX8_stream_1 : decode cX8_stream 1 = .ok (.iload_n 1, 1) := by decide +kernel
theorem dX8_stream_2 : decode cX8_stream 2 = .ok (.invokevirtual 140, 3) := by decide +kernel
theorem dX8_stream_5 : decode cX8_stream 5 = .ok (.ifCond .ne 5, 3) := by decide +kernel
theorem dX8_stream_8 : decode cX8_stream 8 = .ok (.iconst (-1), 1) := by decide +kernel
theorem dX8_stream_9 : decode cX8_stream 9 = .ok (.ireturn, 1) := by decide +kernel
theorem dX8_stream_10 : decode cX8_stream 10 = .ok (.iload_n 2, 1) := by decide +kernel
theorem dX8_stream_11 : decode cX8_stream 11 = .ok (.tableswitch 77 0 3 #[29, 39, 49, 59], 29) := by decide +kernel
theorem dX8_stream_40 : decode cX8_stream 40 = .ok (.aload_n 0, 1) := by decide +kernel
theorem dX8_stream_41 : decode cX8_stream 41 = .ok (.getfield 69, 3) := by decide +kernel
theorem dX8_stream_44 : decode cX8_stream 44 = .ok (.getfield 143, 3) := by decide +kernel
theorem dX8_stream_47 : decode cX8_stream 47 = .ok (.iload_n 1, 1) := by decide +kernel
theorem dX8_stream_48 : decode cX8_stream 48 = .ok (.iaload, 1) := by decide +kernel
theorem dX8_stream_49 : decode cX8_stream 49 = .ok (.ireturn, 1) := by decide +kernel
theorem dX8_stream_50 : decode cX8_stream 50 = .ok (.aload_n 0, 1) := by decide +kernel
theorem dX8_stream_51 : decode cX8_stream 51 = .ok (.getfield 69, 3) := by decide +kernel
theorem dX8_stream_54 : decode cX8_stream 54 = .ok (.getfield 146, 3) := by decide +kernel
theorem dX8_stream_57 : decode cX8_stream 57 = .ok (.iload_n 1, 1) := by decide +kernel
theorem dX8_stream_58 : decode cX8_stream 58 = .ok (.iaload, 1) := by decide +kernel
theorem dX8_stream_59 : decode cX8_stream 59 = .ok (.ireturn, 1) := by decide +kernel
theorem dX8_stream_60 : decode cX8_stream 60 = .ok (.aload_n 0, 1) := by decide +kernel
theorem dX8_stream_61 : decode cX8_stream 61 = .ok (.getfield 69, 3) := by decide +kernel
theorem dX8_stream_64 : decode cX8_stream 64 = .ok (.getfield 149, 3) := by decide +kernel
theorem dX8_stream_67 : decode cX8_stream 67 = .ok (.iload_n 1, 1) := by decide +kernel
theorem dX8_stream_68 : decode cX8_stream 68 = .ok (.iaload, 1) := by decide +kernel
theorem dX8_stream_69 : decode cX8_stream 69 = .ok (.ireturn, 1) := by decide +kernel
theorem dX8_stream_70 : decode cX8_stream 70 = .ok (.aload_n 0, 1) := by decide +kernel
theorem dX8_stream_71 : decode cX8_stream 71 = .ok (.getfield 54, 3) := by decide +kernel
theorem dX8_stream_74 : decode cX8_stream 74 = .ok (.getfield 152, 3) := by decide +kernel
theorem dX8_stream_77 : decode cX8_stream 77 = .ok (.iload_n 1, 1) := by decide +kernel
theorem dX8_stream_78 : decode cX8_stream 78 = .ok (.baload, 1) := by decide +kernel
theorem dX8_stream_79 : decode cX8_stream 79 = .ok (.ifCond .eq 7, 3) := by decide +kernel
theorem dX8_stream_82 : decode cX8_stream 82 = .ok (.iconst 1, 1) := by decide +kernel
theorem dX8_stream_83 : decode cX8_stream 83 = .ok (.goto 4, 3) := by decide +kernel
theorem dX8_stream_86 : decode cX8_stream 86 = .ok (.iconst 0, 1) := by decide +kernel
theorem dX8_stream_87 : decode cX8_stream 87 = .ok (.ireturn, 1) := by decide +kernel
theorem dX8_stream_88 : decode cX8_stream 88 = .ok (.bipush (-2), 2) := by decide +kernel
theorem dX8_stream_90 : decode cX8_stream 90 = .ok (.ireturn, 1) := by decide +kernel
theorem dX8_piece_0 : decode cX8_piece 0 = .ok (.aload_n 0, 1) := by decide +kernel
theorem dX8_piece_1 : decode cX8_piece 1 = .ok (.iload_n 1, 1) := by decide +kernel
theorem dX8_piece_2 : decode cX8_piece 2 = .ok (.invokevirtual 155, 3) := by decide +kernel
theorem dX8_piece_5 : decode cX8_piece 5 = .ok (.ifCond .ne 5, 3) := by decide +kernel
theorem dX8_piece_8 : decode cX8_piece 8 = .ok (.iconst (-1), 1) := by decide +kernel
theorem dX8_piece_9 : decode cX8_piece 9 = .ok (.ireturn, 1) := by decide +kernel
theorem dX8_piece_10 : decode cX8_piece 10 = .ok (.iload_n 2, 1) := by decide +kernel
theorem dX8_piece_11 : decode cX8_piece 11 = .ok (.tableswitch 97 0 5 #[37, 47, 57, 67, 77, 87], 37) := by decide +kernel
theorem dX8_piece_48 : decode cX8_piece 48 = .ok (.aload_n 0, 1) := by decide +kernel
theorem dX8_piece_49 : decode cX8_piece 49 = .ok (.getfield 54, 3) := by decide +kernel
theorem dX8_piece_52 : decode cX8_piece 52 = .ok (.getfield 133, 3) := by decide +kernel
theorem dX8_piece_55 : decode cX8_piece 55 = .ok (.iload_n 1, 1) := by decide +kernel
theorem dX8_piece_56 : decode cX8_piece 56 = .ok (.iaload, 1) := by decide +kernel
theorem dX8_piece_57 : decode cX8_piece 57 = .ok (.ireturn, 1) := by decide +kernel
theorem dX8_piece_58 : decode cX8_piece 58 = .ok (.aload_n 0, 1) := by decide +kernel
theorem dX8_piece_59 : decode cX8_piece 59 = .ok (.getfield 69, 3) := by decide +kernel
theorem dX8_piece_62 : decode cX8_piece 62 = .ok (.getfield 158, 3) := by decide +kernel
theorem dX8_piece_65 : decode cX8_piece 65 = .ok (.iload_n 1, 1) := by decide +kernel
theorem dX8_piece_66 : decode cX8_piece 66 = .ok (.iaload, 1) := by decide +kernel
theorem dX8_piece_67 : decode cX8_piece 67 = .ok (.ireturn, 1) := by decide +kernel
theorem dX8_piece_68 : decode cX8_piece 68 = .ok (.aload_n 0, 1) := by decide +kernel
theorem dX8_piece_69 : decode cX8_piece 69 = .ok (.getfield 69, 3) := by decide +kernel
theorem dX8_piece_72 : decode cX8_piece 72 = .ok (.getfield 161, 3) := by decide +kernel
theorem dX8_piece_75 : decode cX8_piece 75 = .ok (.iload_n 1, 1) := by decide +kernel
theorem dX8_piece_76 : decode cX8_piece 76 = .ok (.iaload, 1) := by decide +kernel
theorem dX8_piece_77 : decode cX8_piece 77 = .ok (.ireturn, 1) := by decide +kernel
theorem dX8_piece_78 : decode cX8_piece 78 = .ok (.aload_n 0, 1) := by decide +kernel
theorem dX8_piece_79 : decode cX8_piece 79 = .ok (.getfield 54, 3) := by decide +kernel
theorem dX8_piece_82 : decode cX8_piece 82 = .ok (.getfield 164, 3) := by decide +kernel
theorem dX8_piece_85 : decode cX8_piece 85 = .ok (.iload_n 1, 1) := by decide +kernel
theorem dX8_piece_86 : decode cX8_piece 86 = .ok (.iaload, 1) := by decide +kernel
theorem dX8_piece_87 : decode cX8_piece 87 = .ok (.ireturn, 1) := by decide +kernel
theorem dX8_piece_88 : decode cX8_piece 88 = .ok (.aload_n 0, 1) := by decide +kernel
theorem dX8_piece_89 : decode cX8_piece 89 = .ok (.getfield 69, 3) := by decide +kernel
theorem dX8_piece_92 : decode cX8_piece 92 = .ok (.getfield 167, 3) := by decide +kernel
theorem dX8_piece_95 : decode cX8_piece 95 = .ok (.iload_n 1, 1) := by decide +kernel
theorem dX8_piece_96 : decode cX8_piece 96 = .ok (.iaload, 1) := by decide +kernel
theorem dX8_piece_97 : decode cX8_piece 97 = .ok (.ireturn, 1) := by decide +kernel
theorem dX8_piece_98 : decode cX8_piece 98 = .ok (.aload_n 0, 1) := by decide +kernel
theorem dX8_piece_99 : decode cX8_piece 99 = .ok (.getfield 54, 3) := by decide +kernel
theorem dX8_piece_102 : decode cX8_piece 102 = .ok (.getfield 170, 3) := by decide +kernel
theorem dX8_piece_105 : decode cX8_piece 105 = .ok (.iload_n 1, 1) := by decide +kernel
theorem dX8_piece_106 : decode cX8_piece 106 = .ok (.iaload, 1) := by decide +kernel
theorem dX8_piece_107 : decode cX8_piece 107 = .ok (.ireturn, 1) := by decide +kernel
theorem dX8_piece_108 : decode cX8_piece 108 = .ok (.bipush (-2), 2) := by decide +kernel
theorem dX8_piece_110 : decode cX8_piece 110 = .ok (.ireturn, 1) := by decide +kernel
theorem dX8_owner_0 : decode cX8_owner 0 = .ok (.aload_n 0, 1) := by decide +kernel
theorem dX8_owner_1 : decode cX8_owner 1 = .ok (.iload_n 1, 1) := by decide +kernel
theorem dX8_owner_2 : decode cX8_owner 2 = .ok (.invokevirtual 155, 3) := by decide +kernel
theorem dX8_owner_5 : decode cX8_owner 5 = .ok (.ifCond .ne 5, 3) := by decide +kernel
theorem dX8_owner_8 : decode cX8_owner 8 = .ok (.iconst (-1), 1) := by decide +kernel
theorem dX8_owner_9 : decode cX8_owner 9 = .ok (.ireturn, 1) := by decide +kernel
theorem dX8_owner_10 : decode cX8_owner 10 = .ok (.iload_n 2, 1) := by decide +kernel
theorem dX8_owner_11 : decode cX8_owner 11 = .ok (.ifCond .lt 16, 3) := by decide +kernel
theorem dX8_owner_14 : decode cX8_owner 14 = .ok (.iload_n 2, 1) := by decide +kernel
theorem dX8_owner_15 : decode cX8_owner 15 = .ok (.aload_n 0, 1) := by decide +kernel
theorem dX8_owner_16 : decode cX8_owner 16 = .ok (.getfield 54, 3) := by decide +kernel
theorem dX8_owner_19 : decode cX8_owner 19 = .ok (.getfield 173, 3) := by decide +kernel
theorem dX8_owner_22 : decode cX8_owner 22 = .ok (.iload_n 1, 1) := by decide +kernel
theorem dX8_owner_23 : decode cX8_owner 23 = .ok (.iaload, 1) := by decide +kernel
theorem dX8_owner_24 : decode cX8_owner 24 = .ok (.if_icmp .lt 6, 3) := by decide +kernel
theorem dX8_owner_27 : decode cX8_owner 27 = .ok (.bipush (-9), 2) := by decide +kernel
theorem dX8_owner_29 : decode cX8_owner 29 = .ok (.ireturn, 1) := by decide +kernel
theorem dX8_owner_30 : decode cX8_owner 30 = .ok (.aload_n 0, 1) := by decide +kernel
theorem dX8_owner_31 : decode cX8_owner 31 = .ok (.getfield 54, 3) := by decide +kernel
theorem dX8_owner_34 : decode cX8_owner 34 = .ok (.getfield 176, 3) := by decide +kernel
theorem dX8_owner_37 : decode cX8_owner 37 = .ok (.iload_n 1, 1) := by decide +kernel
theorem dX8_owner_38 : decode cX8_owner 38 = .ok (.aaload, 1) := by decide +kernel
theorem dX8_owner_39 : decode cX8_owner 39 = .ok (.iload_n 2, 1) := by decide +kernel
theorem dX8_owner_40 : decode cX8_owner 40 = .ok (.iaload, 1) := by decide +kernel
theorem dX8_owner_41 : decode cX8_owner 41 = .ok (.ireturn, 1) := by decide +kernel
theorem dX8_tie_0 : decode cX8_tie 0 = .ok (.aload_n 0, 1) := by decide +kernel
theorem dX8_tie_1 : decode cX8_tie 1 = .ok (.iload_n 1, 1) := by decide +kernel
theorem dX8_tie_2 : decode cX8_tie 2 = .ok (.invokevirtual 155, 3) := by decide +kernel
theorem dX8_tie_5 : decode cX8_tie 5 = .ok (.ifCond .ne 5, 3) := by decide +kernel
theorem dX8_tie_8 : decode cX8_tie 8 = .ok (.iconst (-1), 1) := by decide +kernel
theorem dX8_tie_9 : decode cX8_tie 9 = .ok (.ireturn, 1) := by decide +kernel
theorem dX8_tie_10 : decode cX8_tie 10 = .ok (.iload_n 2, 1) := by decide +kernel
theorem dX8_tie_11 : decode cX8_tie 11 = .ok (.ifCond .lt 9, 3) := by decide +kernel
theorem dX8_tie_14 : decode cX8_tie 14 = .ok (.iload_n 2, 1) := by decide +kernel
theorem dX8_tie_15 : decode cX8_tie 15 = .ok (.bipush 9, 2) := by decide +kernel
theorem dX8_tie_17 : decode cX8_tie 17 = .ok (.if_icmp .le 6, 3) := by decide +kernel
theorem dX8_tie_20 : decode cX8_tie 20 = .ok (.bipush (-2), 2) := by decide +kernel
theorem dX8_tie_22 : decode cX8_tie 22 = .ok (.ireturn, 1) := by decide +kernel
theorem dX8_tie_23 : decode cX8_tie 23 = .ok (.aload_n 0, 1) := by decide +kernel
theorem dX8_tie_24 : decode cX8_tie 24 = .ok (.getfield 54, 3) := by decide +kernel
theorem dX8_tie_27 : decode cX8_tie 27 = .ok (.getfield 164, 3) := by decide +kernel
theorem dX8_tie_30 : decode cX8_tie 30 = .ok (.iload_n 1, 1) := by decide +kernel
theorem dX8_tie_31 : decode cX8_tie 31 = .ok (.iaload, 1) := by decide +kernel
theorem dX8_tie_32 : decode cX8_tie 32 = .ok (.istore_n 3, 1) := by decide +kernel
theorem dX8_tie_33 : decode cX8_tie 33 = .ok (.aload_n 0, 1) := by decide +kernel
theorem dX8_tie_34 : decode cX8_tie 34 = .ok (.getfield 54, 3) := by decide +kernel
theorem dX8_tie_37 : decode cX8_tie 37 = .ok (.getfield 164, 3) := by decide +kernel
theorem dX8_tie_40 : decode cX8_tie 40 = .ok (.iload_n 1, 1) := by decide +kernel
theorem dX8_tie_41 : decode cX8_tie 41 = .ok (.iload_n 2, 1) := by decide +kernel
theorem dX8_tie_42 : decode cX8_tie 42 = .ok (.iastore, 1) := by decide +kernel
theorem dX8_tie_43 : decode cX8_tie 43 = .ok (.iload_n 3, 1) := by decide +kernel
theorem dX8_tie_44 : decode cX8_tie 44 = .ok (.ireturn, 1) := by decide +kernel
theorem dX8_carry_0 : decode cX8_carry 0 = .ok (.aload_n 0, 1) := by decide +kernel
theorem dX8_carry_1 : decode cX8_carry 1 = .ok (.iload_n 1, 1) := by decide +kernel
theorem dX8_carry_2 : decode cX8_carry 2 = .ok (.invokevirtual 155, 3) := by decide +kernel
theorem dX8_carry_5 : decode cX8_carry 5 = .ok (.ifCond .eq 11, 3) := by decide +kernel
theorem dX8_carry_8 : decode cX8_carry 8 = .ok (.aload_n 0, 1) := by decide +kernel
theorem dX8_carry_9 : decode cX8_carry 9 = .ok (.iload_n 2, 1) := by decide +kernel
theorem dX8_carry_10 : decode cX8_carry 10 = .ok (.invokevirtual 118, 3) := by decide +kernel
theorem dX8_carry_13 : decode cX8_carry 13 = .ok (.ifCond .ne 5, 3) := by decide +kernel
theorem dX8_carry_16 : decode cX8_carry 16 = .ok (.iconst (-1), 1) := by decide +kernel
theorem dX8_carry_17 : decode cX8_carry 17 = .ok (.ireturn, 1) := by decide +kernel
theorem dX8_carry_18 : decode cX8_carry 18 = .ok (.aload_n 0, 1) := by decide +kernel
theorem dX8_carry_19 : decode cX8_carry 19 = .ok (.getfield 54, 3) := by decide +kernel
theorem dX8_carry_22 : decode cX8_carry 22 = .ok (.getfield 133, 3) := by decide +kernel
theorem dX8_carry_25 : decode cX8_carry 25 = .ok (.iload_n 1, 1) := by decide +kernel
theorem dX8_carry_26 : decode cX8_carry 26 = .ok (.iaload, 1) := by decide +kernel
theorem dX8_carry_27 : decode cX8_carry 27 = .ok (.istore_n 3, 1) := by decide +kernel
theorem dX8_carry_28 : decode cX8_carry 28 = .ok (.aload_n 0, 1) := by decide +kernel
theorem dX8_carry_29 : decode cX8_carry 29 = .ok (.getfield 54, 3) := by decide +kernel
theorem dX8_carry_32 : decode cX8_carry 32 = .ok (.getfield 133, 3) := by decide +kernel
theorem dX8_carry_35 : decode cX8_carry 35 = .ok (.iload_n 1, 1) := by decide +kernel
theorem dX8_carry_36 : decode cX8_carry 36 = .ok (.iload_n 2, 1) := by decide +kernel
theorem dX8_carry_37 : decode cX8_carry 37 = .ok (.iastore, 1) := by decide +kernel
theorem dX8_carry_38 : decode cX8_carry 38 = .ok (.iload_n 3, 1) := by decide +kernel
theorem dX8_carry_39 : decode cX8_carry 39 = .ok (.ireturn, 1) := by decide +kernel
theorem dX8_shut_0 : decode cX8_shut 0 = .ok (.aload_n 0, 1) := by decide +kernel
theorem dX8_shut_1 : decode cX8_shut 1 = .ok (.iload_n 1, 1) := by decide +kernel
theorem dX8_shut_2 : decode cX8_shut 2 = .ok (.invokevirtual 140, 3) := by decide +kernel
theorem dX8_shut_5 : decode cX8_shut 5 = .ok (.ifCond .ne 5, 3) := by decide +kernel
theorem dX8_shut_8 : decode cX8_shut 8 = .ok (.iconst (-1), 1) := by decide +kernel
theorem dX8_shut_9 : decode cX8_shut 9 = .ok (.ireturn, 1) := by decide +kernel
theorem dX8_shut_10 : decode cX8_shut 10 = .ok (.aload_n 0, 1) := by decide +kernel
theorem dX8_shut_11 : decode cX8_shut 11 = .ok (.getfield 54, 3) := by decide +kernel
theorem dX8_shut_14 : decode cX8_shut 14 = .ok (.getfield 152, 3) := by decide +kernel
theorem dX8_shut_17 : decode cX8_shut 17 = .ok (.iload_n 1, 1) := by decide +kernel
theorem dX8_shut_18 : decode cX8_shut 18 = .ok (.baload, 1) := by decide +kernel
theorem dX8_shut_19 : decode cX8_shut 19 = .ok (.istore_n 3, 1) := by decide +kernel
theorem dX8_shut_20 : decode cX8_shut 20 = .ok (.aload_n 0, 1) := by decide +kernel
theorem dX8_shut_21 : decode cX8_shut 21 = .ok (.getfield 54, 3) := by decide +kernel
theorem dX8_shut_24 : decode cX8_shut 24 = .ok (.getfield 152, 3) := by decide +kernel
theorem dX8_shut_27 : decode cX8_shut 27 = .ok (.iload_n 1, 1) := by decide +kernel
theorem dX8_shut_28 : decode cX8_shut 28 = .ok (.iload_n 2, 1) := by decide +kernel
theorem dX8_shut_29 : decode cX8_shut 29 = .ok (.bastore, 1) := by decide +kernel
theorem dX8_shut_30 : decode cX8_shut 30 = .ok (.iload_n 3, 1) := by decide +kernel
theorem dX8_shut_31 : decode cX8_shut 31 = .ok (.iload_n 2, 1) := by decide +kernel
theorem dX8_shut_32 : decode cX8_shut 32 = .ok (.if_icmp .ne 7, 3) := by decide +kernel
theorem dX8_shut_35 : decode cX8_shut 35 = .ok (.iconst 0, 1) := by decide +kernel
theorem dX8_shut_36 : decode cX8_shut 36 = .ok (.goto 4, 3) := by decide +kernel
theorem dX8_shut_39 : decode cX8_shut 39 = .ok (.iconst 1, 1) := by decide +kernel
theorem dX8_shut_40 : decode cX8_shut 40 = .ok (.ireturn, 1) := by decide +kernel
theorem dX8_deep_0 : decode cX8_deep 0 = .ok (.aload_n 0, 1) := by decide +kernel
theorem dX8_deep_1 : decode cX8_deep 1 = .ok (.iload_n 1, 1) := by decide +kernel
theorem dX8_deep_2 : decode cX8_deep 2 = .ok (.invokevirtual 118, 3) := by decide +kernel
theorem dX8_deep_5 : decode cX8_deep 5 = .ok (.ifCond .ne 5, 3) := by decide +kernel
theorem dX8_deep_8 : decode cX8_deep 8 = .ok (.iconst (-1), 1) := by decide +kernel
theorem dX8_deep_9 : decode cX8_deep 9 = .ok (.ireturn, 1) := by decide +kernel
theorem dX8_deep_10 : decode cX8_deep 10 = .ok (.iload_n 2, 1) := by decide +kernel
theorem dX8_deep_11 : decode cX8_deep 11 = .ok (.invokestatic 180, 3) := by decide +kernel
theorem dX8_deep_14 : decode cX8_deep 14 = .ok (.ifCond .ne 6, 3) := by decide +kernel
theorem dX8_deep_17 : decode cX8_deep 17 = .ok (.bipush (-2), 2) := by decide +kernel
theorem dX8_deep_19 : decode cX8_deep 19 = .ok (.ireturn, 1) := by decide +kernel
theorem dX8_deep_20 : decode cX8_deep 20 = .ok (.aload_n 0, 1) := by decide +kernel
theorem dX8_deep_21 : decode cX8_deep 21 = .ok (.getfield 69, 3) := by decide +kernel
theorem dX8_deep_24 : decode cX8_deep 24 = .ok (.iload_n 1, 1) := by decide +kernel
theorem dX8_deep_25 : decode cX8_deep 25 = .ok (.iload_n 2, 1) := by decide +kernel
theorem dX8_deep_26 : decode cX8_deep 26 = .ok (.invokevirtual 183, 3) := by decide +kernel
theorem dX8_deep_29 : decode cX8_deep 29 = .ok (.ireturn, 1) := by decide +kernel
theorem dX8_hour_0 : decode cX8_hour 0 = .ok (.iload_n 1, 1) := by decide +kernel
theorem dX8_hour_1 : decode cX8_hour 1 = .ok (.invokestatic 180, 3) := by decide +kernel
theorem dX8_hour_4 : decode cX8_hour 4 = .ok (.ifCond .ne 6, 3) := by decide +kernel
theorem dX8_hour_7 : decode cX8_hour 7 = .ok (.bipush (-2), 2) := by decide +kernel
theorem dX8_hour_9 : decode cX8_hour 9 = .ok (.ireturn, 1) := by decide +kernel
theorem dX8_hour_10 : decode cX8_hour 10 = .ok (.aload_n 0, 1) := by decide +kernel
theorem dX8_hour_11 : decode cX8_hour 11 = .ok (.getfield 26, 3) := by decide +kernel
theorem dX8_hour_14 : decode cX8_hour 14 = .ok (.aload_n 0, 1) := by decide +kernel
theorem dX8_hour_15 : decode cX8_hour 15 = .ok (.getfield 54, 3) := by decide +kernel
theorem dX8_hour_18 : decode cX8_hour 18 = .ok (.invokevirtual 187, 3) := by decide +kernel
theorem dX8_hour_21 : decode cX8_hour 21 = .ok (.aload_n 0, 1) := by decide +kernel
theorem dX8_hour_22 : decode cX8_hour 22 = .ok (.getfield 40, 3) := by decide +kernel
theorem dX8_hour_25 : decode cX8_hour 25 = .ok (.aload_n 0, 1) := by decide +kernel
theorem dX8_hour_26 : decode cX8_hour 26 = .ok (.getfield 69, 3) := by decide +kernel
theorem dX8_hour_29 : decode cX8_hour 29 = .ok (.aload_n 0, 1) := by decide +kernel
theorem dX8_hour_30 : decode cX8_hour 30 = .ok (.getfield 54, 3) := by decide +kernel
theorem dX8_hour_33 : decode cX8_hour 33 = .ok (.bipush (-9), 2) := by decide +kernel
theorem dX8_hour_35 : decode cX8_hour 35 = .ok (.invokevirtual 191, 3) := by decide +kernel
theorem dX8_hour_38 : decode cX8_hour 38 = .ok (.aload_n 0, 1) := by decide +kernel
theorem dX8_hour_39 : decode cX8_hour 39 = .ok (.getfield 40, 3) := by decide +kernel
theorem dX8_hour_42 : decode cX8_hour 42 = .ok (.aload_n 0, 1) := by decide +kernel
theorem dX8_hour_43 : decode cX8_hour 43 = .ok (.getfield 69, 3) := by decide +kernel
theorem dX8_hour_46 : decode cX8_hour 46 = .ok (.iload_n 1, 1) := by decide +kernel
theorem dX8_hour_47 : decode cX8_hour 47 = .ok (.invokevirtual 194, 3) := by decide +kernel
theorem dX8_hour_50 : decode cX8_hour 50 = .ok (.aload_n 0, 1) := by decide +kernel
theorem dX8_hour_51 : decode cX8_hour 51 = .ok (.getfield 54, 3) := by decide +kernel
theorem dX8_hour_54 : decode cX8_hour 54 = .ok (.aload_n 0, 1) := by decide +kernel
theorem dX8_hour_55 : decode cX8_hour 55 = .ok (.getfield 40, 3) := by decide +kernel
theorem dX8_hour_58 : decode cX8_hour 58 = .ok (.getfield 198, 3) := by decide +kernel
theorem dX8_hour_61 : decode cX8_hour 61 = .ok (.aload_n 0, 1) := by decide +kernel
theorem dX8_hour_62 : decode cX8_hour 62 = .ok (.getfield 40, 3) := by decide +kernel
theorem dX8_hour_65 : decode cX8_hour 65 = .ok (.getfield 199, 3) := by decide +kernel
theorem dX8_hour_68 : decode cX8_hour 68 = .ok (.invokevirtual 200, 3) := by decide +kernel
theorem dX8_hour_71 : decode cX8_hour 71 = .ok (.aload_n 0, 1) := by decide +kernel
theorem dX8_hour_72 : decode cX8_hour 72 = .ok (.getfield 40, 3) := by decide +kernel
theorem dX8_hour_75 : decode cX8_hour 75 = .ok (.getfield 204, 3) := by decide +kernel
theorem dX8_hour_78 : decode cX8_hour 78 = .ok (.ireturn, 1) := by decide +kernel
theorem dX8_jams_0 : decode cX8_jams 0 = .ok (.iload_n 1, 1) := by decide +kernel
theorem dX8_jams_1 : decode cX8_jams 1 = .ok (.invokestatic 180, 3) := by decide +kernel
theorem dX8_jams_4 : decode cX8_jams 4 = .ok (.ifCond .ne 6, 3) := by decide +kernel
theorem dX8_jams_7 : decode cX8_jams 7 = .ok (.bipush (-2), 2) := by decide +kernel
theorem dX8_jams_9 : decode cX8_jams 9 = .ok (.ireturn, 1) := by decide +kernel
theorem dX8_jams_10 : decode cX8_jams 10 = .ok (.aload_n 0, 1) := by decide +kernel
theorem dX8_jams_11 : decode cX8_jams 11 = .ok (.getfield 40, 3) := by decide +kernel
theorem dX8_jams_14 : decode cX8_jams 14 = .ok (.aload_n 0, 1) := by decide +kernel
theorem dX8_jams_15 : decode cX8_jams 15 = .ok (.getfield 69, 3) := by decide +kernel
theorem dX8_jams_18 : decode cX8_jams 18 = .ok (.aload_n 0, 1) := by decide +kernel
theorem dX8_jams_19 : decode cX8_jams 19 = .ok (.getfield 54, 3) := by decide +kernel
theorem dX8_jams_22 : decode cX8_jams 22 = .ok (.bipush (-9), 2) := by decide +kernel
theorem dX8_jams_24 : decode cX8_jams 24 = .ok (.invokevirtual 191, 3) := by decide +kernel
theorem dX8_jams_27 : decode cX8_jams 27 = .ok (.aload_n 0, 1) := by decide +kernel
theorem dX8_jams_28 : decode cX8_jams 28 = .ok (.getfield 40, 3) := by decide +kernel
theorem dX8_jams_31 : decode cX8_jams 31 = .ok (.aload_n 0, 1) := by decide +kernel
theorem dX8_jams_32 : decode cX8_jams 32 = .ok (.getfield 69, 3) := by decide +kernel
theorem dX8_jams_35 : decode cX8_jams 35 = .ok (.iload_n 1, 1) := by decide +kernel
theorem dX8_jams_36 : decode cX8_jams 36 = .ok (.invokevirtual 194, 3) := by decide +kernel
theorem dX8_jams_39 : decode cX8_jams 39 = .ok (.aload_n 0, 1) := by decide +kernel
theorem dX8_jams_40 : decode cX8_jams 40 = .ok (.getfield 40, 3) := by decide +kernel
theorem dX8_jams_43 : decode cX8_jams 43 = .ok (.getfield 207, 3) := by decide +kernel
theorem dX8_jams_46 : decode cX8_jams 46 = .ok (.ireturn, 1) := by decide +kernel
theorem dX8_spring_0 : decode cX8_spring 0 = .ok (.aload_n 0, 1) := by decide +kernel
theorem dX8_spring_1 : decode cX8_spring 1 = .ok (.getfield 26, 3) := by decide +kernel
theorem dX8_spring_4 : decode cX8_spring 4 = .ok (.aload_n 0, 1) := by decide +kernel
theorem dX8_spring_5 : decode cX8_spring 5 = .ok (.getfield 54, 3) := by decide +kernel
theorem dX8_spring_8 : decode cX8_spring 8 = .ok (.invokevirtual 187, 3) := by decide +kernel
theorem dX8_spring_11 : decode cX8_spring 11 = .ok (.aload_n 0, 1) := by decide +kernel
theorem dX8_spring_12 : decode cX8_spring 12 = .ok (.getfield 54, 3) := by decide +kernel
theorem dX8_spring_15 : decode cX8_spring 15 = .ok (.aload_n 0, 1) := by decide +kernel
theorem dX8_spring_16 : decode cX8_spring 16 = .ok (.getfield 69, 3) := by decide +kernel
theorem dX8_spring_19 : decode cX8_spring 19 = .ok (.getfield 101, 3) := by decide +kernel
theorem dX8_spring_22 : decode cX8_spring 22 = .ok (.invokevirtual 210, 3) := by decide +kernel
theorem dX8_spring_25 : decode cX8_spring 25 = .ok (.ireturn, 1) := by decide +kernel
theorem dX8_undo_0 : decode cX8_undo 0 = .ok (.aload_n 0, 1) := by decide +kernel
theorem dX8_undo_1 : decode cX8_undo 1 = .ok (.getfield 26, 3) := by decide +kernel
theorem dX8_undo_4 : decode cX8_undo 4 = .ok (.getfield 107, 3) := by decide +kernel
theorem dX8_undo_7 : decode cX8_undo 7 = .ok (.ifCond .ne 6, 3) := by decide +kernel
theorem dX8_undo_10 : decode cX8_undo 10 = .ok (.bipush (-3), 2) := by decide +kernel
theorem dX8_undo_12 : decode cX8_undo 12 = .ok (.ireturn, 1) := by decide +kernel
theorem dX8_undo_13 : decode cX8_undo 13 = .ok (.aload_n 0, 1) := by decide +kernel
theorem dX8_undo_14 : decode cX8_undo 14 = .ok (.getfield 26, 3) := by decide +kernel
theorem dX8_undo_17 : decode cX8_undo 17 = .ok (.aload_n 0, 1) := by decide +kernel
theorem dX8_undo_18 : decode cX8_undo 18 = .ok (.getfield 54, 3) := by decide +kernel
theorem dX8_undo_21 : decode cX8_undo 21 = .ok (.invokevirtual 213, 3) := by decide +kernel
theorem dX8_undo_24 : decode cX8_undo 24 = .ok (.aload_n 0, 1) := by decide +kernel
theorem dX8_undo_25 : decode cX8_undo 25 = .ok (.getfield 26, 3) := by decide +kernel
theorem dX8_undo_28 : decode cX8_undo 28 = .ok (.getfield 107, 3) := by decide +kernel
theorem dX8_undo_31 : decode cX8_undo 31 = .ok (.ireturn, 1) := by decide +kernel
theorem dX8_after_0 : decode cX8_after 0 = .ok (.aload_n 0, 1) := by decide +kernel
theorem dX8_after_1 : decode cX8_after 1 = .ok (.iload_n 1, 1) := by decide +kernel
theorem dX8_after_2 : decode cX8_after 2 = .ok (.invokevirtual 155, 3) := by decide +kernel
theorem dX8_after_5 : decode cX8_after 5 = .ok (.ifCond .ne 5, 3) := by decide +kernel
theorem dX8_after_8 : decode cX8_after 8 = .ok (.iconst (-1), 1) := by decide +kernel
theorem dX8_after_9 : decode cX8_after 9 = .ok (.ireturn, 1) := by decide +kernel
theorem dX8_after_10 : decode cX8_after 10 = .ok (.iload_n 2, 1) := by decide +kernel
theorem dX8_after_11 : decode cX8_after 11 = .ok (.invokestatic 180, 3) := by decide +kernel
theorem dX8_after_14 : decode cX8_after 14 = .ok (.ifCond .eq 10, 3) := by decide +kernel
theorem dX8_after_17 : decode cX8_after 17 = .ok (.iload_n 3, 1) := by decide +kernel
theorem dX8_after_18 : decode cX8_after 18 = .ok (.invokestatic 216, 3) := by decide +kernel
theorem dX8_after_21 : decode cX8_after 21 = .ok (.ifCond .ne 6, 3) := by decide +kernel
theorem dX8_after_24 : decode cX8_after 24 = .ok (.bipush (-2), 2) := by decide +kernel
theorem dX8_after_26 : decode cX8_after 26 = .ok (.ireturn, 1) := by decide +kernel
theorem dX8_after_27 : decode cX8_after 27 = .ok (.aload_n 0, 1) := by decide +kernel
theorem dX8_after_28 : decode cX8_after 28 = .ok (.getfield 40, 3) := by decide +kernel
theorem dX8_after_31 : decode cX8_after 31 = .ok (.aload_n 0, 1) := by decide +kernel
theorem dX8_after_32 : decode cX8_after 32 = .ok (.getfield 69, 3) := by decide +kernel
theorem dX8_after_35 : decode cX8_after 35 = .ok (.aload_n 0, 1) := by decide +kernel
theorem dX8_after_36 : decode cX8_after 36 = .ok (.getfield 54, 3) := by decide +kernel
theorem dX8_after_39 : decode cX8_after 39 = .ok (.bipush (-9), 2) := by decide +kernel
theorem dX8_after_41 : decode cX8_after 41 = .ok (.invokevirtual 191, 3) := by decide +kernel
theorem dX8_after_44 : decode cX8_after 44 = .ok (.aload_n 0, 1) := by decide +kernel
theorem dX8_after_45 : decode cX8_after 45 = .ok (.getfield 40, 3) := by decide +kernel
theorem dX8_after_48 : decode cX8_after 48 = .ok (.aload_n 0, 1) := by decide +kernel
theorem dX8_after_49 : decode cX8_after 49 = .ok (.getfield 69, 3) := by decide +kernel
theorem dX8_after_52 : decode cX8_after 52 = .ok (.iload_n 2, 1) := by decide +kernel
theorem dX8_after_53 : decode cX8_after 53 = .ok (.iload_n 3, 1) := by decide +kernel
theorem dX8_after_54 : decode cX8_after 54 = .ok (.invokevirtual 219, 3) := by decide +kernel
theorem dX8_after_57 : decode cX8_after 57 = .ok (.aload_n 0, 1) := by decide +kernel
theorem dX8_after_58 : decode cX8_after 58 = .ok (.getfield 40, 3) := by decide +kernel
theorem dX8_after_61 : decode cX8_after 61 = .ok (.getfield 198, 3) := by decide +kernel
theorem dX8_after_64 : decode cX8_after 64 = .ok (.iload_n 1, 1) := by decide +kernel
theorem dX8_after_65 : decode cX8_after 65 = .ok (.iaload, 1) := by decide +kernel
theorem dX8_after_66 : decode cX8_after 66 = .ok (.ireturn, 1) := by decide +kernel
theorem dX8_ties_0 : decode cX8_ties 0 = .ok (.aload_n 0, 1) := by decide +kernel
theorem dX8_ties_1 : decode cX8_ties 1 = .ok (.iload_n 1, 1) := by decide +kernel
theorem dX8_ties_2 : decode cX8_ties 2 = .ok (.invokevirtual 223, 3) := by decide +kernel
theorem dX8_ties_5 : decode cX8_ties 5 = .ok (.ifCond .eq 17, 3) := by decide +kernel
theorem dX8_ties_8 : decode cX8_ties 8 = .ok (.iload_n 2, 1) := by decide +kernel
theorem dX8_ties_9 : decode cX8_ties 9 = .ok (.invokestatic 180, 3) := by decide +kernel
theorem dX8_ties_12 : decode cX8_ties 12 = .ok (.ifCond .eq 10, 3) := by decide +kernel
theorem dX8_ties_15 : decode cX8_ties 15 = .ok (.iload_n 3, 1) := by decide +kernel
theorem dX8_ties_16 : decode cX8_ties 16 = .ok (.invokestatic 216, 3) := by decide +kernel
theorem dX8_ties_19 : decode cX8_ties 19 = .ok (.ifCond .ne 6, 3) := by decide +kernel
theorem dX8_ties_22 : decode cX8_ties 22 = .ok (.bipush (-2), 2) := by decide +kernel
theorem dX8_ties_24 : decode cX8_ties 24 = .ok (.ireturn, 1) := by decide +kernel
theorem dX8_ties_25 : decode cX8_ties 25 = .ok (.bipush (-9), 2) := by decide +kernel
theorem dX8_ties_27 : decode cX8_ties 27 = .ok (.istore 5, 2) := by decide +kernel
theorem dX8_ties_29 : decode cX8_ties 29 = .ok (.bipush (-9), 2) := by decide +kernel
theorem dX8_ties_31 : decode cX8_ties 31 = .ok (.istore 6, 2) := by decide +kernel
theorem dX8_ties_33 : decode cX8_ties 33 = .ok (.iconst 1, 1) := by decide +kernel
theorem dX8_ties_34 : decode cX8_ties 34 = .ok (.aload_n 0, 1) := by decide +kernel
theorem dX8_ties_35 : decode cX8_ties 35 = .ok (.getfield 69, 3) := by decide +kernel
theorem dX8_ties_38 : decode cX8_ties 38 = .ok (.getfield 101, 3) := by decide +kernel
theorem dX8_ties_41 : decode cX8_ties 41 = .ok (.ishl, 1) := by decide +kernel
theorem dX8_ties_42 : decode cX8_ties 42 = .ok (.istore 7, 2) := by decide +kernel
theorem dX8_ties_44 : decode cX8_ties 44 = .ok (.iconst 0, 1) := by decide +kernel
theorem dX8_ties_45 : decode cX8_ties 45 = .ok (.istore 8, 2) := by decide +kernel
theorem dX8_ties_47 : decode cX8_ties 47 = .ok (.iload 8, 2) := by decide +kernel
theorem dX8_ties_49 : decode cX8_ties 49 = .ok (.iload 7, 2) := by decide +kernel
theorem dX8_ties_51 : decode cX8_ties 51 = .ok (.if_icmp .ge 78, 3) := by decide +kernel
theorem dX8_ties_54 : decode cX8_ties 54 = .ok (.aload_n 0, 1) := by decide +kernel
theorem dX8_ties_55 : decode cX8_ties 55 = .ok (.getfield 40, 3) := by decide +kernel
theorem dX8_ties_58 : decode cX8_ties 58 = .ok (.aload_n 0, 1) := by decide +kernel
theorem dX8_ties_59 : decode cX8_ties 59 = .ok (.getfield 69, 3) := by decide +kernel
theorem dX8_ties_62 : decode cX8_ties 62 = .ok (.aload_n 0, 1) := by decide +kernel
theorem dX8_ties_63 : decode cX8_ties 63 = .ok (.getfield 54, 3) := by decide +kernel
theorem dX8_ties_66 : decode cX8_ties 66 = .ok (.bipush (-9), 2) := by decide +kernel
theorem dX8_ties_68 : decode cX8_ties 68 = .ok (.invokevirtual 191, 3) := by decide +kernel
theorem dX8_ties_71 : decode cX8_ties 71 = .ok (.aload_n 0, 1) := by decide +kernel
theorem dX8_ties_72 : decode cX8_ties 72 = .ok (.iload 8, 2) := by decide +kernel
theorem dX8_ties_74 : decode cX8_ties 74 = .ok (.iload_n 2, 1) := by decide +kernel
theorem dX8_ties_75 : decode cX8_ties 75 = .ok (.invokevirtual 226, 3) := by decide +kernel
theorem dX8_ties_78 : decode cX8_ties 78 = .ok (.istore 9, 2) := by decide +kernel
theorem dX8_ties_80 : decode cX8_ties 80 = .ok (.iload 6, 2) := by decide +kernel
theorem dX8_ties_82 : decode cX8_ties 82 = .ok (.bipush (-9), 2) := by decide +kernel
theorem dX8_ties_84 : decode cX8_ties 84 = .ok (.if_icmp .eq 10, 3) := by decide +kernel
theorem dX8_ties_87 : decode cX8_ties 87 = .ok (.iload 9, 2) := by decide +kernel
theorem dX8_ties_89 : decode cX8_ties 89 = .ok (.iload 5, 2) := by decide +kernel
theorem dX8_ties_91 : decode cX8_ties 91 = .ok (.if_icmp .ge 32, 3) := by decide +kernel
theorem dX8_ties_94 : decode cX8_ties 94 = .ok (.aload_n 0, 1) := by decide +kernel
theorem dX8_ties_95 : decode cX8_ties 95 = .ok (.getfield 40, 3) := by decide +kernel
theorem dX8_ties_98 : decode cX8_ties 98 = .ok (.aload_n 0, 1) := by decide +kernel
theorem dX8_ties_99 : decode cX8_ties 99 = .ok (.getfield 69, 3) := by decide +kernel
theorem dX8_ties_102 : decode cX8_ties 102 = .ok (.iload_n 2, 1) := by decide +kernel
theorem dX8_ties_103 : decode cX8_ties 103 = .ok (.iload_n 3, 1) := by decide +kernel
theorem dX8_ties_104 : decode cX8_ties 104 = .ok (.invokevirtual 219, 3) := by decide +kernel
theorem dX8_ties_107 : decode cX8_ties 107 = .ok (.aload_n 0, 1) := by decide +kernel
theorem dX8_ties_108 : decode cX8_ties 108 = .ok (.iload_n 1, 1) := by decide +kernel
theorem dX8_ties_109 : decode cX8_ties 109 = .ok (.invokevirtual 229, 3) := by decide +kernel
theorem dX8_ties_112 : decode cX8_ties 112 = .ok (.ifCond .eq 11, 3) := by decide +kernel
theorem dX8_ties_115 : decode cX8_ties 115 = .ok (.iload 9, 2) := by decide +kernel
theorem dX8_ties_117 : decode cX8_ties 117 = .ok (.istore 5, 2) := by decide +kernel
theorem dX8_ties_119 : decode cX8_ties 119 = .ok (.iload 8, 2) := by decide +kernel
theorem dX8_ties_121 : decode cX8_ties 121 = .ok (.istore 6, 2) := by decide +kernel
theorem dX8_ties_123 : decode cX8_ties 123 = .ok (.iinc 8 1, 3) := by decide +kernel
theorem dX8_ties_126 : decode cX8_ties 126 = .ok (.goto (-79), 3) := by decide +kernel
theorem dX8_ties_129 : decode cX8_ties 129 = .ok (.iload 4, 2) := by decide +kernel
theorem dX8_ties_131 : decode cX8_ties 131 = .ok (.ifCond .eq 8, 3) := by decide +kernel
theorem dX8_ties_134 : decode cX8_ties 134 = .ok (.iload 6, 2) := by decide +kernel
theorem dX8_ties_136 : decode cX8_ties 136 = .ok (.goto 5, 3) := by decide +kernel
theorem dX8_ties_139 : decode cX8_ties 139 = .ok (.iload 5, 2) := by decide +kernel
theorem dX8_ties_141 : decode cX8_ties 141 = .ok (.ireturn, 1) := by decide +kernel
theorem dX8_dowry_0 : decode cX8_dowry 0 = .ok (.aload_n 0, 1) := by decide +kernel
theorem dX8_dowry_1 : decode cX8_dowry 1 = .ok (.iload_n 1, 1) := by decide +kernel
theorem dX8_dowry_2 : decode cX8_dowry 2 = .ok (.invokevirtual 155, 3) := by decide +kernel
theorem dX8_dowry_5 : decode cX8_dowry 5 = .ok (.ifCond .eq 12, 3) := by decide +kernel
theorem dX8_dowry_8 : decode cX8_dowry 8 = .ok (.aload_n 0, 1) := by decide +kernel
theorem dX8_dowry_9 : decode cX8_dowry 9 = .ok (.iload 4, 2) := by decide +kernel
theorem dX8_dowry_11 : decode cX8_dowry 11 = .ok (.invokevirtual 118, 3) := by decide +kernel
theorem dX8_dowry_14 : decode cX8_dowry 14 = .ok (.ifCond .ne 5, 3) := by decide +kernel
theorem dX8_dowry_17 : decode cX8_dowry 17 = .ok (.iconst (-1), 1) := by decide +kernel
theorem dX8_dowry_18 : decode cX8_dowry 18 = .ok (.ireturn, 1) := by decide +kernel
theorem dX8_dowry_19 : decode cX8_dowry 19 = .ok (.iload_n 2, 1) := by decide +kernel
theorem dX8_dowry_20 : decode cX8_dowry 20 = .ok (.invokestatic 180, 3) := by decide +kernel
theorem dX8_dowry_23 : decode cX8_dowry 23 = .ok (.ifCond .eq 10, 3) := by decide +kernel
theorem dX8_dowry_26 : decode cX8_dowry 26 = .ok (.iload_n 3, 1) := by decide +kernel
theorem dX8_dowry_27 : decode cX8_dowry 27 = .ok (.invokestatic 216, 3) := by decide +kernel
theorem dX8_dowry_30 : decode cX8_dowry 30 = .ok (.ifCond .ne 6, 3) := by decide +kernel
theorem dX8_dowry_33 : decode cX8_dowry 33 = .ok (.bipush (-2), 2) := by decide +kernel
theorem dX8_dowry_35 : decode cX8_dowry 35 = .ok (.ireturn, 1) := by decide +kernel
theorem dX8_dowry_36 : decode cX8_dowry 36 = .ok (.iconst 0, 1) := by decide +kernel
theorem dX8_dowry_37 : decode cX8_dowry 37 = .ok (.istore 5, 2) := by decide +kernel
theorem dX8_dowry_39 : decode cX8_dowry 39 = .ok (.iload 5, 2) := by decide +kernel
theorem dX8_dowry_41 : decode cX8_dowry 41 = .ok (.aload_n 0, 1) := by decide +kernel
theorem dX8_dowry_42 : decode cX8_dowry 42 = .ok (.getfield 69, 3) := by decide +kernel
theorem dX8_dowry_45 : decode cX8_dowry 45 = .ok (.getfield 95, 3) := by decide +kernel
theorem dX8_dowry_48 : decode cX8_dowry 48 = .ok (.if_icmp .ge 67, 3) := by decide +kernel
theorem dX8_dowry_51 : decode cX8_dowry 51 = .ok (.aload_n 0, 1) := by decide +kernel
theorem dX8_dowry_52 : decode cX8_dowry 52 = .ok (.getfield 40, 3) := by decide +kernel
theorem dX8_dowry_55 : decode cX8_dowry 55 = .ok (.aload_n 0, 1) := by decide +kernel
theorem dX8_dowry_56 : decode cX8_dowry 56 = .ok (.getfield 69, 3) := by decide +kernel
theorem dX8_dowry_59 : decode cX8_dowry 59 = .ok (.aload_n 0, 1) := by decide +kernel
theorem dX8_dowry_60 : decode cX8_dowry 60 = .ok (.getfield 54, 3) := by decide +kernel
theorem dX8_dowry_63 : decode cX8_dowry 63 = .ok (.bipush (-9), 2) := by decide +kernel
theorem dX8_dowry_65 : decode cX8_dowry 65 = .ok (.invokevirtual 191, 3) := by decide +kernel
theorem dX8_dowry_68 : decode cX8_dowry 68 = .ok (.aload_n 0, 1) := by decide +kernel
theorem dX8_dowry_69 : decode cX8_dowry 69 = .ok (.getfield 40, 3) := by decide +kernel
theorem dX8_dowry_72 : decode cX8_dowry 72 = .ok (.getfield 198, 3) := by decide +kernel
theorem dX8_dowry_75 : decode cX8_dowry 75 = .ok (.iload_n 1, 1) := by decide +kernel
theorem dX8_dowry_76 : decode cX8_dowry 76 = .ok (.iload 5, 2) := by decide +kernel
theorem dX8_dowry_78 : decode cX8_dowry 78 = .ok (.iastore, 1) := by decide +kernel
theorem dX8_dowry_79 : decode cX8_dowry 79 = .ok (.aload_n 0, 1) := by decide +kernel
theorem dX8_dowry_80 : decode cX8_dowry 80 = .ok (.getfield 40, 3) := by decide +kernel
theorem dX8_dowry_83 : decode cX8_dowry 83 = .ok (.aload_n 0, 1) := by decide +kernel
theorem dX8_dowry_84 : decode cX8_dowry 84 = .ok (.getfield 69, 3) := by decide +kernel
theorem dX8_dowry_87 : decode cX8_dowry 87 = .ok (.iload_n 2, 1) := by decide +kernel
theorem dX8_dowry_88 : decode cX8_dowry 88 = .ok (.iload_n 3, 1) := by decide +kernel
theorem dX8_dowry_89 : decode cX8_dowry 89 = .ok (.invokevirtual 219, 3) := by decide +kernel
theorem dX8_dowry_92 : decode cX8_dowry 92 = .ok (.aload_n 0, 1) := by decide +kernel
theorem dX8_dowry_93 : decode cX8_dowry 93 = .ok (.getfield 40, 3) := by decide +kernel
theorem dX8_dowry_96 : decode cX8_dowry 96 = .ok (.getfield 198, 3) := by decide +kernel
theorem dX8_dowry_99 : decode cX8_dowry 99 = .ok (.iload_n 1, 1) := by decide +kernel
theorem dX8_dowry_100 : decode cX8_dowry 100 = .ok (.iaload, 1) := by decide +kernel
theorem dX8_dowry_101 : decode cX8_dowry 101 = .ok (.iload 4, 2) := by decide +kernel
theorem dX8_dowry_103 : decode cX8_dowry 103 = .ok (.if_icmp .ne 6, 3) := by decide +kernel
theorem dX8_dowry_106 : decode cX8_dowry 106 = .ok (.iload 5, 2) := by decide +kernel
theorem dX8_dowry_108 : decode cX8_dowry 108 = .ok (.ireturn, 1) := by decide +kernel
theorem dX8_dowry_109 : decode cX8_dowry 109 = .ok (.iinc 5 1, 3) := by decide +kernel
theorem dX8_dowry_112 : decode cX8_dowry 112 = .ok (.goto (-73), 3) := by decide +kernel
theorem dX8_dowry_115 : decode cX8_dowry 115 = .ok (.bipush (-9), 2) := by decide +kernel
theorem dX8_dowry_117 : decode cX8_dowry 117 = .ok (.ireturn, 1) := by decide +kernel
theorem dX8_toShut_0 : decode cX8_toShut 0 = .ok (.aload_n 0, 1) := by decide +kernel
theorem dX8_toShut_1 : decode cX8_toShut 1 = .ok (.iload_n 1, 1) := by decide +kernel
theorem dX8_toShut_2 : decode cX8_toShut 2 = .ok (.invokevirtual 118, 3) := by decide +kernel
theorem dX8_toShut_5 : decode cX8_toShut 5 = .ok (.ifCond .ne 5, 3) := by decide +kernel
theorem dX8_toShut_8 : decode cX8_toShut 8 = .ok (.iconst (-1), 1) := by decide +kernel
theorem dX8_toShut_9 : decode cX8_toShut 9 = .ok (.ireturn, 1) := by decide +kernel
theorem dX8_toShut_10 : decode cX8_toShut 10 = .ok (.iload_n 2, 1) := by decide +kernel
theorem dX8_toShut_11 : decode cX8_toShut 11 = .ok (.invokestatic 180, 3) := by decide +kernel
theorem dX8_toShut_14 : decode cX8_toShut 14 = .ok (.ifCond .eq 10, 3) := by decide +kernel
theorem dX8_toShut_17 : decode cX8_toShut 17 = .ok (.iload_n 3, 1) := by decide +kernel
theorem dX8_toShut_18 : decode cX8_toShut 18 = .ok (.invokestatic 216, 3) := by decide +kernel
theorem dX8_toShut_21 : decode cX8_toShut 21 = .ok (.ifCond .ne 6, 3) := by decide +kernel
theorem dX8_toShut_24 : decode cX8_toShut 24 = .ok (.bipush (-2), 2) := by decide +kernel
theorem dX8_toShut_26 : decode cX8_toShut 26 = .ok (.ireturn, 1) := by decide +kernel
theorem dX8_toShut_27 : decode cX8_toShut 27 = .ok (.aload_n 0, 1) := by decide +kernel
theorem dX8_toShut_28 : decode cX8_toShut 28 = .ok (.getfield 40, 3) := by decide +kernel
theorem dX8_toShut_31 : decode cX8_toShut 31 = .ok (.aload_n 0, 1) := by decide +kernel
theorem dX8_toShut_32 : decode cX8_toShut 32 = .ok (.getfield 69, 3) := by decide +kernel
theorem dX8_toShut_35 : decode cX8_toShut 35 = .ok (.aload_n 0, 1) := by decide +kernel
theorem dX8_toShut_36 : decode cX8_toShut 36 = .ok (.getfield 54, 3) := by decide +kernel
theorem dX8_toShut_39 : decode cX8_toShut 39 = .ok (.bipush (-9), 2) := by decide +kernel
theorem dX8_toShut_41 : decode cX8_toShut 41 = .ok (.invokevirtual 191, 3) := by decide +kernel
theorem dX8_toShut_44 : decode cX8_toShut 44 = .ok (.aload_n 0, 1) := by decide +kernel
theorem dX8_toShut_45 : decode cX8_toShut 45 = .ok (.getfield 40, 3) := by decide +kernel
theorem dX8_toShut_48 : decode cX8_toShut 48 = .ok (.aload_n 0, 1) := by decide +kernel
theorem dX8_toShut_49 : decode cX8_toShut 49 = .ok (.getfield 69, 3) := by decide +kernel
theorem dX8_toShut_52 : decode cX8_toShut 52 = .ok (.iload_n 2, 1) := by decide +kernel
theorem dX8_toShut_53 : decode cX8_toShut 53 = .ok (.iload_n 3, 1) := by decide +kernel
theorem dX8_toShut_54 : decode cX8_toShut 54 = .ok (.invokevirtual 219, 3) := by decide +kernel
theorem dX8_toShut_57 : decode cX8_toShut 57 = .ok (.aload_n 0, 1) := by decide +kernel
theorem dX8_toShut_58 : decode cX8_toShut 58 = .ok (.aload_n 0, 1) := by decide +kernel
theorem dX8_toShut_59 : decode cX8_toShut 59 = .ok (.getfield 40, 3) := by decide +kernel
theorem dX8_toShut_62 : decode cX8_toShut 62 = .ok (.getfield 198, 3) := by decide +kernel
theorem dX8_toShut_65 : decode cX8_toShut 65 = .ok (.iload_n 1, 1) := by decide +kernel
theorem dX8_toShut_66 : decode cX8_toShut 66 = .ok (.invokevirtual 136, 3) := by decide +kernel
theorem dX8_toShut_69 : decode cX8_toShut 69 = .ok (.istore 4, 2) := by decide +kernel
theorem dX8_toShut_71 : decode cX8_toShut 71 = .ok (.bipush (-9), 2) := by decide +kernel
theorem dX8_toShut_73 : decode cX8_toShut 73 = .ok (.istore 5, 2) := by decide +kernel
theorem dX8_toShut_75 : decode cX8_toShut 75 = .ok (.iconst 0, 1) := by decide +kernel
theorem dX8_toShut_76 : decode cX8_toShut 76 = .ok (.istore 6, 2) := by decide +kernel
theorem dX8_toShut_78 : decode cX8_toShut 78 = .ok (.iload 6, 2) := by decide +kernel
theorem dX8_toShut_80 : decode cX8_toShut 80 = .ok (.aload_n 0, 1) := by decide +kernel
theorem dX8_toShut_81 : decode cX8_toShut 81 = .ok (.getfield 69, 3) := by decide +kernel
theorem dX8_toShut_84 : decode cX8_toShut 84 = .ok (.getfield 98, 3) := by decide +kernel
theorem dX8_toShut_87 : decode cX8_toShut 87 = .ok (.if_icmp .ge 68, 3) := by decide +kernel
theorem dX8_toShut_90 : decode cX8_toShut 90 = .ok (.aload_n 0, 1) := by decide +kernel
theorem dX8_toShut_91 : decode cX8_toShut 91 = .ok (.getfield 40, 3) := by decide +kernel
theorem dX8_toShut_94 : decode cX8_toShut 94 = .ok (.aload_n 0, 1) := by decide +kernel
theorem dX8_toShut_95 : decode cX8_toShut 95 = .ok (.getfield 69, 3) := by decide +kernel
theorem dX8_toShut_98 : decode cX8_toShut 98 = .ok (.aload_n 0, 1) := by decide +kernel
theorem dX8_toShut_99 : decode cX8_toShut 99 = .ok (.getfield 54, 3) := by decide +kernel
theorem dX8_toShut_102 : decode cX8_toShut 102 = .ok (.iload 6, 2) := by decide +kernel
theorem dX8_toShut_104 : decode cX8_toShut 104 = .ok (.invokevirtual 191, 3) := by decide +kernel
theorem dX8_toShut_107 : decode cX8_toShut 107 = .ok (.aload_n 0, 1) := by decide +kernel
theorem dX8_toShut_108 : decode cX8_toShut 108 = .ok (.getfield 40, 3) := by decide +kernel
theorem dX8_toShut_111 : decode cX8_toShut 111 = .ok (.aload_n 0, 1) := by decide +kernel
theorem dX8_toShut_112 : decode cX8_toShut 112 = .ok (.getfield 69, 3) := by decide +kernel
theorem dX8_toShut_115 : decode cX8_toShut 115 = .ok (.iload_n 2, 1) := by decide +kernel
theorem dX8_toShut_116 : decode cX8_toShut 116 = .ok (.iload_n 3, 1) := by decide +kernel
theorem dX8_toShut_117 : decode cX8_toShut 117 = .ok (.invokevirtual 219, 3) := by decide +kernel
theorem dX8_toShut_120 : decode cX8_toShut 120 = .ok (.aload_n 0, 1) := by decide +kernel
theorem dX8_toShut_121 : decode cX8_toShut 121 = .ok (.aload_n 0, 1) := by decide +kernel
theorem dX8_toShut_122 : decode cX8_toShut 122 = .ok (.getfield 40, 3) := by decide +kernel
theorem dX8_toShut_125 : decode cX8_toShut 125 = .ok (.getfield 198, 3) := by decide +kernel
theorem dX8_toShut_128 : decode cX8_toShut 128 = .ok (.iload_n 1, 1) := by decide +kernel
theorem dX8_toShut_129 : decode cX8_toShut 129 = .ok (.invokevirtual 136, 3) := by decide +kernel
theorem dX8_toShut_132 : decode cX8_toShut 132 = .ok (.istore 7, 2) := by decide +kernel
theorem dX8_toShut_134 : decode cX8_toShut 134 = .ok (.iload 7, 2) := by decide +kernel
theorem dX8_toShut_136 : decode cX8_toShut 136 = .ok (.iload 4, 2) := by decide +kernel
theorem dX8_toShut_138 : decode cX8_toShut 138 = .ok (.if_icmp .le 11, 3) := by decide +kernel
theorem dX8_toShut_141 : decode cX8_toShut 141 = .ok (.iload 7, 2) := by decide +kernel
theorem dX8_toShut_143 : decode cX8_toShut 143 = .ok (.istore 4, 2) := by decide +kernel
theorem dX8_toShut_145 : decode cX8_toShut 145 = .ok (.iload 6, 2) := by decide +kernel
theorem dX8_toShut_147 : decode cX8_toShut 147 = .ok (.istore 5, 2) := by decide +kernel
theorem dX8_toShut_149 : decode cX8_toShut 149 = .ok (.iinc 6 1, 3) := by decide +kernel
theorem dX8_toShut_152 : decode cX8_toShut 152 = .ok (.goto (-74), 3) := by decide +kernel
theorem dX8_toShut_155 : decode cX8_toShut 155 = .ok (.iload 5, 2) := by decide +kernel
theorem dX8_toShut_157 : decode cX8_toShut 157 = .ok (.ireturn, 1) := by decide +kernel
theorem dX8_drawn_0 : decode cX8_drawn 0 = .ok (.aload_n 0, 1) := by decide +kernel
theorem dX8_drawn_1 : decode cX8_drawn 1 = .ok (.iload_n 1, 1) := by decide +kernel
theorem dX8_drawn_2 : decode cX8_drawn 2 = .ok (.invokevirtual 155, 3) := by decide +kernel
theorem dX8_drawn_5 : decode cX8_drawn 5 = .ok (.ifCond .eq 12, 3) := by decide +kernel
theorem dX8_drawn_8 : decode cX8_drawn 8 = .ok (.aload_n 0, 1) := by decide +kernel
theorem dX8_drawn_9 : decode cX8_drawn 9 = .ok (.iload 4, 2) := by decide +kernel
theorem dX8_drawn_11 : decode cX8_drawn 11 = .ok (.invokevirtual 118, 3) := by decide +kernel
theorem dX8_drawn_14 : decode cX8_drawn 14 = .ok (.ifCond .ne 7, 3) := by decide +kernel
theorem dX8_drawn_17 : decode cX8_drawn 17 = .ok (.ldc2_w 232, 3) := by decide +kernel
theorem dX8_drawn_20 : decode cX8_drawn 20 = .ok (.lreturn, 1) := by decide +kernel
theorem dX8_drawn_21 : decode cX8_drawn 21 = .ok (.iload_n 2, 1) := by decide +kernel
theorem dX8_drawn_22 : decode cX8_drawn 22 = .ok (.invokestatic 180, 3) := by decide +kernel
theorem dX8_drawn_25 : decode cX8_drawn 25 = .ok (.ifCond .eq 10, 3) := by decide +kernel
theorem dX8_drawn_28 : decode cX8_drawn 28 = .ok (.iload_n 3, 1) := by decide +kernel
theorem dX8_drawn_29 : decode cX8_drawn 29 = .ok (.invokestatic 216, 3) := by decide +kernel
theorem dX8_drawn_32 : decode cX8_drawn 32 = .ok (.ifCond .ne 7, 3) := by decide +kernel
theorem dX8_drawn_35 : decode cX8_drawn 35 = .ok (.ldc2_w 234, 3) := by decide +kernel
theorem dX8_drawn_38 : decode cX8_drawn 38 = .ok (.lreturn, 1) := by decide +kernel
theorem dX8_drawn_39 : decode cX8_drawn 39 = .ok (.aload_n 0, 1) := by decide +kernel
theorem dX8_drawn_40 : decode cX8_drawn 40 = .ok (.getfield 47, 3) := by decide +kernel
theorem dX8_drawn_43 : decode cX8_drawn 43 = .ok (.aload_n 0, 1) := by decide +kernel
theorem dX8_drawn_44 : decode cX8_drawn 44 = .ok (.getfield 54, 3) := by decide +kernel
theorem dX8_drawn_47 : decode cX8_drawn 47 = .ok (.getfield 133, 3) := by decide +kernel
theorem dX8_drawn_50 : decode cX8_drawn 50 = .ok (.iload_n 1, 1) := by decide +kernel
theorem dX8_drawn_51 : decode cX8_drawn 51 = .ok (.iaload, 1) := by decide +kernel
theorem dX8_drawn_52 : decode cX8_drawn 52 = .ok (.invokevirtual 236, 3) := by decide +kernel
theorem dX8_drawn_55 : decode cX8_drawn 55 = .ok (.lconst 1, 1) := by decide +kernel
theorem dX8_drawn_56 : decode cX8_drawn 56 = .ok (.lstore 6, 2) := by decide +kernel
theorem dX8_drawn_58 : decode cX8_drawn 58 = .ok (.iconst 0, 1) := by decide +kernel
theorem dX8_drawn_59 : decode cX8_drawn 59 = .ok (.istore 8, 2) := by decide +kernel
theorem dX8_drawn_61 : decode cX8_drawn 61 = .ok (.iload 8, 2) := by decide +kernel
theorem dX8_drawn_63 : decode cX8_drawn 63 = .ok (.iload_n 3, 1) := by decide +kernel
theorem dX8_drawn_64 : decode cX8_drawn 64 = .ok (.if_icmp .ge 45, 3) := by decide +kernel
theorem dX8_drawn_67 : decode cX8_drawn 67 = .ok (.aload_n 0, 1) := by decide +kernel
theorem dX8_drawn_68 : decode cX8_drawn 68 = .ok (.getfield 47, 3) := by decide +kernel
theorem dX8_drawn_71 : decode cX8_drawn 71 = .ok (.aload_n 0, 1) := by decide +kernel
theorem dX8_drawn_72 : decode cX8_drawn 72 = .ok (.getfield 69, 3) := by decide +kernel
theorem dX8_drawn_75 : decode cX8_drawn 75 = .ok (.aload_n 0, 1) := by decide +kernel
theorem dX8_drawn_76 : decode cX8_drawn 76 = .ok (.getfield 54, 3) := by decide +kernel
theorem dX8_drawn_79 : decode cX8_drawn 79 = .ok (.getfield 152, 3) := by decide +kernel
theorem dX8_drawn_82 : decode cX8_drawn 82 = .ok (.aload_n 0, 1) := by decide +kernel
theorem dX8_drawn_83 : decode cX8_drawn 83 = .ok (.getfield 69, 3) := by decide +kernel
theorem dX8_drawn_86 : decode cX8_drawn 86 = .ok (.getfield 161, 3) := by decide +kernel
theorem dX8_drawn_89 : decode cX8_drawn 89 = .ok (.iload_n 1, 1) := by decide +kernel
theorem dX8_drawn_90 : decode cX8_drawn 90 = .ok (.iaload, 1) := by decide +kernel
theorem dX8_drawn_91 : decode cX8_drawn 91 = .ok (.iload_n 2, 1) := by decide +kernel
theorem dX8_drawn_92 : decode cX8_drawn 92 = .ok (.invokevirtual 239, 3) := by decide +kernel
theorem dX8_drawn_95 : decode cX8_drawn 95 = .ok (.lload 6, 2) := by decide +kernel
theorem dX8_drawn_97 : decode cX8_drawn 97 = .ok (.ldc2_w 243, 3) := by decide +kernel
theorem dX8_drawn_100 : decode cX8_drawn 100 = .ok (.lmul, 1) := by decide +kernel
theorem dX8_drawn_101 : decode cX8_drawn 101 = .ok (.lstore 6, 2) := by decide +kernel
theorem dX8_drawn_103 : decode cX8_drawn 103 = .ok (.iinc 8 1, 3) := by decide +kernel
theorem dX8_drawn_106 : decode cX8_drawn 106 = .ok (.goto (-45), 3) := by decide +kernel
theorem dX8_drawn_109 : decode cX8_drawn 109 = .ok (.aload_n 0, 1) := by decide +kernel
theorem dX8_drawn_110 : decode cX8_drawn 110 = .ok (.getfield 47, 3) := by decide +kernel
theorem dX8_drawn_113 : decode cX8_drawn 113 = .ok (.getfield 245, 3) := by decide +kernel
theorem dX8_drawn_116 : decode cX8_drawn 116 = .ok (.iload 4, 2) := by decide +kernel
theorem dX8_drawn_118 : decode cX8_drawn 118 = .ok (.laload, 1) := by decide +kernel
theorem dX8_drawn_119 : decode cX8_drawn 119 = .ok (.lstore 8, 2) := by decide +kernel
theorem dX8_drawn_121 : decode cX8_drawn 121 = .ok (.lload 8, 2) := by decide +kernel
theorem dX8_drawn_123 : decode cX8_drawn 123 = .ok (.lload 6, 2) := by decide +kernel
theorem dX8_drawn_125 : decode cX8_drawn 125 = .ok (.iconst 2, 1) := by decide +kernel
theorem dX8_drawn_126 : decode cX8_drawn 126 = .ok (.invokestatic 249, 3) := by decide +kernel
theorem dX8_drawn_129 : decode cX8_drawn 129 = .ok (.lload 8, 2) := by decide +kernel
theorem dX8_drawn_131 : decode cX8_drawn 131 = .ok (.lload 6, 2) := by decide +kernel
theorem dX8_drawn_133 : decode cX8_drawn 133 = .ok (.iconst 5, 1) := by decide +kernel
theorem dX8_drawn_134 : decode cX8_drawn 134 = .ok (.invokestatic 249, 3) := by decide +kernel
theorem dX8_drawn_137 : decode cX8_drawn 137 = .ok (.lmul, 1) := by decide +kernel
theorem dX8_drawn_138 : decode cX8_drawn 138 = .ok (.lstore 10, 2) := by decide +kernel
theorem dX8_drawn_140 : decode cX8_drawn 140 = .ok (.iload 5, 2) := by decide +kernel
theorem dX8_drawn_142 : decode cX8_drawn 142 = .ok (.ifCond .eq 11, 3) := by decide +kernel
theorem dX8_drawn_145 : decode cX8_drawn 145 = .ok (.lload 8, 2) := by decide +kernel
theorem dX8_drawn_147 : decode cX8_drawn 147 = .ok (.lload 10, 2) := by decide +kernel
theorem dX8_drawn_149 : decode cX8_drawn 149 = .ok (.ldiv, 1) := by decide +kernel
theorem dX8_drawn_150 : decode cX8_drawn 150 = .ok (.goto 8, 3) := by decide +kernel
theorem dX8_drawn_153 : decode cX8_drawn 153 = .ok (.lload 6, 2) := by decide +kernel
theorem dX8_drawn_155 : decode cX8_drawn 155 = .ok (.lload 10, 2) := by decide +kernel
theorem dX8_drawn_157 : decode cX8_drawn 157 = .ok (.ldiv, 1) := by decide +kernel
theorem dX8_drawn_158 : decode cX8_drawn 158 = .ok (.lreturn, 1) := by decide +kernel
theorem dX8_goesFrom_0 : decode cX8_goesFrom 0 = .ok (.aload_n 0, 1) := by decide +kernel
theorem dX8_goesFrom_1 : decode cX8_goesFrom 1 = .ok (.iload_n 1, 1) := by decide +kernel
theorem dX8_goesFrom_2 : decode cX8_goesFrom 2 = .ok (.invokevirtual 155, 3) := by decide +kernel
theorem dX8_goesFrom_5 : decode cX8_goesFrom 5 = .ok (.ifCond .ne 5, 3) := by decide +kernel
theorem dX8_goesFrom_8 : decode cX8_goesFrom 8 = .ok (.iconst (-1), 1) := by decide +kernel
theorem dX8_goesFrom_9 : decode cX8_goesFrom 9 = .ok (.ireturn, 1) := by decide +kernel
theorem dX8_goesFrom_10 : decode cX8_goesFrom 10 = .ok (.aload_n 0, 1) := by decide +kernel
theorem dX8_goesFrom_11 : decode cX8_goesFrom 11 = .ok (.getfield 40, 3) := by decide +kernel
theorem dX8_goesFrom_14 : decode cX8_goesFrom 14 = .ok (.aload_n 0, 1) := by decide +kernel
theorem dX8_goesFrom_15 : decode cX8_goesFrom 15 = .ok (.getfield 69, 3) := by decide +kernel
theorem dX8_goesFrom_18 : decode cX8_goesFrom 18 = .ok (.aload_n 0, 1) := by decide +kernel
theorem dX8_goesFrom_19 : decode cX8_goesFrom 19 = .ok (.getfield 54, 3) := by decide +kernel
theorem dX8_goesFrom_22 : decode cX8_goesFrom 22 = .ok (.bipush (-9), 2) := by decide +kernel
theorem dX8_goesFrom_24 : decode cX8_goesFrom 24 = .ok (.invokevirtual 191, 3) := by decide +kernel
theorem dX8_goesFrom_27 : decode cX8_goesFrom 27 = .ok (.aload_n 0, 1) := by decide +kernel
theorem dX8_goesFrom_28 : decode cX8_goesFrom 28 = .ok (.getfield 40, 3) := by decide +kernel
theorem dX8_goesFrom_31 : decode cX8_goesFrom 31 = .ok (.getfield 253, 3) := by decide +kernel
theorem dX8_goesFrom_34 : decode cX8_goesFrom 34 = .ok (.aload_n 0, 1) := by decide +kernel
theorem dX8_goesFrom_35 : decode cX8_goesFrom 35 = .ok (.getfield 54, 3) := by decide +kernel
theorem dX8_goesFrom_38 : decode cX8_goesFrom 38 = .ok (.getfield 133, 3) := by decide +kernel
theorem dX8_goesFrom_41 : decode cX8_goesFrom 41 = .ok (.iload_n 1, 1) := by decide +kernel
theorem dX8_goesFrom_42 : decode cX8_goesFrom 42 = .ok (.iaload, 1) := by decide +kernel
theorem dX8_goesFrom_43 : decode cX8_goesFrom 43 = .ok (.iaload, 1) := by decide +kernel
theorem dX8_goesFrom_44 : decode cX8_goesFrom 44 = .ok (.bipush (-9), 2) := by decide +kernel
theorem dX8_goesFrom_46 : decode cX8_goesFrom 46 = .ok (.if_icmp .ne 6, 3) := by decide +kernel
theorem dX8_goesFrom_49 : decode cX8_goesFrom 49 = .ok (.bipush (-9), 2) := by decide +kernel
theorem dX8_goesFrom_51 : decode cX8_goesFrom 51 = .ok (.ireturn, 1) := by decide +kernel
theorem dX8_goesFrom_52 : decode cX8_goesFrom 52 = .ok (.iconst 0, 1) := by decide +kernel
theorem dX8_goesFrom_53 : decode cX8_goesFrom 53 = .ok (.istore_n 2, 1) := by decide +kernel
theorem dX8_goesFrom_54 : decode cX8_goesFrom 54 = .ok (.iload_n 2, 1) := by decide +kernel
theorem dX8_goesFrom_55 : decode cX8_goesFrom 55 = .ok (.bipush 19, 2) := by decide +kernel
theorem dX8_goesFrom_57 : decode cX8_goesFrom 57 = .ok (.if_icmp .gt 27, 3) := by decide +kernel
theorem dX8_goesFrom_60 : decode cX8_goesFrom 60 = .ok (.aload_n 0, 1) := by decide +kernel
theorem dX8_goesFrom_61 : decode cX8_goesFrom 61 = .ok (.getfield 40, 3) := by decide +kernel
theorem dX8_goesFrom_64 : decode cX8_goesFrom 64 = .ok (.aload_n 0, 1) := by decide +kernel
theorem dX8_goesFrom_65 : decode cX8_goesFrom 65 = .ok (.getfield 69, 3) := by decide +kernel
theorem dX8_goesFrom_68 : decode cX8_goesFrom 68 = .ok (.iload_n 1, 1) := by decide +kernel
theorem dX8_goesFrom_69 : decode cX8_goesFrom 69 = .ok (.iload_n 2, 1) := by decide +kernel
theorem dX8_goesFrom_70 : decode cX8_goesFrom 70 = .ok (.invokevirtual 256, 3) := by decide +kernel
theorem dX8_goesFrom_73 : decode cX8_goesFrom 73 = .ok (.ifCond .eq 5, 3) := by decide +kernel
theorem dX8_goesFrom_76 : decode cX8_goesFrom 76 = .ok (.iload_n 2, 1) := by decide +kernel
theorem dX8_goesFrom_77 : decode cX8_goesFrom 77 = .ok (.ireturn, 1) := by decide +kernel
theorem dX8_goesFrom_78 : decode cX8_goesFrom 78 = .ok (.iinc 2 1, 3) := by decide +kernel
theorem dX8_goesFrom_81 : decode cX8_goesFrom 81 = .ok (.goto (-27), 3) := by decide +kernel
theorem dX8_goesFrom_84 : decode cX8_goesFrom 84 = .ok (.bipush (-9), 2) := by decide +kernel
theorem dX8_goesFrom_86 : decode cX8_goesFrom 86 = .ok (.ireturn, 1) := by decide +kernel
theorem dX8_mark_0 : decode cX8_mark 0 = .ok (.aload_n 0, 1) := by decide +kernel
theorem dX8_mark_1 : decode cX8_mark 1 = .ok (.iload_n 2, 1) := by decide +kernel
theorem dX8_mark_2 : decode cX8_mark 2 = .ok (.invokevirtual 118, 3) := by decide +kernel
theorem dX8_mark_5 : decode cX8_mark 5 = .ok (.ifCond .ne 5, 3) := by decide +kernel
theorem dX8_mark_8 : decode cX8_mark 8 = .ok (.iconst (-1), 1) := by decide +kernel
theorem dX8_mark_9 : decode cX8_mark 9 = .ok (.ireturn, 1) := by decide +kernel
theorem dX8_mark_10 : decode cX8_mark 10 = .ok (.iload_n 1, 1) := by decide +kernel
theorem dX8_mark_11 : decode cX8_mark 11 = .ok (.iconst 1, 1) := by decide +kernel
theorem dX8_mark_12 : decode cX8_mark 12 = .ok (.if_icmp .lt 9, 3) := by decide +kernel
theorem dX8_mark_15 : decode cX8_mark 15 = .ok (.iload_n 1, 1) := by decide +kernel
theorem dX8_mark_16 : decode cX8_mark 16 = .ok (.bipush 9, 2) := by decide +kernel
theorem dX8_mark_18 : decode cX8_mark 18 = .ok (.if_icmp .le 6, 3) := by decide +kernel
theorem dX8_mark_21 : decode cX8_mark 21 = .ok (.bipush (-2), 2) := by decide +kernel
theorem dX8_mark_23 : decode cX8_mark 23 = .ok (.ireturn, 1) := by decide +kernel
theorem dX8_mark_24 : decode cX8_mark 24 = .ok (.aload_n 0, 1) := by decide +kernel
theorem dX8_mark_25 : decode cX8_mark 25 = .ok (.getfield 33, 3) := by decide +kernel
theorem dX8_mark_28 : decode cX8_mark 28 = .ok (.getfield 117, 3) := by decide +kernel
theorem dX8_mark_31 : decode cX8_mark 31 = .ok (.bipush 8, 2) := by decide +kernel
theorem dX8_mark_33 : decode cX8_mark 33 = .ok (.if_icmp .lt 6, 3) := by decide +kernel
theorem dX8_mark_36 : decode cX8_mark 36 = .ok (.bipush (-4), 2) := by decide +kernel
theorem dX8_mark_38 : decode cX8_mark 38 = .ok (.ireturn, 1) := by decide +kernel
theorem dX8_mark_39 : decode cX8_mark 39 = .ok (.aload_n 0, 1) := by decide +kernel
theorem dX8_mark_40 : decode cX8_mark 40 = .ok (.getfield 33, 3) := by decide +kernel
theorem dX8_mark_43 : decode cX8_mark 43 = .ok (.iload_n 1, 1) := by decide +kernel
theorem dX8_mark_44 : decode cX8_mark 44 = .ok (.iload_n 2, 1) := by decide +kernel
theorem dX8_mark_45 : decode cX8_mark 45 = .ok (.invokevirtual 260, 3) := by decide +kernel
theorem dX8_mark_48 : decode cX8_mark 48 = .ok (.aload_n 0, 1) := by decide +kernel
theorem dX8_mark_49 : decode cX8_mark 49 = .ok (.getfield 33, 3) := by decide +kernel
theorem dX8_mark_52 : decode cX8_mark 52 = .ok (.getfield 117, 3) := by decide +kernel
theorem dX8_mark_55 : decode cX8_mark 55 = .ok (.ireturn, 1) := by decide +kernel
theorem dX8_unmark_0 : decode cX8_unmark 0 = .ok (.aload_n 0, 1) := by decide +kernel
theorem dX8_unmark_1 : decode cX8_unmark 1 = .ok (.getfield 33, 3) := by decide +kernel
theorem dX8_unmark_4 : decode cX8_unmark 4 = .ok (.getfield 117, 3) := by decide +kernel
theorem dX8_unmark_7 : decode cX8_unmark 7 = .ok (.istore_n 1, 1) := by decide +kernel
theorem dX8_unmark_8 : decode cX8_unmark 8 = .ok (.aload_n 0, 1) := by decide +kernel
theorem dX8_unmark_9 : decode cX8_unmark 9 = .ok (.getfield 33, 3) := by decide +kernel
theorem dX8_unmark_12 : decode cX8_unmark 12 = .ok (.iconst 0, 1) := by decide +kernel
theorem dX8_unmark_13 : decode cX8_unmark 13 = .ok (.putfield 117, 3) := by decide +kernel
theorem dX8_unmark_16 : decode cX8_unmark 16 = .ok (.iload_n 1, 1) := by decide +kernel
theorem dX8_unmark_17 : decode cX8_unmark 17 = .ok (.ireturn, 1) := by decide +kernel
theorem dX8_rows_0 : decode cX8_rows 0 = .ok (.aload_n 0, 1) := by decide +kernel
theorem dX8_rows_1 : decode cX8_rows 1 = .ok (.iload_n 2, 1) := by decide +kernel
theorem dX8_rows_2 : decode cX8_rows 2 = .ok (.invokevirtual 118, 3) := by decide +kernel
theorem dX8_rows_5 : decode cX8_rows 5 = .ok (.ifCond .ne 7, 3) := by decide +kernel
theorem dX8_rows_8 : decode cX8_rows 8 = .ok (.ldc2_w 232, 3) := by decide +kernel
theorem dX8_rows_11 : decode cX8_rows 11 = .ok (.lreturn, 1) := by decide +kernel
theorem dX8_rows_12 : decode cX8_rows 12 = .ok (.iload_n 1, 1) := by decide +kernel
theorem dX8_rows_13 : decode cX8_rows 13 = .ok (.invokestatic 264, 3) := by decide +kernel
theorem dX8_rows_16 : decode cX8_rows 16 = .ok (.ifCond .ne 7, 3) := by decide +kernel
theorem dX8_rows_19 : decode cX8_rows 19 = .ok (.ldc2_w 234, 3) := by decide +kernel
theorem dX8_rows_22 : decode cX8_rows 22 = .ok (.lreturn, 1) := by decide +kernel
theorem dX8_rows_23 : decode cX8_rows 23 = .ok (.aload_n 0, 1) := by decide +kernel
theorem dX8_rows_24 : decode cX8_rows 24 = .ok (.iload_n 1, 1) := by decide +kernel
theorem dX8_rows_25 : decode cX8_rows 25 = .ok (.iload_n 2, 1) := by decide +kernel
theorem dX8_rows_26 : decode cX8_rows 26 = .ok (.invokevirtual 267, 3) := by decide +kernel
theorem dX8_rows_29 : decode cX8_rows 29 = .ok (.lconst 0, 1) := by decide +kernel
theorem dX8_rows_30 : decode cX8_rows 30 = .ok (.lstore_n 3, 1) := by decide +kernel
theorem dX8_rows_31 : decode cX8_rows 31 = .ok (.iconst 0, 1) := by decide +kernel
theorem dX8_rows_32 : decode cX8_rows 32 = .ok (.istore 5, 2) := by decide +kernel
theorem dX8_rows_34 : decode cX8_rows 34 = .ok (.iload 5, 2) := by decide +kernel
theorem dX8_rows_36 : decode cX8_rows 36 = .ok (.aload_n 0, 1) := by decide +kernel
theorem dX8_rows_37 : decode cX8_rows 37 = .ok (.getfield 69, 3) := by decide +kernel
theorem dX8_rows_40 : decode cX8_rows 40 = .ok (.getfield 95, 3) := by decide +kernel
theorem dX8_rows_43 : decode cX8_rows 43 = .ok (.if_icmp .ge 22, 3) := by decide +kernel
theorem dX8_rows_46 : decode cX8_rows 46 = .ok (.lload_n 3, 1) := by decide +kernel
theorem dX8_rows_47 : decode cX8_rows 47 = .ok (.aload_n 0, 1) := by decide +kernel
theorem dX8_rows_48 : decode cX8_rows 48 = .ok (.getfield 47, 3) := by decide +kernel
theorem dX8_rows_51 : decode cX8_rows 51 = .ok (.getfield 245, 3) := by decide +kernel
theorem dX8_rows_54 : decode cX8_rows 54 = .ok (.iload 5, 2) := by decide +kernel
theorem dX8_rows_56 : decode cX8_rows 56 = .ok (.laload, 1) := by decide +kernel
theorem dX8_rows_57 : decode cX8_rows 57 = .ok (.ladd, 1) := by decide +kernel
theorem dX8_rows_58 : decode cX8_rows 58 = .ok (.lstore_n 3, 1) := by decide +kernel
theorem dX8_rows_59 : decode cX8_rows 59 = .ok (.iinc 5 1, 3) := by decide +kernel
theorem dX8_rows_62 : decode cX8_rows 62 = .ok (.goto (-28), 3) := by decide +kernel
theorem dX8_rows_65 : decode cX8_rows 65 = .ok (.lload_n 3, 1) := by decide +kernel
theorem dX8_rows_66 : decode cX8_rows 66 = .ok (.lreturn, 1) := by decide +kernel
theorem dX8_ends_0 : decode cX8_ends 0 = .ok (.aload_n 0, 1) := by decide +kernel
theorem dX8_ends_1 : decode cX8_ends 1 = .ok (.iload_n 2, 1) := by decide +kernel
theorem dX8_ends_2 : decode cX8_ends 2 = .ok (.invokevirtual 118, 3) := by decide +kernel
theorem dX8_ends_5 : decode cX8_ends 5 = .ok (.ifCond .ne 5, 3) := by decide +kernel
theorem dX8_ends_8 : decode cX8_ends 8 = .ok (.iconst (-1), 1) := by decide +kernel
theorem dX8_ends_9 : decode cX8_ends 9 = .ok (.ireturn, 1) := by decide +kernel
theorem dX8_ends_10 : decode cX8_ends 10 = .ok (.iload_n 1, 1) := by decide +kernel
theorem dX8_ends_11 : decode cX8_ends 11 = .ok (.invokestatic 264, 3) := by decide +kernel
theorem dX8_ends_14 : decode cX8_ends 14 = .ok (.ifCond .ne 6, 3) := by decide +kernel
theorem dX8_ends_17 : decode cX8_ends 17 = .ok (.bipush (-2), 2) := by decide +kernel
theorem dX8_ends_19 : decode cX8_ends 19 = .ok (.ireturn, 1) := by decide +kernel
theorem dX8_ends_20 : decode cX8_ends 20 = .ok (.aload_n 0, 1) := by decide +kernel
theorem dX8_ends_21 : decode cX8_ends 21 = .ok (.iload_n 1, 1) := by decide +kernel
theorem dX8_ends_22 : decode cX8_ends 22 = .ok (.iload_n 2, 1) := by decide +kernel
theorem dX8_ends_23 : decode cX8_ends 23 = .ok (.invokevirtual 267, 3) := by decide +kernel
theorem dX8_ends_26 : decode cX8_ends 26 = .ok (.iconst 0, 1) := by decide +kernel
theorem dX8_ends_27 : decode cX8_ends 27 = .ok (.istore_n 3, 1) := by decide +kernel
theorem dX8_ends_28 : decode cX8_ends 28 = .ok (.iconst 0, 1) := by decide +kernel
theorem dX8_ends_29 : decode cX8_ends 29 = .ok (.istore 4, 2) := by decide +kernel
theorem dX8_ends_31 : decode cX8_ends 31 = .ok (.iload 4, 2) := by decide +kernel
theorem dX8_ends_33 : decode cX8_ends 33 = .ok (.aload_n 0, 1) := by decide +kernel
theorem dX8_ends_34 : decode cX8_ends 34 = .ok (.getfield 69, 3) := by decide +kernel
theorem dX8_ends_37 : decode cX8_ends 37 = .ok (.getfield 95, 3) := by decide +kernel
theorem dX8_ends_40 : decode cX8_ends 40 = .ok (.if_icmp .ge 31, 3) := by decide +kernel
theorem dX8_ends_43 : decode cX8_ends 43 = .ok (.aload_n 0, 1) := by decide +kernel
theorem dX8_ends_44 : decode cX8_ends 44 = .ok (.getfield 47, 3) := by decide +kernel
theorem dX8_ends_47 : decode cX8_ends 47 = .ok (.getfield 245, 3) := by decide +kernel
theorem dX8_ends_50 : decode cX8_ends 50 = .ok (.iload 4, 2) := by decide +kernel
theorem dX8_ends_52 : decode cX8_ends 52 = .ok (.laload, 1) := by decide +kernel
theorem dX8_ends_53 : decode cX8_ends 53 = .ok (.lconst 0, 1) := by decide +kernel
theorem dX8_ends_54 : decode cX8_ends 54 = .ok (.lcmp, 1) := by decide +kernel
theorem dX8_ends_55 : decode cX8_ends 55 = .ok (.ifCond .le 10, 3) := by decide +kernel
theorem dX8_ends_58 : decode cX8_ends 58 = .ok (.iload_n 3, 1) := by decide +kernel
theorem dX8_ends_59 : decode cX8_ends 59 = .ok (.iconst 1, 1) := by decide +kernel
theorem dX8_ends_60 : decode cX8_ends 60 = .ok (.iload 4, 2) := by decide +kernel
theorem dX8_ends_62 : decode cX8_ends 62 = .ok (.ishl, 1) := by decide +kernel
theorem dX8_ends_63 : decode cX8_ends 63 = .ok (.ior, 1) := by decide +kernel
theorem dX8_ends_64 : decode cX8_ends 64 = .ok (.istore_n 3, 1) := by decide +kernel
theorem dX8_ends_65 : decode cX8_ends 65 = .ok (.iinc 4 1, 3) := by decide +kernel
theorem dX8_ends_68 : decode cX8_ends 68 = .ok (.goto (-37), 3) := by decide +kernel
theorem dX8_ends_71 : decode cX8_ends 71 = .ok (.iload_n 3, 1) := by decide +kernel
theorem dX8_ends_72 : decode cX8_ends 72 = .ok (.ireturn, 1) := by decide +kernel
theorem dX8_keep_0 : decode cX8_keep 0 = .ok (.iload_n 1, 1) := by decide +kernel
theorem dX8_keep_1 : decode cX8_keep 1 = .ok (.ifCond .lt 8, 3) := by decide +kernel
theorem dX8_keep_4 : decode cX8_keep 4 = .ok (.iload_n 1, 1) := by decide +kernel
theorem dX8_keep_5 : decode cX8_keep 5 = .ok (.iconst 2, 1) := by decide +kernel
theorem dX8_keep_6 : decode cX8_keep 6 = .ok (.if_icmp .lt 5, 3) := by decide +kernel
theorem dX8_keep_9 : decode cX8_keep 9 = .ok (.iconst (-1), 1) := by decide +kernel
theorem dX8_keep_10 : decode cX8_keep 10 = .ok (.ireturn, 1) := by decide +kernel
theorem dX8_keep_11 : decode cX8_keep 11 = .ok (.aload_n 0, 1) := by decide +kernel
theorem dX8_keep_12 : decode cX8_keep 12 = .ok (.getfield 58, 3) := by decide +kernel
theorem dX8_keep_15 : decode cX8_keep 15 = .ok (.iload_n 1, 1) := by decide +kernel
theorem dX8_keep_16 : decode cX8_keep 16 = .ok (.aaload, 1) := by decide +kernel
theorem dX8_keep_17 : decode cX8_keep 17 = .ok (.aload_n 0, 1) := by decide +kernel
theorem dX8_keep_18 : decode cX8_keep 18 = .ok (.getfield 54, 3) := by decide +kernel
theorem dX8_keep_21 : decode cX8_keep 21 = .ok (.invokevirtual 270, 3) := by decide +kernel
theorem dX8_keep_24 : decode cX8_keep 24 = .ok (.aload_n 0, 1) := by decide +kernel
theorem dX8_keep_25 : decode cX8_keep 25 = .ok (.getfield 62, 3) := by decide +kernel
theorem dX8_keep_28 : decode cX8_keep 28 = .ok (.iload_n 1, 1) := by decide +kernel
theorem dX8_keep_29 : decode cX8_keep 29 = .ok (.iconst 1, 1) := by decide +kernel
theorem dX8_keep_30 : decode cX8_keep 30 = .ok (.bastore, 1) := by decide +kernel
theorem dX8_keep_31 : decode cX8_keep 31 = .ok (.aload_n 0, 1) := by decide +kernel
theorem dX8_keep_32 : decode cX8_keep 32 = .ok (.getfield 54, 3) := by decide +kernel
theorem dX8_keep_35 : decode cX8_keep 35 = .ok (.getfield 104, 3) := by decide +kernel
theorem dX8_keep_38 : decode cX8_keep 38 = .ok (.ireturn, 1) := by decide +kernel
theorem dX8_again_0 : decode cX8_again 0 = .ok (.iload_n 1, 1) := by decide +kernel
theorem dX8_again_1 : decode cX8_again 1 = .ok (.ifCond .lt 8, 3) := by decide +kernel
theorem dX8_again_4 : decode cX8_again 4 = .ok (.iload_n 1, 1) := by decide +kernel
theorem dX8_again_5 : decode cX8_again 5 = .ok (.iconst 2, 1) := by decide +kernel
theorem dX8_again_6 : decode cX8_again 6 = .ok (.if_icmp .lt 5, 3) := by decide +kernel
theorem dX8_again_9 : decode cX8_again 9 = .ok (.iconst (-1), 1) := by decide +kernel
theorem dX8_again_10 : decode cX8_again 10 = .ok (.ireturn, 1) := by decide +kernel
theorem dX8_again_11 : decode cX8_again 11 = .ok (.aload_n 0, 1) := by decide +kernel
theorem dX8_again_12 : decode cX8_again 12 = .ok (.getfield 62, 3) := by decide +kernel
theorem dX8_again_15 : decode cX8_again 15 = .ok (.iload_n 1, 1) := by decide +kernel
theorem dX8_again_16 : decode cX8_again 16 = .ok (.baload, 1) := by decide +kernel
theorem dX8_again_17 : decode cX8_again 17 = .ok (.ifCond .ne 6, 3) := by decide +kernel
theorem dX8_again_20 : decode cX8_again 20 = .ok (.bipush (-3), 2) := by decide +kernel
theorem dX8_again_22 : decode cX8_again 22 = .ok (.ireturn, 1) := by decide +kernel
theorem dX8_again_23 : decode cX8_again 23 = .ok (.aload_n 0, 1) := by decide +kernel
theorem dX8_again_24 : decode cX8_again 24 = .ok (.getfield 54, 3) := by decide +kernel
theorem dX8_again_27 : decode cX8_again 27 = .ok (.aload_n 0, 1) := by decide +kernel
theorem dX8_again_28 : decode cX8_again 28 = .ok (.getfield 58, 3) := by decide +kernel
theorem dX8_again_31 : decode cX8_again 31 = .ok (.iload_n 1, 1) := by decide +kernel
theorem dX8_again_32 : decode cX8_again 32 = .ok (.aaload, 1) := by decide +kernel
theorem dX8_again_33 : decode cX8_again 33 = .ok (.invokevirtual 270, 3) := by decide +kernel
theorem dX8_again_36 : decode cX8_again 36 = .ok (.aload_n 0, 1) := by decide +kernel
theorem dX8_again_37 : decode cX8_again 37 = .ok (.getfield 26, 3) := by decide +kernel
theorem dX8_again_40 : decode cX8_again 40 = .ok (.invokevirtual 92, 3) := by decide +kernel
theorem dX8_again_43 : decode cX8_again 43 = .ok (.aload_n 0, 1) := by decide +kernel
theorem dX8_again_44 : decode cX8_again 44 = .ok (.getfield 54, 3) := by decide +kernel
theorem dX8_again_47 : decode cX8_again 47 = .ok (.getfield 104, 3) := by decide +kernel
theorem dX8_again_50 : decode cX8_again 50 = .ok (.ireturn, 1) := by decide +kernel
theorem dX8_isHouse_0 : decode cX8_isHouse 0 = .ok (.iload_n 1, 1) := by decide +kernel
theorem dX8_isHouse_1 : decode cX8_isHouse 1 = .ok (.ifCond .lt 18, 3) := by decide +kernel
theorem dX8_isHouse_4 : decode cX8_isHouse 4 = .ok (.iload_n 1, 1) := by decide +kernel
theorem dX8_isHouse_5 : decode cX8_isHouse 5 = .ok (.aload_n 0, 1) := by decide +kernel
theorem dX8_isHouse_6 : decode cX8_isHouse 6 = .ok (.getfield 69, 3) := by decide +kernel
theorem dX8_isHouse_9 : decode cX8_isHouse 9 = .ok (.getfield 95, 3) := by decide +kernel
theorem dX8_isHouse_12 : decode cX8_isHouse 12 = .ok (.if_icmp .ge 7, 3) := by decide +kernel
theorem dX8_isHouse_15 : decode cX8_isHouse 15 = .ok (.iconst 1, 1) := by decide +kernel
theorem dX8_isHouse_16 : decode cX8_isHouse 16 = .ok (.goto 4, 3) := by decide +kernel
theorem dX8_isHouse_19 : decode cX8_isHouse 19 = .ok (.iconst 0, 1) := by decide +kernel
theorem dX8_isHouse_20 : decode cX8_isHouse 20 = .ok (.ireturn, 1) := by decide +kernel
theorem dX8_isStream_0 : decode cX8_isStream 0 = .ok (.iload_n 1, 1) := by decide +kernel
theorem dX8_isStream_1 : decode cX8_isStream 1 = .ok (.ifCond .lt 18, 3) := by decide +kernel
theorem dX8_isStream_4 : decode cX8_isStream 4 = .ok (.iload_n 1, 1) := by decide +kernel
theorem dX8_isStream_5 : decode cX8_isStream 5 = .ok (.aload_n 0, 1) := by decide +kernel
theorem dX8_isStream_6 : decode cX8_isStream 6 = .ok (.getfield 69, 3) := by decide +kernel
theorem dX8_isStream_9 : decode cX8_isStream 9 = .ok (.getfield 98, 3) := by decide +kernel
theorem dX8_isStream_12 : decode cX8_isStream 12 = .ok (.if_icmp .ge 7, 3) := by decide +kernel
theorem dX8_isStream_15 : decode cX8_isStream 15 = .ok (.iconst 1, 1) := by decide +kernel
theorem dX8_isStream_16 : decode cX8_isStream 16 = .ok (.goto 4, 3) := by decide +kernel
theorem dX8_isStream_19 : decode cX8_isStream 19 = .ok (.iconst 0, 1) := by decide +kernel
theorem dX8_isStream_20 : decode cX8_isStream 20 = .ok (.ireturn, 1) := by decide +kernel
theorem dX8_isPiece_0 : decode cX8_isPiece 0 = .ok (.iload_n 1, 1) := by decide +kernel
theorem dX8_isPiece_1 : decode cX8_isPiece 1 = .ok (.ifCond .lt 18, 3) := by decide +kernel
theorem dX8_isPiece_4 : decode cX8_isPiece 4 = .ok (.iload_n 1, 1) := by decide +kernel
theorem dX8_isPiece_5 : decode cX8_isPiece 5 = .ok (.aload_n 0, 1) := by decide +kernel
theorem dX8_isPiece_6 : decode cX8_isPiece 6 = .ok (.getfield 69, 3) := by decide +kernel
theorem dX8_isPiece_9 : decode cX8_isPiece 9 = .ok (.getfield 101, 3) := by decide +kernel
theorem dX8_isPiece_12 : decode cX8_isPiece 12 = .ok (.if_icmp .ge 7, 3) := by decide +kernel
theorem dX8_isPiece_15 : decode cX8_isPiece 15 = .ok (.iconst 1, 1) := by decide +kernel
theorem dX8_isPiece_16 : decode cX8_isPiece 16 = .ok (.goto 4, 3) := by decide +kernel
theorem dX8_isPiece_19 : decode cX8_isPiece 19 = .ok (.iconst 0, 1) := by decide +kernel
theorem dX8_isPiece_20 : decode cX8_isPiece 20 = .ok (.ireturn, 1) := by decide +kernel
theorem dX8_arePieces_0 : decode cX8_arePieces 0 = .ok (.iload_n 1, 1) := by decide +kernel
theorem dX8_arePieces_1 : decode cX8_arePieces 1 = .ok (.ifCond .lt 20, 3) := by decide +kernel
theorem dX8_arePieces_4 : decode cX8_arePieces 4 = .ok (.iload_n 1, 1) := by decide +kernel
theorem dX8_arePieces_5 : decode cX8_arePieces 5 = .ok (.iconst 1, 1) := by decide +kernel
theorem dX8_arePieces_6 : decode cX8_arePieces 6 = .ok (.aload_n 0, 1) := by decide +kernel
theorem dX8_arePieces_7 : decode cX8_arePieces 7 = .ok (.getfield 69, 3) := by decide +kernel
theorem dX8_arePieces_10 : decode cX8_arePieces 10 = .ok (.getfield 101, 3) := by decide +kernel
theorem dX8_arePieces_13 : decode cX8_arePieces 13 = .ok (.ishl, 1) := by decide +kernel
theorem dX8_arePieces_14 : decode cX8_arePieces 14 = .ok (.if_icmp .ge 7, 3) := by decide +kernel
theorem dX8_arePieces_17 : decode cX8_arePieces 17 = .ok (.iconst 1, 1) := by decide +kernel
theorem dX8_arePieces_18 : decode cX8_arePieces 18 = .ok (.goto 4, 3) := by decide +kernel
theorem dX8_arePieces_21 : decode cX8_arePieces 21 = .ok (.iconst 0, 1) := by decide +kernel
theorem dX8_arePieces_22 : decode cX8_arePieces 22 = .ok (.ireturn, 1) := by decide +kernel
theorem dX8_isLevel_0 : decode cX8_isLevel 0 = .ok (.iload_n 0, 1) := by decide +kernel
theorem dX8_isLevel_1 : decode cX8_isLevel 1 = .ok (.ifCond .lt 13, 3) := by decide +kernel
theorem dX8_isLevel_4 : decode cX8_isLevel 4 = .ok (.iload_n 0, 1) := by decide +kernel
theorem dX8_isLevel_5 : decode cX8_isLevel 5 = .ok (.bipush 19, 2) := by decide +kernel
theorem dX8_isLevel_7 : decode cX8_isLevel 7 = .ok (.if_icmp .gt 7, 3) := by decide +kernel
theorem dX8_isLevel_10 : decode cX8_isLevel 10 = .ok (.iconst 1, 1) := by decide +kernel
theorem dX8_isLevel_11 : decode cX8_isLevel 11 = .ok (.goto 4, 3) := by decide +kernel
theorem dX8_isLevel_14 : decode cX8_isLevel 14 = .ok (.iconst 0, 1) := by decide +kernel
theorem dX8_isLevel_15 : decode cX8_isLevel 15 = .ok (.ireturn, 1) := by decide +kernel
theorem dX8_areHours_0 : decode cX8_areHours 0 = .ok (.iload_n 0, 1) := by decide +kernel
theorem dX8_areHours_1 : decode cX8_areHours 1 = .ok (.iconst 1, 1) := by decide +kernel
theorem dX8_areHours_2 : decode cX8_areHours 2 = .ok (.if_icmp .lt 13, 3) := by decide +kernel
theorem dX8_areHours_5 : decode cX8_areHours 5 = .ok (.iload_n 0, 1) := by decide +kernel
theorem dX8_areHours_6 : decode cX8_areHours 6 = .ok (.bipush 9, 2) := by decide +kernel
theorem dX8_areHours_8 : decode cX8_areHours 8 = .ok (.if_icmp .gt 7, 3) := by decide +kernel
theorem dX8_areHours_11 : decode cX8_areHours 11 = .ok (.iconst 1, 1) := by decide +kernel
theorem dX8_areHours_12 : decode cX8_areHours 12 = .ok (.goto 4, 3) := by decide +kernel
theorem dX8_areHours_15 : decode cX8_areHours 15 = .ok (.iconst 0, 1) := by decide +kernel
theorem dX8_areHours_16 : decode cX8_areHours 16 = .ok (.ireturn, 1) := by decide +kernel
theorem dX8_areSprings_0 : decode cX8_areSprings 0 = .ok (.iload_n 0, 1) := by decide +kernel
theorem dX8_areSprings_1 : decode cX8_areSprings 1 = .ok (.ifCond .lt 13, 3) := by decide +kernel
theorem dX8_areSprings_4 : decode cX8_areSprings 4 = .ok (.iload_n 0, 1) := by decide +kernel
theorem dX8_areSprings_5 : decode cX8_areSprings 5 = .ok (.bipush 9, 2) := by decide +kernel
theorem dX8_areSprings_7 : decode cX8_areSprings 7 = .ok (.if_icmp .gt 7, 3) := by decide +kernel
theorem dX8_areSprings_10 : decode cX8_areSprings 10 = .ok (.iconst 1, 1) := by decide +kernel
theorem dX8_areSprings_11 : decode cX8_areSprings 11 = .ok (.goto 4, 3) := by decide +kernel
theorem dX8_areSprings_14 : decode cX8_areSprings 14 = .ok (.iconst 0, 1) := by decide +kernel
theorem dX8_areSprings_15 : decode cX8_areSprings 15 = .ok (.ireturn, 1) := by decide +kernel
theorem dX8_piecesIn_0 : decode cX8_piecesIn 0 = .ok (.iconst 0, 1) := by decide +kernel
theorem dX8_piecesIn_1 : decode cX8_piecesIn 1 = .ok (.istore_n 2, 1) := by decide +kernel
theorem dX8_piecesIn_2 : decode cX8_piecesIn 2 = .ok (.iconst 0, 1) := by decide +kernel
theorem dX8_piecesIn_3 : decode cX8_piecesIn 3 = .ok (.istore_n 3, 1) := by decide +kernel
theorem dX8_piecesIn_4 : decode cX8_piecesIn 4 = .ok (.iload_n 3, 1) := by decide +kernel
theorem dX8_piecesIn_5 : decode cX8_piecesIn 5 = .ok (.aload_n 0, 1) := by decide +kernel
theorem dX8_piecesIn_6 : decode cX8_piecesIn 6 = .ok (.getfield 69, 3) := by decide +kernel
theorem dX8_piecesIn_9 : decode cX8_piecesIn 9 = .ok (.getfield 101, 3) := by decide +kernel
theorem dX8_piecesIn_12 : decode cX8_piecesIn 12 = .ok (.if_icmp .ge 28, 3) := by decide +kernel
theorem dX8_piecesIn_15 : decode cX8_piecesIn 15 = .ok (.aload_n 0, 1) := by decide +kernel
theorem dX8_piecesIn_16 : decode cX8_piecesIn 16 = .ok (.getfield 54, 3) := by decide +kernel
theorem dX8_piecesIn_19 : decode cX8_piecesIn 19 = .ok (.getfield 133, 3) := by decide +kernel
theorem dX8_piecesIn_22 : decode cX8_piecesIn 22 = .ok (.iload_n 3, 1) := by decide +kernel
theorem dX8_piecesIn_23 : decode cX8_piecesIn 23 = .ok (.iaload, 1) := by decide +kernel
theorem dX8_piecesIn_24 : decode cX8_piecesIn 24 = .ok (.iload_n 1, 1) := by decide +kernel
theorem dX8_piecesIn_25 : decode cX8_piecesIn 25 = .ok (.if_icmp .ne 9, 3) := by decide +kernel
theorem dX8_piecesIn_28 : decode cX8_piecesIn 28 = .ok (.iload_n 2, 1) := by decide +kernel
theorem dX8_piecesIn_29 : decode cX8_piecesIn 29 = .ok (.iconst 1, 1) := by decide +kernel
theorem dX8_piecesIn_30 : decode cX8_piecesIn 30 = .ok (.iload_n 3, 1) := by decide +kernel
theorem dX8_piecesIn_31 : decode cX8_piecesIn 31 = .ok (.ishl, 1) := by decide +kernel
theorem dX8_piecesIn_32 : decode cX8_piecesIn 32 = .ok (.ior, 1) := by decide +kernel
theorem dX8_piecesIn_33 : decode cX8_piecesIn 33 = .ok (.istore_n 2, 1) := by decide +kernel
theorem dX8_piecesIn_34 : decode cX8_piecesIn 34 = .ok (.iinc 3 1, 3) := by decide +kernel
theorem dX8_piecesIn_37 : decode cX8_piecesIn 37 = .ok (.goto (-33), 3) := by decide +kernel
theorem dX8_piecesIn_40 : decode cX8_piecesIn 40 = .ok (.iload_n 2, 1) := by decide +kernel
theorem dX8_piecesIn_41 : decode cX8_piecesIn 41 = .ok (.ireturn, 1) := by decide +kernel
theorem dX8_widthOf_0 : decode cX8_widthOf 0 = .ok (.iconst 0, 1) := by decide +kernel
theorem dX8_widthOf_1 : decode cX8_widthOf 1 = .ok (.istore_n 3, 1) := by decide +kernel
theorem dX8_widthOf_2 : decode cX8_widthOf 2 = .ok (.iconst 0, 1) := by decide +kernel
theorem dX8_widthOf_3 : decode cX8_widthOf 3 = .ok (.istore 4, 2) := by decide +kernel
theorem dX8_widthOf_5 : decode cX8_widthOf 5 = .ok (.iload 4, 2) := by decide +kernel
theorem dX8_widthOf_7 : decode cX8_widthOf 7 = .ok (.aload_n 0, 1) := by decide +kernel
theorem dX8_widthOf_8 : decode cX8_widthOf 8 = .ok (.getfield 69, 3) := by decide +kernel
theorem dX8_widthOf_11 : decode cX8_widthOf 11 = .ok (.getfield 101, 3) := by decide +kernel
theorem dX8_widthOf_14 : decode cX8_widthOf 14 = .ok (.if_icmp .ge 30, 3) := by decide +kernel
theorem dX8_widthOf_17 : decode cX8_widthOf 17 = .ok (.aload_n 1, 1) := by decide +kernel
theorem dX8_widthOf_18 : decode cX8_widthOf 18 = .ok (.iload 4, 2) := by decide +kernel
theorem dX8_widthOf_20 : decode cX8_widthOf 20 = .ok (.iaload, 1) := by decide +kernel
theorem dX8_widthOf_21 : decode cX8_widthOf 21 = .ok (.iload_n 2, 1) := by decide +kernel
theorem dX8_widthOf_22 : decode cX8_widthOf 22 = .ok (.if_icmp .ne 16, 3) := by decide +kernel
theorem dX8_widthOf_25 : decode cX8_widthOf 25 = .ok (.iload_n 3, 1) := by decide +kernel
theorem dX8_widthOf_26 : decode cX8_widthOf 26 = .ok (.aload_n 0, 1) := by decide +kernel
theorem dX8_widthOf_27 : decode cX8_widthOf 27 = .ok (.getfield 69, 3) := by decide +kernel
theorem dX8_widthOf_30 : decode cX8_widthOf 30 = .ok (.getfield 158, 3) := by decide +kernel
theorem dX8_widthOf_33 : decode cX8_widthOf 33 = .ok (.iload 4, 2) := by decide +kernel
theorem dX8_widthOf_35 : decode cX8_widthOf 35 = .ok (.iaload, 1) := by decide +kernel
theorem dX8_widthOf_36 : decode cX8_widthOf 36 = .ok (.iadd, 1) := by decide +kernel
theorem dX8_widthOf_37 : decode cX8_widthOf 37 = .ok (.istore_n 3, 1) := by decide +kernel
theorem dX8_widthOf_38 : decode cX8_widthOf 38 = .ok (.iinc 4 1, 3) := by decide +kernel
theorem dX8_widthOf_41 : decode cX8_widthOf 41 = .ok (.goto (-36), 3) := by decide +kernel
theorem dX8_widthOf_44 : decode cX8_widthOf 44 = .ok (.iload_n 3, 1) := by decide +kernel
theorem dX8_widthOf_45 : decode cX8_widthOf 45 = .ok (.ireturn, 1) := by decide +kernel
theorem dX8_tieAll_0 : decode cX8_tieAll 0 = .ok (.iconst 0, 1) := by decide +kernel
theorem dX8_tieAll_1 : decode cX8_tieAll 1 = .ok (.istore_n 3, 1) := by decide +kernel
theorem dX8_tieAll_2 : decode cX8_tieAll 2 = .ok (.iconst 0, 1) := by decide +kernel
theorem dX8_tieAll_3 : decode cX8_tieAll 3 = .ok (.istore 4, 2) := by decide +kernel
theorem dX8_tieAll_5 : decode cX8_tieAll 5 = .ok (.iload 4, 2) := by decide +kernel
theorem dX8_tieAll_7 : decode cX8_tieAll 7 = .ok (.aload_n 0, 1) := by decide +kernel
theorem dX8_tieAll_8 : decode cX8_tieAll 8 = .ok (.getfield 69, 3) := by decide +kernel
theorem dX8_tieAll_11 : decode cX8_tieAll 11 = .ok (.getfield 101, 3) := by decide +kernel
theorem dX8_tieAll_14 : decode cX8_tieAll 14 = .ok (.if_icmp .ge 61, 3) := by decide +kernel
theorem dX8_tieAll_17 : decode cX8_tieAll 17 = .ok (.iload_n 1, 1) := by decide +kernel
theorem dX8_tieAll_18 : decode cX8_tieAll 18 = .ok (.iload 4, 2) := by decide +kernel
theorem dX8_tieAll_20 : decode cX8_tieAll 20 = .ok (.ishr, 1) := by decide +kernel
theorem dX8_tieAll_21 : decode cX8_tieAll 21 = .ok (.iconst 1, 1) := by decide +kernel
theorem dX8_tieAll_22 : decode cX8_tieAll 22 = .ok (.iand, 1) := by decide +kernel
theorem dX8_tieAll_23 : decode cX8_tieAll 23 = .ok (.iconst 1, 1) := by decide +kernel
theorem dX8_tieAll_24 : decode cX8_tieAll 24 = .ok (.if_icmp .ne 45, 3) := by decide +kernel
theorem dX8_tieAll_27 : decode cX8_tieAll 27 = .ok (.aload_n 0, 1) := by decide +kernel
theorem dX8_tieAll_28 : decode cX8_tieAll 28 = .ok (.getfield 69, 3) := by decide +kernel
theorem dX8_tieAll_31 : decode cX8_tieAll 31 = .ok (.aload_n 0, 1) := by decide +kernel
theorem dX8_tieAll_32 : decode cX8_tieAll 32 = .ok (.getfield 40, 3) := by decide +kernel
theorem dX8_tieAll_35 : decode cX8_tieAll 35 = .ok (.getfield 198, 3) := by decide +kernel
theorem dX8_tieAll_38 : decode cX8_tieAll 38 = .ok (.iload 4, 2) := by decide +kernel
theorem dX8_tieAll_40 : decode cX8_tieAll 40 = .ok (.iaload, 1) := by decide +kernel
theorem dX8_tieAll_41 : decode cX8_tieAll 41 = .ok (.iload_n 2, 1) := by decide +kernel
theorem dX8_tieAll_42 : decode cX8_tieAll 42 = .ok (.invokevirtual 183, 3) := by decide +kernel
theorem dX8_tieAll_45 : decode cX8_tieAll 45 = .ok (.bipush 9, 2) := by decide +kernel
theorem dX8_tieAll_47 : decode cX8_tieAll 47 = .ok (.invokestatic 273, 3) := by decide +kernel
theorem dX8_tieAll_50 : decode cX8_tieAll 50 = .ok (.istore 5, 2) := by decide +kernel
theorem dX8_tieAll_52 : decode cX8_tieAll 52 = .ok (.aload_n 0, 1) := by decide +kernel
theorem dX8_tieAll_53 : decode cX8_tieAll 53 = .ok (.getfield 40, 3) := by decide +kernel
theorem dX8_tieAll_56 : decode cX8_tieAll 56 = .ok (.getfield 199, 3) := by decide +kernel
theorem dX8_tieAll_59 : decode cX8_tieAll 59 = .ok (.iload 4, 2) := by decide +kernel
theorem dX8_tieAll_61 : decode cX8_tieAll 61 = .ok (.iload 5, 2) := by decide +kernel
theorem dX8_tieAll_63 : decode cX8_tieAll 63 = .ok (.iastore, 1) := by decide +kernel
theorem dX8_tieAll_64 : decode cX8_tieAll 64 = .ok (.iload_n 3, 1) := by decide +kernel
theorem dX8_tieAll_65 : decode cX8_tieAll 65 = .ok (.iload 5, 2) := by decide +kernel
theorem dX8_tieAll_67 : decode cX8_tieAll 67 = .ok (.iadd, 1) := by decide +kernel
theorem dX8_tieAll_68 : decode cX8_tieAll 68 = .ok (.istore_n 3, 1) := by decide +kernel
theorem dX8_tieAll_69 : decode cX8_tieAll 69 = .ok (.iinc 4 1, 3) := by decide +kernel
theorem dX8_tieAll_72 : decode cX8_tieAll 72 = .ok (.goto (-67), 3) := by decide +kernel
theorem dX8_tieAll_75 : decode cX8_tieAll 75 = .ok (.iload_n 3, 1) := by decide +kernel
theorem dX8_tieAll_76 : decode cX8_tieAll 76 = .ok (.ireturn, 1) := by decide +kernel
theorem dX8_areWhereTheyWere_0 : decode cX8_areWhereTheyWere 0 = .ok (.iconst 0, 1) := by decide +kernel
theorem dX8_areWhereTheyWere_1 : decode cX8_areWhereTheyWere 1 = .ok (.istore_n 2, 1) := by decide +kernel
theorem dX8_areWhereTheyWere_2 : decode cX8_areWhereTheyWere 2 = .ok (.iload_n 2, 1) := by decide +kernel
theorem dX8_areWhereTheyWere_3 : decode cX8_areWhereTheyWere 3 = .ok (.aload_n 0, 1) := by decide +kernel
theorem dX8_areWhereTheyWere_4 : decode cX8_areWhereTheyWere 4 = .ok (.getfield 69, 3) := by decide +kernel
theorem dX8_areWhereTheyWere_7 : decode cX8_areWhereTheyWere 7 = .ok (.getfield 101, 3) := by decide +kernel
theorem dX8_areWhereTheyWere_10 : decode cX8_areWhereTheyWere 10 = .ok (.if_icmp .ge 41, 3) := by decide +kernel
theorem dX8_areWhereTheyWere_13 : decode cX8_areWhereTheyWere 13 = .ok (.iload_n 1, 1) := by decide +kernel
theorem dX8_areWhereTheyWere_14 : decode cX8_areWhereTheyWere 14 = .ok (.iload_n 2, 1) := by decide +kernel
theorem dX8_areWhereTheyWere_15 : decode cX8_areWhereTheyWere 15 = .ok (.ishr, 1) := by decide +kernel
theorem dX8_areWhereTheyWere_16 : decode cX8_areWhereTheyWere 16 = .ok (.iconst 1, 1) := by decide +kernel
theorem dX8_areWhereTheyWere_17 : decode cX8_areWhereTheyWere 17 = .ok (.iand, 1) := by decide +kernel
theorem dX8_areWhereTheyWere_18 : decode cX8_areWhereTheyWere 18 = .ok (.iconst 1, 1) := by decide +kernel
theorem dX8_areWhereTheyWere_19 : decode cX8_areWhereTheyWere 19 = .ok (.if_icmp .ne 26, 3) := by decide +kernel
theorem dX8_areWhereTheyWere_22 : decode cX8_areWhereTheyWere 22 = .ok (.aload_n 0, 1) := by decide +kernel
theorem dX8_areWhereTheyWere_23 : decode cX8_areWhereTheyWere 23 = .ok (.getfield 40, 3) := by decide +kernel
theorem dX8_areWhereTheyWere_26 : decode cX8_areWhereTheyWere 26 = .ok (.getfield 198, 3) := by decide +kernel
theorem dX8_areWhereTheyWere_29 : decode cX8_areWhereTheyWere 29 = .ok (.iload_n 2, 1) := by decide +kernel
theorem dX8_areWhereTheyWere_30 : decode cX8_areWhereTheyWere 30 = .ok (.iaload, 1) := by decide +kernel
theorem dX8_areWhereTheyWere_31 : decode cX8_areWhereTheyWere 31 = .ok (.aload_n 0, 1) := by decide +kernel
theorem dX8_areWhereTheyWere_32 : decode cX8_areWhereTheyWere 32 = .ok (.getfield 54, 3) := by decide +kernel
theorem dX8_areWhereTheyWere_35 : decode cX8_areWhereTheyWere 35 = .ok (.getfield 133, 3) := by decide +kernel
theorem dX8_areWhereTheyWere_38 : decode cX8_areWhereTheyWere 38 = .ok (.iload_n 2, 1) := by decide +kernel
theorem dX8_areWhereTheyWere_39 : decode cX8_areWhereTheyWere 39 = .ok (.iaload, 1) := by decide +kernel
theorem dX8_areWhereTheyWere_40 : decode cX8_areWhereTheyWere 40 = .ok (.if_icmp .eq 5, 3) := by decide +kernel
theorem dX8_areWhereTheyWere_43 : decode cX8_areWhereTheyWere 43 = .ok (.iconst 0, 1) := by decide +kernel
theorem dX8_areWhereTheyWere_44 : decode cX8_areWhereTheyWere 44 = .ok (.ireturn, 1) := by decide +kernel
theorem dX8_areWhereTheyWere_45 : decode cX8_areWhereTheyWere 45 = .ok (.iinc 2 1, 3) := by decide +kernel
theorem dX8_areWhereTheyWere_48 : decode cX8_areWhereTheyWere 48 = .ok (.goto (-46), 3) := by decide +kernel
theorem dX8_areWhereTheyWere_51 : decode cX8_areWhereTheyWere 51 = .ok (.iconst 1, 1) := by decide +kernel
theorem dX8_areWhereTheyWere_52 : decode cX8_areWhereTheyWere 52 = .ok (.ireturn, 1) := by decide +kernel
theorem dX8_spreadRows_0 : decode cX8_spreadRows 0 = .ok (.aload_n 0, 1) := by decide +kernel
theorem dX8_spreadRows_1 : decode cX8_spreadRows 1 = .ok (.getfield 47, 3) := by decide +kernel
theorem dX8_spreadRows_4 : decode cX8_spreadRows 4 = .ok (.iload_n 2, 1) := by decide +kernel
theorem dX8_spreadRows_5 : decode cX8_spreadRows 5 = .ok (.invokevirtual 236, 3) := by decide +kernel
theorem dX8_spreadRows_8 : decode cX8_spreadRows 8 = .ok (.iconst 1, 1) := by decide +kernel
theorem dX8_spreadRows_9 : decode cX8_spreadRows 9 = .ok (.istore_n 3, 1) := by decide +kernel
theorem dX8_spreadRows_10 : decode cX8_spreadRows 10 = .ok (.iload_n 3, 1) := by decide +kernel
theorem dX8_spreadRows_11 : decode cX8_spreadRows 11 = .ok (.iload_n 1, 1) := by decide +kernel
theorem dX8_spreadRows_12 : decode cX8_spreadRows 12 = .ok (.if_icmp .gt 32, 3) := by decide +kernel
theorem dX8_spreadRows_15 : decode cX8_spreadRows 15 = .ok (.aload_n 0, 1) := by decide +kernel
theorem dX8_spreadRows_16 : decode cX8_spreadRows 16 = .ok (.getfield 47, 3) := by decide +kernel
theorem dX8_spreadRows_19 : decode cX8_spreadRows 19 = .ok (.aload_n 0, 1) := by decide +kernel
theorem dX8_spreadRows_20 : decode cX8_spreadRows 20 = .ok (.getfield 69, 3) := by decide +kernel
theorem dX8_spreadRows_23 : decode cX8_spreadRows 23 = .ok (.invokevirtual 278, 3) := by decide +kernel
theorem dX8_spreadRows_26 : decode cX8_spreadRows 26 = .ok (.aload_n 0, 1) := by decide +kernel
theorem dX8_spreadRows_27 : decode cX8_spreadRows 27 = .ok (.getfield 47, 3) := by decide +kernel
theorem dX8_spreadRows_30 : decode cX8_spreadRows 30 = .ok (.aload_n 0, 1) := by decide +kernel
theorem dX8_spreadRows_31 : decode cX8_spreadRows 31 = .ok (.getfield 33, 3) := by decide +kernel
theorem dX8_spreadRows_34 : decode cX8_spreadRows 34 = .ok (.iload_n 3, 1) := by decide +kernel
theorem dX8_spreadRows_35 : decode cX8_spreadRows 35 = .ok (.invokevirtual 281, 3) := by decide +kernel
theorem dX8_spreadRows_38 : decode cX8_spreadRows 38 = .ok (.iinc 3 1, 3) := by decide +kernel
theorem dX8_spreadRows_41 : decode cX8_spreadRows 41 = .ok (.goto (-31), 3) := by decide +kernel
theorem dX8_spreadRows_44 : decode cX8_spreadRows 44 = .ok (.return_, 1) := by decide +kernel
theorem dX8_commonPower_0 : decode cX8_commonPower 0 = .ok (.lconst 1, 1) := by decide +kernel
theorem dX8_commonPower_1 : decode cX8_commonPower 1 = .ok (.lstore 5, 2) := by decide +kernel
theorem dX8_commonPower_3 : decode cX8_commonPower 3 = .ok (.iconst 0, 1) := by decide +kernel
theorem dX8_commonPower_4 : decode cX8_commonPower 4 = .ok (.istore 7, 2) := by decide +kernel
theorem dX8_commonPower_6 : decode cX8_commonPower 6 = .ok (.iload 7, 2) := by decide +kernel
theorem dX8_commonPower_8 : decode cX8_commonPower 8 = .ok (.bipush 9, 2) := by decide +kernel
theorem dX8_commonPower_10 : decode cX8_commonPower 10 = .ok (.if_icmp .ge 42, 3) := by decide +kernel
theorem dX8_commonPower_13 : decode cX8_commonPower 13 = .ok (.lload 5, 2) := by decide +kernel
theorem dX8_commonPower_15 : decode cX8_commonPower 15 = .ok (.iload 4, 2) := by decide +kernel
theorem dX8_commonPower_17 : decode cX8_commonPower 17 = .ok (.i2l, 1) := by decide +kernel
theorem dX8_commonPower_18 : decode cX8_commonPower 18 = .ok (.lmul, 1) := by decide +kernel
theorem dX8_commonPower_19 : decode cX8_commonPower 19 = .ok (.lstore 8, 2) := by decide +kernel
theorem dX8_commonPower_21 : decode cX8_commonPower 21 = .ok (.lload_n 0, 1) := by decide +kernel
theorem dX8_commonPower_22 : decode cX8_commonPower 22 = .ok (.lload 8, 2) := by decide +kernel
theorem dX8_commonPower_24 : decode cX8_commonPower 24 = .ok (.lrem, 1) := by decide +kernel
theorem dX8_commonPower_25 : decode cX8_commonPower 25 = .ok (.lconst 0, 1) := by decide +kernel
theorem dX8_commonPower_26 : decode cX8_commonPower 26 = .ok (.lcmp, 1) := by decide +kernel
theorem dX8_commonPower_27 : decode cX8_commonPower 27 = .ok (.ifCond .ne 12, 3) := by decide +kernel
theorem dX8_commonPower_30 : decode cX8_commonPower 30 = .ok (.lload_n 2, 1) := by decide +kernel
theorem dX8_commonPower_31 : decode cX8_commonPower 31 = .ok (.lload 8, 2) := by decide +kernel
theorem dX8_commonPower_33 : decode cX8_commonPower 33 = .ok (.lrem, 1) := by decide +kernel
theorem dX8_commonPower_34 : decode cX8_commonPower 34 = .ok (.lconst 0, 1) := by decide +kernel
theorem dX8_commonPower_35 : decode cX8_commonPower 35 = .ok (.lcmp, 1) := by decide +kernel
theorem dX8_commonPower_36 : decode cX8_commonPower 36 = .ok (.ifCond .eq 6, 3) := by decide +kernel
theorem dX8_commonPower_39 : decode cX8_commonPower 39 = .ok (.lload 5, 2) := by decide +kernel
theorem dX8_commonPower_41 : decode cX8_commonPower 41 = .ok (.lreturn, 1) := by decide +kernel
theorem dX8_commonPower_42 : decode cX8_commonPower 42 = .ok (.lload 8, 2) := by decide +kernel
theorem dX8_commonPower_44 : decode cX8_commonPower 44 = .ok (.lstore 5, 2) := by decide +kernel
theorem dX8_commonPower_46 : decode cX8_commonPower 46 = .ok (.iinc 7 1, 3) := by decide +kernel
theorem dX8_commonPower_49 : decode cX8_commonPower 49 = .ok (.goto (-43), 3) := by decide +kernel
theorem dX8_commonPower_52 : decode cX8_commonPower 52 = .ok (.lload 5, 2) := by decide +kernel
theorem dX8_commonPower_54 : decode cX8_commonPower 54 = .ok (.lreturn, 1) := by decide +kernel
