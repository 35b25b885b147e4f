theorem dX0_init_0 : decode cX0_init 0 = .ok (.aload_n 0, 1) := by decide +kernel
theorem dX0_init_1 : decode cX0_init 1 = .ok (.invokespecial 3, 3) := by decide +kernel
theorem dX0_init_4 : decode cX0_init 4 = .ok (.aload_n 0, 1) := by decide +kernel
theorem dX0_init_5 : decode cX0_init 5 = .ok (.bipush 40, 2) := by decide +kernel
theorem dX0_init_7 : decode cX0_init 7 = .ok (.newarray .int, 2) := by decide +kernel
theorem dX0_init_9 : decode cX0_init 9 = .ok (.putfield 9, 3) := by decide +kernel
theorem dX0_init_12 : decode cX0_init 12 = .ok (.return_, 1) := by decide +kernel
theorem dX0_isMissing_0 : decode cX0_isMissing 0 = .ok (.aload_n 0, 1) := by decide +kernel
theorem dX0_isMissing_1 : decode cX0_isMissing 1 = .ok (.getfield 15, 3) := by decide +kernel
theorem dX0_isMissing_4 : decode cX0_isMissing 4 = .ok (.ifCond .ne 7, 3) := by decide +kernel
theorem dX0_isMissing_7 : decode cX0_isMissing 7 = .ok (.iconst 1, 1) := by decide +kernel
theorem dX0_isMissing_8 : decode cX0_isMissing 8 = .ok (.goto 4, 3) := by decide +kernel
theorem dX0_isMissing_11 : decode cX0_isMissing 11 = .ok (.iconst 0, 1) := by decide +kernel
theorem dX0_isMissing_12 : decode cX0_isMissing 12 = .ok (.ireturn, 1) := by decide +kernel
theorem dX0_begin_0 : decode cX0_begin 0 = .ok (.aload_n 0, 1) := by decide +kernel
theorem dX0_begin_1 : decode cX0_begin 1 = .ok (.iload_n 1, 1) := by decide +kernel
theorem dX0_begin_2 : decode cX0_begin 2 = .ok (.putfield 15, 3) := by decide +kernel
theorem dX0_begin_5 : decode cX0_begin 5 = .ok (.aload_n 0, 1) := by decide +kernel
theorem dX0_begin_6 : decode cX0_begin 6 = .ok (.iload_n 2, 1) := by decide +kernel
theorem dX0_begin_7 : decode cX0_begin 7 = .ok (.putfield 19, 3) := by decide +kernel
theorem dX0_begin_10 : decode cX0_begin 10 = .ok (.iconst 0, 1) := by decide +kernel
theorem dX0_begin_11 : decode cX0_begin 11 = .ok (.istore_n 3, 1) := by decide +kernel
theorem dX0_begin_12 : decode cX0_begin 12 = .ok (.iload_n 3, 1) := by decide +kernel
theorem dX0_begin_13 : decode cX0_begin 13 = .ok (.aload_n 0, 1) := by decide +kernel
theorem dX0_begin_14 : decode cX0_begin 14 = .ok (.getfield 9, 3) := by decide +kernel
theorem dX0_begin_17 : decode cX0_begin 17 = .ok (.arraylength, 1) := by decide +kernel
theorem dX0_begin_18 : decode cX0_begin 18 = .ok (.if_icmp .ge 16, 3) := by decide +kernel
theorem dX0_begin_21 : decode cX0_begin 21 = .ok (.aload_n 0, 1) := by decide +kernel
theorem dX0_begin_22 : decode cX0_begin 22 = .ok (.getfield 9, 3) := by decide +kernel
theorem dX0_begin_25 : decode cX0_begin 25 = .ok (.iload_n 3, 1) := by decide +kernel
theorem dX0_begin_26 : decode cX0_begin 26 = .ok (.iconst 0, 1) := by decide +kernel
theorem dX0_begin_27 : decode cX0_begin 27 = .ok (.iastore, 1) := by decide +kernel
theorem dX0_begin_28 : decode cX0_begin 28 = .ok (.iinc 3 1, 3) := by decide +kernel
theorem dX0_begin_31 : decode cX0_begin 31 = .ok (.goto (-19), 3) := by decide +kernel
theorem dX0_begin_34 : decode cX0_begin 34 = .ok (.return_, 1) := by decide +kernel
theorem dX0_number_0 : decode cX0_number 0 = .ok (.iload_n 1, 1) := by decide +kernel
theorem dX0_number_1 : decode cX0_number 1 = .ok (.ifCond .lt 21, 3) := by decide +kernel
theorem dX0_number_4 : decode cX0_number 4 = .ok (.iload_n 1, 1) := by decide +kernel
theorem dX0_number_5 : decode cX0_number 5 = .ok (.aload_n 0, 1) := by decide +kernel
theorem dX0_number_6 : decode cX0_number 6 = .ok (.getfield 9, 3) := by decide +kernel
theorem dX0_number_9 : decode cX0_number 9 = .ok (.arraylength, 1) := by decide +kernel
theorem dX0_number_10 : decode cX0_number 10 = .ok (.if_icmp .ge 12, 3) := by decide +kernel
theorem dX0_number_13 : decode cX0_number 13 = .ok (.aload_n 0, 1) := by decide +kernel
theorem dX0_number_14 : decode cX0_number 14 = .ok (.getfield 9, 3) := by decide +kernel
theorem dX0_number_17 : decode cX0_number 17 = .ok (.iload_n 1, 1) := by decide +kernel
theorem dX0_number_18 : decode cX0_number 18 = .ok (.iaload, 1) := by decide +kernel
theorem dX0_number_19 : decode cX0_number 19 = .ok (.goto 4, 3) := by decide +kernel
theorem dX0_number_22 : decode cX0_number 22 = .ok (.iconst 0, 1) := by decide +kernel
theorem dX0_number_23 : decode cX0_number 23 = .ok (.ireturn, 1) := by decide +kernel
theorem dX0_setNumber_0 : decode cX0_setNumber 0 = .ok (.aload_n 0, 1) := by decide +kernel
theorem dX0_setNumber_1 : decode cX0_setNumber 1 = .ok (.getfield 9, 3) := by decide +kernel
theorem dX0_setNumber_4 : decode cX0_setNumber 4 = .ok (.iload_n 1, 1) := by decide +kernel
theorem dX0_setNumber_5 : decode cX0_setNumber 5 = .ok (.aload_n 0, 1) := by decide +kernel
theorem dX0_setNumber_6 : decode cX0_setNumber 6 = .ok (.getfield 15, 3) := by decide +kernel
theorem dX0_setNumber_9 : decode cX0_setNumber 9 = .ok (.bipush 8, 2) := by decide +kernel
theorem dX0_setNumber_11 : decode cX0_setNumber 11 = .ok (.if_icmp .ne 8, 3) := by decide +kernel
theorem dX0_setNumber_14 : decode cX0_setNumber 14 = .ok (.iload_n 2, 1) := by decide +kernel
theorem dX0_setNumber_15 : decode cX0_setNumber 15 = .ok (.i2b, 1) := by decide +kernel
theorem dX0_setNumber_16 : decode cX0_setNumber 16 = .ok (.goto 18, 3) := by decide +kernel
theorem dX0_setNumber_19 : decode cX0_setNumber 19 = .ok (.aload_n 0, 1) := by decide +kernel
theorem dX0_setNumber_20 : decode cX0_setNumber 20 = .ok (.getfield 15, 3) := by decide +kernel
theorem dX0_setNumber_23 : decode cX0_setNumber 23 = .ok (.bipush 16, 2) := by decide +kernel
theorem dX0_setNumber_25 : decode cX0_setNumber 25 = .ok (.if_icmp .ne 8, 3) := by decide +kernel
theorem dX0_setNumber_28 : decode cX0_setNumber 28 = .ok (.iload_n 2, 1) := by decide +kernel
theorem dX0_setNumber_29 : decode cX0_setNumber 29 = .ok (.i2s, 1) := by decide +kernel
theorem dX0_setNumber_30 : decode cX0_setNumber 30 = .ok (.goto 4, 3) := by decide +kernel
theorem dX0_setNumber_33 : decode cX0_setNumber 33 = .ok (.iload_n 2, 1) := by decide +kernel
theorem dX0_setNumber_34 : decode cX0_setNumber 34 = .ok (.invokestatic 22, 3) := by decide +kernel
theorem dX0_setNumber_37 : decode cX0_setNumber 37 = .ok (.return_, 1) := by decide +kernel
theorem dX0_hasNumbers_0 : decode cX0_hasNumbers 0 = .ok (.aload_n 0, 1) := by decide +kernel
theorem dX0_hasNumbers_1 : decode cX0_hasNumbers 1 = .ok (.getfield 19, 3) := by decide +kernel
theorem dX0_hasNumbers_4 : decode cX0_hasNumbers 4 = .ok (.aload_n 0, 1) := by decide +kernel
theorem dX0_hasNumbers_5 : decode cX0_hasNumbers 5 = .ok (.getfield 9, 3) := by decide +kernel
theorem dX0_hasNumbers_8 : decode cX0_hasNumbers 8 = .ok (.arraylength, 1) := by decide +kernel
theorem dX0_hasNumbers_9 : decode cX0_hasNumbers 9 = .ok (.invokestatic 26, 3) := by decide +kernel
theorem dX0_hasNumbers_12 : decode cX0_hasNumbers 12 = .ok (.istore_n 3, 1) := by decide +kernel
theorem dX0_hasNumbers_13 : decode cX0_hasNumbers 13 = .ok (.iload_n 1, 1) := by decide +kernel
theorem dX0_hasNumbers_14 : decode cX0_hasNumbers 14 = .ok (.ifCond .lt 23, 3) := by decide +kernel
theorem dX0_hasNumbers_17 : decode cX0_hasNumbers 17 = .ok (.iload_n 2, 1) := by decide +kernel
theorem dX0_hasNumbers_18 : decode cX0_hasNumbers 18 = .ok (.ifCond .lt 19, 3) := by decide +kernel
theorem dX0_hasNumbers_21 : decode cX0_hasNumbers 21 = .ok (.iload_n 1, 1) := by decide +kernel
theorem dX0_hasNumbers_22 : decode cX0_hasNumbers 22 = .ok (.iload_n 3, 1) := by decide +kernel
theorem dX0_hasNumbers_23 : decode cX0_hasNumbers 23 = .ok (.if_icmp .gt 14, 3) := by decide +kernel
theorem dX0_hasNumbers_26 : decode cX0_hasNumbers 26 = .ok (.iload_n 2, 1) := by decide +kernel
theorem dX0_hasNumbers_27 : decode cX0_hasNumbers 27 = .ok (.iload_n 3, 1) := by decide +kernel
theorem dX0_hasNumbers_28 : decode cX0_hasNumbers 28 = .ok (.iload_n 1, 1) := by decide +kernel
theorem dX0_hasNumbers_29 : decode cX0_hasNumbers 29 = .ok (.isub, 1) := by decide +kernel
theorem dX0_hasNumbers_30 : decode cX0_hasNumbers 30 = .ok (.if_icmp .gt 7, 3) := by decide +kernel
theorem dX0_hasNumbers_33 : decode cX0_hasNumbers 33 = .ok (.iconst 1, 1) := by decide +kernel
theorem dX0_hasNumbers_34 : decode cX0_hasNumbers 34 = .ok (.goto 4, 3) := by decide +kernel
theorem dX0_hasNumbers_37 : decode cX0_hasNumbers 37 = .ok (.iconst 0, 1) := by decide +kernel
theorem dX0_hasNumbers_38 : decode cX0_hasNumbers 38 = .ok (.ireturn, 1) := by decide +kernel
theorem dX1_init_0 : decode cX1_init 0 = .ok (.aload_n 0, 1) := by decide +kernel
theorem dX1_init_1 : decode cX1_init 1 = .ok (.invokespecial 3, 3) := by decide +kernel
theorem dX1_init_4 : decode cX1_init 4 = .ok (.aload_n 0, 1) := by decide +kernel
theorem dX1_init_5 : decode cX1_init 5 = .ok (.bipush 120, 2) := by decide +kernel
theorem dX1_init_7 : decode cX1_init 7 = .ok (.newarray .int, 2) := by decide +kernel
theorem dX1_init_9 : decode cX1_init 9 = .ok (.putfield 9, 3) := by decide +kernel
theorem dX1_init_12 : decode cX1_init 12 = .ok (.return_, 1) := by decide +kernel
theorem dX1_append_0 : decode cX1_append 0 = .ok (.aload_n 0, 1) := by decide +kernel
theorem dX1_append_1 : decode cX1_append 1 = .ok (.getfield 15, 3) := by decide +kernel
theorem dX1_append_4 : decode cX1_append 4 = .ok (.aload_n 0, 1) := by decide +kernel
theorem dX1_append_5 : decode cX1_append 5 = .ok (.getfield 9, 3) := by decide +kernel
theorem dX1_append_8 : decode cX1_append 8 = .ok (.arraylength, 1) := by decide +kernel
theorem dX1_append_9 : decode cX1_append 9 = .ok (.if_icmp .ge 23, 3) := by decide +kernel
theorem dX1_append_12 : decode cX1_append 12 = .ok (.aload_n 0, 1) := by decide +kernel
theorem dX1_append_13 : decode cX1_append 13 = .ok (.getfield 9, 3) := by decide +kernel
theorem dX1_append_16 : decode cX1_append 16 = .ok (.aload_n 0, 1) := by decide +kernel
theorem dX1_append_17 : decode cX1_append 17 = .ok (.getfield 15, 3) := by decide +kernel
theorem dX1_append_20 : decode cX1_append 20 = .ok (.iload_n 1, 1) := by decide +kernel
theorem dX1_append_21 : decode cX1_append 21 = .ok (.iastore, 1) := by decide +kernel
theorem dX1_append_22 : decode cX1_append 22 = .ok (.aload_n 0, 1) := by decide +kernel
theorem dX1_append_23 : decode cX1_append 23 = .ok (.dup, 1) := by decide +kernel
theorem dX1_append_24 : decode cX1_append 24 = .ok (.getfield 15, 3) := by decide +kernel
theorem dX1_append_27 : decode cX1_append 27 = .ok (.iconst 1, 1) := by decide +kernel
theorem dX1_append_28 : decode cX1_append 28 = .ok (.iadd, 1) := by decide +kernel
theorem dX1_append_29 : decode cX1_append 29 = .ok (.putfield 15, 3) := by decide +kernel
theorem dX1_append_32 : decode cX1_append 32 = .ok (.return_, 1) := by decide +kernel
theorem dX1_clear_0 : decode cX1_clear 0 = .ok (.aload_n 0, 1) := by decide +kernel
theorem dX1_clear_1 : decode cX1_clear 1 = .ok (.iconst 0, 1) := by decide +kernel
theorem dX1_clear_2 : decode cX1_clear 2 = .ok (.putfield 15, 3) := by decide +kernel
theorem dX1_clear_5 : decode cX1_clear 5 = .ok (.return_, 1) := by decide +kernel
theorem dX1_readItems_0 : decode cX1_readItems 0 = .ok (.aload_n 0, 1) := by decide +kernel
theorem dX1_readItems_1 : decode cX1_readItems 1 = .ok (.iconst 0, 1) := by decide +kernel
theorem dX1_readItems_2 : decode cX1_readItems 2 = .ok (.putfield 19, 3) := by decide +kernel
theorem dX1_readItems_5 : decode cX1_readItems 5 = .ok (.aload_n 0, 1) := by decide +kernel
theorem dX1_readItems_6 : decode cX1_readItems 6 = .ok (.invokevirtual 22, 3) := by decide +kernel
theorem dX1_readItems_9 : decode cX1_readItems 9 = .ok (.iconst 1, 1) := by decide +kernel
theorem dX1_readItems_10 : decode cX1_readItems 10 = .ok (.istore_n 2, 1) := by decide +kernel
theorem dX1_readItems_11 : decode cX1_readItems 11 = .ok (.iload_n 2, 1) := by decide +kernel
theorem dX1_readItems_12 : decode cX1_readItems 12 = .ok (.bipush 120, 2) := by decide +kernel
theorem dX1_readItems_14 : decode cX1_readItems 14 = .ok (.if_icmp .gt 44, 3) := by decide +kernel
theorem dX1_readItems_17 : decode cX1_readItems 17 = .ok (.aload_n 0, 1) := by decide +kernel
theorem dX1_readItems_18 : decode cX1_readItems 18 = .ok (.aload_n 1, 1) := by decide +kernel
theorem dX1_readItems_19 : decode cX1_readItems 19 = .ok (.invokevirtual 25, 3) := by decide +kernel
theorem dX1_readItems_22 : decode cX1_readItems 22 = .ok (.ifCond .ne 6, 3) := by decide +kernel
theorem dX1_readItems_25 : decode cX1_readItems 25 = .ok (.goto 33, 3) := by decide +kernel
theorem dX1_readItems_28 : decode cX1_readItems 28 = .ok (.aload_n 0, 1) := by decide +kernel
theorem dX1_readItems_29 : decode cX1_readItems 29 = .ok (.getfield 29, 3) := by decide +kernel
theorem dX1_readItems_32 : decode cX1_readItems 32 = .ok (.ifCond .ne 5, 3) := by decide +kernel
theorem dX1_readItems_35 : decode cX1_readItems 35 = .ok (.iload_n 2, 1) := by decide +kernel
theorem dX1_readItems_36 : decode cX1_readItems 36 = .ok (.ireturn, 1) := by decide +kernel
theorem dX1_readItems_37 : decode cX1_readItems 37 = .ok (.aload_n 0, 1) := by decide +kernel
theorem dX1_readItems_38 : decode cX1_readItems 38 = .ok (.getfield 29, 3) := by decide +kernel
theorem dX1_readItems_41 : decode cX1_readItems 41 = .ok (.iconst 3, 1) := by decide +kernel
theorem dX1_readItems_42 : decode cX1_readItems 42 = .ok (.if_icmp .eq 6, 3) := by decide +kernel
theorem dX1_readItems_45 : decode cX1_readItems 45 = .ok (.goto 13, 3) := by decide +kernel
theorem dX1_readItems_48 : decode cX1_readItems 48 = .ok (.aload_n 0, 1) := by decide +kernel
theorem dX1_readItems_49 : decode cX1_readItems 49 = .ok (.invokevirtual 22, 3) := by decide +kernel
theorem dX1_readItems_52 : decode cX1_readItems 52 = .ok (.iinc 2 1, 3) := by decide +kernel
theorem dX1_readItems_55 : decode cX1_readItems 55 = .ok (.goto (-44), 3) := by decide +kernel
theorem dX1_readItems_58 : decode cX1_readItems 58 = .ok (.iconst (-1), 1) := by decide +kernel
theorem dX1_readItems_59 : decode cX1_readItems 59 = .ok (.aload_n 0, 1) := by decide +kernel
theorem dX1_readItems_60 : decode cX1_readItems 60 = .ok (.getfield 32, 3) := by decide +kernel
theorem dX1_readItems_63 : decode cX1_readItems 63 = .ok (.isub, 1) := by decide +kernel
theorem dX1_readItems_64 : decode cX1_readItems 64 = .ok (.ireturn, 1) := by decide +kernel
theorem dX1_readItem_0 : decode cX1_readItem 0 = .ok (.iconst 0, 1) := by decide +kernel
theorem dX1_readItem_1 : decode cX1_readItem 1 = .ok (.istore_n 2, 1) := by decide +kernel
theorem dX1_readItem_2 : decode cX1_readItem 2 = .ok (.iload_n 2, 1) := by decide +kernel
theorem dX1_readItem_3 : decode cX1_readItem 3 = .ok (.bipush 7, 2) := by decide +kernel
theorem dX1_readItem_5 : decode cX1_readItem 5 = .ok (.if_icmp .ge 27, 3) := by decide +kernel
theorem dX1_readItem_8 : decode cX1_readItem 8 = .ok (.aload_n 0, 1) := by decide +kernel
theorem dX1_readItem_9 : decode cX1_readItem 9 = .ok (.iload_n 2, 1) := by decide +kernel
theorem dX1_readItem_10 : decode cX1_readItem 10 = .ok (.invokestatic 35, 3) := by decide +kernel
theorem dX1_readItem_13 : decode cX1_readItem 13 = .ok (.invokevirtual 39, 3) := by decide +kernel
theorem dX1_readItem_16 : decode cX1_readItem 16 = .ok (.ifCond .eq 10, 3) := by decide +kernel
theorem dX1_readItem_19 : decode cX1_readItem 19 = .ok (.aload_n 0, 1) := by decide +kernel
theorem dX1_readItem_20 : decode cX1_readItem 20 = .ok (.aload_n 1, 1) := by decide +kernel
theorem dX1_readItem_21 : decode cX1_readItem 21 = .ok (.iload_n 2, 1) := by decide +kernel
theorem dX1_readItem_22 : decode cX1_readItem 22 = .ok (.invokevirtual 43, 3) := by decide +kernel
theorem dX1_readItem_25 : decode cX1_readItem 25 = .ok (.ireturn, 1) := by decide +kernel
theorem dX1_readItem_26 : decode cX1_readItem 26 = .ok (.iinc 2 1, 3) := by decide +kernel
theorem dX1_readItem_29 : decode cX1_readItem 29 = .ok (.goto (-27), 3) := by decide +kernel
theorem dX1_readItem_32 : decode cX1_readItem 32 = .ok (.aload_n 0, 1) := by decide +kernel
theorem dX1_readItem_33 : decode cX1_readItem 33 = .ok (.ldc 47, 2) := by decide +kernel
theorem dX1_readItem_35 : decode cX1_readItem 35 = .ok (.invokevirtual 39, 3) := by decide +kernel
theorem dX1_readItem_38 : decode cX1_readItem 38 = .ok (.ifCond .eq 9, 3) := by decide +kernel
theorem dX1_readItem_41 : decode cX1_readItem 41 = .ok (.aload_n 0, 1) := by decide +kernel
theorem dX1_readItem_42 : decode cX1_readItem 42 = .ok (.aload_n 1, 1) := by decide +kernel
theorem dX1_readItem_43 : decode cX1_readItem 43 = .ok (.invokevirtual 49, 3) := by decide +kernel
theorem dX1_readItem_46 : decode cX1_readItem 46 = .ok (.ireturn, 1) := by decide +kernel
theorem dX1_readItem_47 : decode cX1_readItem 47 = .ok (.aload_n 0, 1) := by decide +kernel
theorem dX1_readItem_48 : decode cX1_readItem 48 = .ok (.ldc 52, 2) := by decide +kernel
theorem dX1_readItem_50 : decode cX1_readItem 50 = .ok (.invokevirtual 39, 3) := by decide +kernel
theorem dX1_readItem_53 : decode cX1_readItem 53 = .ok (.ifCond .eq 33, 3) := by decide +kernel
theorem dX1_readItem_56 : decode cX1_readItem 56 = .ok (.aload_n 0, 1) := by decide +kernel
theorem dX1_readItem_57 : decode cX1_readItem 57 = .ok (.invokevirtual 22, 3) := by decide +kernel
theorem dX1_readItem_60 : decode cX1_readItem 60 = .ok (.aload_n 0, 1) := by decide +kernel
theorem dX1_readItem_61 : decode cX1_readItem 61 = .ok (.iconst 0, 1) := by decide +kernel
theorem dX1_readItem_62 : decode cX1_readItem 62 = .ok (.ldc 54, 2) := by decide +kernel
theorem dX1_readItem_64 : decode cX1_readItem 64 = .ok (.invokevirtual 55, 3) := by decide +kernel
theorem dX1_readItem_67 : decode cX1_readItem 67 = .ok (.ifCond .ne 5, 3) := by decide +kernel
theorem dX1_readItem_70 : decode cX1_readItem 70 = .ok (.iconst 0, 1) := by decide +kernel
theorem dX1_readItem_71 : decode cX1_readItem 71 = .ok (.ireturn, 1) := by decide +kernel
theorem dX1_readItem_72 : decode cX1_readItem 72 = .ok (.aload_n 1, 1) := by decide +kernel
theorem dX1_readItem_73 : decode cX1_readItem 73 = .ok (.aload_n 0, 1) := by decide +kernel
theorem dX1_readItem_74 : decode cX1_readItem 74 = .ok (.getfield 59, 3) := by decide +kernel
theorem dX1_readItem_77 : decode cX1_readItem 77 = .ok (.putfield 62, 3) := by decide +kernel
theorem dX1_readItem_80 : decode cX1_readItem 80 = .ok (.aload_n 0, 1) := by decide +kernel
theorem dX1_readItem_81 : decode cX1_readItem 81 = .ok (.invokevirtual 22, 3) := by decide +kernel
theorem dX1_readItem_84 : decode cX1_readItem 84 = .ok (.iconst 1, 1) := by decide +kernel
theorem dX1_readItem_85 : decode cX1_readItem 85 = .ok (.ireturn, 1) := by decide +kernel
theorem dX1_readItem_86 : decode cX1_readItem 86 = .ok (.aload_n 0, 1) := by decide +kernel
theorem dX1_readItem_87 : decode cX1_readItem 87 = .ok (.ldc 66, 2) := by decide +kernel
theorem dX1_readItem_89 : decode cX1_readItem 89 = .ok (.invokevirtual 39, 3) := by decide +kernel
theorem dX1_readItem_92 : decode cX1_readItem 92 = .ok (.ifCond .ne 12, 3) := by decide +kernel
theorem dX1_readItem_95 : decode cX1_readItem 95 = .ok (.aload_n 0, 1) := by decide +kernel
theorem dX1_readItem_96 : decode cX1_readItem 96 = .ok (.ldc 68, 2) := by decide +kernel
theorem dX1_readItem_98 : decode cX1_readItem 98 = .ok (.invokevirtual 39, 3) := by decide +kernel
theorem dX1_readItem_101 : decode cX1_readItem 101 = .ok (.ifCond .eq 27, 3) := by decide +kernel
theorem dX1_readItem_104 : decode cX1_readItem 104 = .ok (.aload_n 1, 1) := by decide +kernel
theorem dX1_readItem_105 : decode cX1_readItem 105 = .ok (.aload_n 0, 1) := by decide +kernel
theorem dX1_readItem_106 : decode cX1_readItem 106 = .ok (.ldc 66, 2) := by decide +kernel
theorem dX1_readItem_108 : decode cX1_readItem 108 = .ok (.invokevirtual 39, 3) := by decide +kernel
theorem dX1_readItem_111 : decode cX1_readItem 111 = .ok (.ifCond .eq 7, 3) := by decide +kernel
theorem dX1_readItem_114 : decode cX1_readItem 114 = .ok (.iconst 1, 1) := by decide +kernel
theorem dX1_readItem_115 : decode cX1_readItem 115 = .ok (.goto 4, 3) := by decide +kernel
theorem dX1_readItem_118 : decode cX1_readItem 118 = .ok (.iconst 0, 1) := by decide +kernel
theorem dX1_readItem_119 : decode cX1_readItem 119 = .ok (.putfield 70, 3) := by decide +kernel
theorem dX1_readItem_122 : decode cX1_readItem 122 = .ok (.aload_n 0, 1) := by decide +kernel
theorem dX1_readItem_123 : decode cX1_readItem 123 = .ok (.invokevirtual 22, 3) := by decide +kernel
theorem dX1_readItem_126 : decode cX1_readItem 126 = .ok (.iconst 1, 1) := by decide +kernel
theorem dX1_readItem_127 : decode cX1_readItem 127 = .ok (.ireturn, 1) := by decide +kernel
theorem dX1_readItem_128 : decode cX1_readItem 128 = .ok (.iconst 0, 1) := by decide +kernel
theorem dX1_readItem_129 : decode cX1_readItem 129 = .ok (.ireturn, 1) := by decide +kernel
theorem dX1_readWhisper_0 : decode cX1_readWhisper 0 = .ok (.aload_n 1, 1) := by decide +kernel
theorem dX1_readWhisper_1 : decode cX1_readWhisper 1 = .ok (.invokevirtual 72, 3) := by decide +kernel
theorem dX1_readWhisper_4 : decode cX1_readWhisper 4 = .ok (.ifCond .eq 5, 3) := by decide +kernel
theorem dX1_readWhisper_7 : decode cX1_readWhisper 7 = .ok (.iconst 0, 1) := by decide +kernel
theorem dX1_readWhisper_8 : decode cX1_readWhisper 8 = .ok (.ireturn, 1) := by decide +kernel
theorem dX1_readWhisper_9 : decode cX1_readWhisper 9 = .ok (.aload_n 1, 1) := by decide +kernel
theorem dX1_readWhisper_10 : decode cX1_readWhisper 10 = .ok (.iload_n 2, 1) := by decide +kernel
theorem dX1_readWhisper_11 : decode cX1_readWhisper 11 = .ok (.iconst 0, 1) := by decide +kernel
theorem dX1_readWhisper_12 : decode cX1_readWhisper 12 = .ok (.iconst 1, 1) := by decide +kernel
theorem dX1_readWhisper_13 : decode cX1_readWhisper 13 = .ok (.invokevirtual 76, 3) := by decide +kernel
theorem dX1_readWhisper_16 : decode cX1_readWhisper 16 = .ok (.istore_n 3, 1) := by decide +kernel
theorem dX1_readWhisper_17 : decode cX1_readWhisper 17 = .ok (.aload_n 0, 1) := by decide +kernel
theorem dX1_readWhisper_18 : decode cX1_readWhisper 18 = .ok (.invokevirtual 22, 3) := by decide +kernel
theorem dX1_readWhisper_21 : decode cX1_readWhisper 21 = .ok (.aload_n 0, 1) := by decide +kernel
theorem dX1_readWhisper_22 : decode cX1_readWhisper 22 = .ok (.aload_n 1, 1) := by decide +kernel
theorem dX1_readWhisper_23 : decode cX1_readWhisper 23 = .ok (.iload_n 3, 1) := by decide +kernel
theorem dX1_readWhisper_24 : decode cX1_readWhisper 24 = .ok (.iconst 1, 1) := by decide +kernel
theorem dX1_readWhisper_25 : decode cX1_readWhisper 25 = .ok (.ldc 80, 2) := by decide +kernel
theorem dX1_readWhisper_27 : decode cX1_readWhisper 27 = .ok (.invokevirtual 82, 3) := by decide +kernel
theorem dX1_readWhisper_30 : decode cX1_readWhisper 30 = .ok (.ifCond .eq 19, 3) := by decide +kernel
theorem dX1_readWhisper_33 : decode cX1_readWhisper 33 = .ok (.aload_n 0, 1) := by decide +kernel
theorem dX1_readWhisper_34 : decode cX1_readWhisper 34 = .ok (.aload_n 1, 1) := by decide +kernel
theorem dX1_readWhisper_35 : decode cX1_readWhisper 35 = .ok (.iload_n 3, 1) := by decide +kernel
theorem dX1_readWhisper_36 : decode cX1_readWhisper 36 = .ok (.iconst 2, 1) := by decide +kernel
theorem dX1_readWhisper_37 : decode cX1_readWhisper 37 = .ok (.ldc 86, 2) := by decide +kernel
theorem dX1_readWhisper_39 : decode cX1_readWhisper 39 = .ok (.invokevirtual 82, 3) := by decide +kernel
theorem dX1_readWhisper_42 : decode cX1_readWhisper 42 = .ok (.ifCond .eq 7, 3) := by decide +kernel
theorem dX1_readWhisper_45 : decode cX1_readWhisper 45 = .ok (.iconst 1, 1) := by decide +kernel
theorem dX1_readWhisper_46 : decode cX1_readWhisper 46 = .ok (.goto 4, 3) := by decide +kernel
theorem dX1_readWhisper_49 : decode cX1_readWhisper 49 = .ok (.iconst 0, 1) := by decide +kernel
theorem dX1_readWhisper_50 : decode cX1_readWhisper 50 = .ok (.ireturn, 1) := by decide +kernel
theorem dX1_readQuality_0 : decode cX1_readQuality 0 = .ok (.aload_n 0, 1) := by decide +kernel
theorem dX1_readQuality_1 : decode cX1_readQuality 1 = .ok (.aload 4, 2) := by decide +kernel
theorem dX1_readQuality_3 : decode cX1_readQuality 3 = .ok (.invokevirtual 39, 3) := by decide +kernel
theorem dX1_readQuality_6 : decode cX1_readQuality 6 = .ok (.ifCond .ne 5, 3) := by decide +kernel
theorem dX1_readQuality_9 : decode cX1_readQuality 9 = .ok (.iconst 1, 1) := by decide +kernel
theorem dX1_readQuality_10 : decode cX1_readQuality 10 = .ok (.ireturn, 1) := by decide +kernel
theorem dX1_readQuality_11 : decode cX1_readQuality 11 = .ok (.aload_n 0, 1) := by decide +kernel
theorem dX1_readQuality_12 : decode cX1_readQuality 12 = .ok (.invokevirtual 22, 3) := by decide +kernel
theorem dX1_readQuality_15 : decode cX1_readQuality 15 = .ok (.aload_n 0, 1) := by decide +kernel
theorem dX1_readQuality_16 : decode cX1_readQuality 16 = .ok (.getfield 29, 3) := by decide +kernel
theorem dX1_readQuality_19 : decode cX1_readQuality 19 = .ok (.iconst 2, 1) := by decide +kernel
theorem dX1_readQuality_20 : decode cX1_readQuality 20 = .ok (.if_icmp .ne 14, 3) := by decide +kernel
theorem dX1_readQuality_23 : decode cX1_readQuality 23 = .ok (.iload_n 3, 1) := by decide +kernel
theorem dX1_readQuality_24 : decode cX1_readQuality 24 = .ok (.aload_n 0, 1) := by decide +kernel
theorem dX1_readQuality_25 : decode cX1_readQuality 25 = .ok (.getfield 59, 3) := by decide +kernel
theorem dX1_readQuality_28 : decode cX1_readQuality 28 = .ok (.invokestatic 88, 3) := by decide +kernel
theorem dX1_readQuality_31 : decode cX1_readQuality 31 = .ok (.ifCond .ne 5, 3) := by decide +kernel
theorem dX1_readQuality_34 : decode cX1_readQuality 34 = .ok (.iconst 0, 1) := by decide +kernel
theorem dX1_readQuality_35 : decode cX1_readQuality 35 = .ok (.ireturn, 1) := by decide +kernel
theorem dX1_readQuality_36 : decode cX1_readQuality 36 = .ok (.aload_n 1, 1) := by decide +kernel
theorem dX1_readQuality_37 : decode cX1_readQuality 37 = .ok (.iload_n 2, 1) := by decide +kernel
theorem dX1_readQuality_38 : decode cX1_readQuality 38 = .ok (.iload_n 3, 1) := by decide +kernel
theorem dX1_readQuality_39 : decode cX1_readQuality 39 = .ok (.aload_n 0, 1) := by decide +kernel
theorem dX1_readQuality_40 : decode cX1_readQuality 40 = .ok (.getfield 59, 3) := by decide +kernel
theorem dX1_readQuality_43 : decode cX1_readQuality 43 = .ok (.invokevirtual 91, 3) := by decide +kernel
theorem dX1_readQuality_46 : decode cX1_readQuality 46 = .ok (.aload_n 0, 1) := by decide +kernel
theorem dX1_readQuality_47 : decode cX1_readQuality 47 = .ok (.invokevirtual 22, 3) := by decide +kernel
theorem dX1_readQuality_50 : decode cX1_readQuality 50 = .ok (.iconst 1, 1) := by decide +kernel
theorem dX1_readQuality_51 : decode cX1_readQuality 51 = .ok (.ireturn, 1) := by decide +kernel
theorem dX1_readCorner_0 : decode cX1_readCorner 0 = .ok (.aload_n 0, 1) := by decide +kernel
theorem dX1_readCorner_1 : decode cX1_readCorner 1 = .ok (.invokevirtual 22, 3) := by decide +kernel
theorem dX1_readCorner_4 : decode cX1_readCorner 4 = .ok (.aload_n 0, 1) := by decide +kernel
theorem dX1_readCorner_5 : decode cX1_readCorner 5 = .ok (.iconst 0, 1) := by decide +kernel
theorem dX1_readCorner_6 : decode cX1_readCorner 6 = .ok (.bipush 15, 2) := by decide +kernel
theorem dX1_readCorner_8 : decode cX1_readCorner 8 = .ok (.invokevirtual 55, 3) := by decide +kernel
theorem dX1_readCorner_11 : decode cX1_readCorner 11 = .ok (.ifCond .ne 5, 3) := by decide +kernel
theorem dX1_readCorner_14 : decode cX1_readCorner 14 = .ok (.iconst 0, 1) := by decide +kernel
theorem dX1_readCorner_15 : decode cX1_readCorner 15 = .ok (.ireturn, 1) := by decide +kernel
theorem dX1_readCorner_16 : decode cX1_readCorner 16 = .ok (.aload_n 0, 1) := by decide +kernel
theorem dX1_readCorner_17 : decode cX1_readCorner 17 = .ok (.getfield 59, 3) := by decide +kernel
theorem dX1_readCorner_20 : decode cX1_readCorner 20 = .ok (.istore_n 2, 1) := by decide +kernel
theorem dX1_readCorner_21 : decode cX1_readCorner 21 = .ok (.aload_n 0, 1) := by decide +kernel
theorem dX1_readCorner_22 : decode cX1_readCorner 22 = .ok (.invokevirtual 22, 3) := by decide +kernel
theorem dX1_readCorner_25 : decode cX1_readCorner 25 = .ok (.aload_n 0, 1) := by decide +kernel
theorem dX1_readCorner_26 : decode cX1_readCorner 26 = .ok (.aload_n 1, 1) := by decide +kernel
theorem dX1_readCorner_27 : decode cX1_readCorner 27 = .ok (.iload_n 2, 1) := by decide +kernel
theorem dX1_readCorner_28 : decode cX1_readCorner 28 = .ok (.iconst 0, 1) := by decide +kernel
theorem dX1_readCorner_29 : decode cX1_readCorner 29 = .ok (.ldc 95, 2) := by decide +kernel
theorem dX1_readCorner_31 : decode cX1_readCorner 31 = .ok (.invokevirtual 97, 3) := by decide +kernel
theorem dX1_readCorner_34 : decode cX1_readCorner 34 = .ok (.ifCond .eq 43, 3) := by decide +kernel
theorem dX1_readCorner_37 : decode cX1_readCorner 37 = .ok (.aload_n 0, 1) := by decide +kernel
theorem dX1_readCorner_38 : decode cX1_readCorner 38 = .ok (.aload_n 1, 1) := by decide +kernel
theorem dX1_readCorner_39 : decode cX1_readCorner 39 = .ok (.iload_n 2, 1) := by decide +kernel
theorem dX1_readCorner_40 : decode cX1_readCorner 40 = .ok (.iconst 1, 1) := by decide +kernel
theorem dX1_readCorner_41 : decode cX1_readCorner 41 = .ok (.ldc 100, 2) := by decide +kernel
theorem dX1_readCorner_43 : decode cX1_readCorner 43 = .ok (.invokevirtual 97, 3) := by decide +kernel
theorem dX1_readCorner_46 : decode cX1_readCorner 46 = .ok (.ifCond .eq 31, 3) := by decide +kernel
theorem dX1_readCorner_49 : decode cX1_readCorner 49 = .ok (.aload_n 0, 1) := by decide +kernel
theorem dX1_readCorner_50 : decode cX1_readCorner 50 = .ok (.aload_n 1, 1) := by decide +kernel
theorem dX1_readCorner_51 : decode cX1_readCorner 51 = .ok (.iload_n 2, 1) := by decide +kernel
theorem dX1_readCorner_52 : decode cX1_readCorner 52 = .ok (.iconst 2, 1) := by decide +kernel
theorem dX1_readCorner_53 : decode cX1_readCorner 53 = .ok (.ldc 102, 2) := by decide +kernel
theorem dX1_readCorner_55 : decode cX1_readCorner 55 = .ok (.invokevirtual 97, 3) := by decide +kernel
theorem dX1_readCorner_58 : decode cX1_readCorner 58 = .ok (.ifCond .eq 19, 3) := by decide +kernel
theorem dX1_readCorner_61 : decode cX1_readCorner 61 = .ok (.aload_n 0, 1) := by decide +kernel
theorem dX1_readCorner_62 : decode cX1_readCorner 62 = .ok (.aload_n 1, 1) := by decide +kernel
theorem dX1_readCorner_63 : decode cX1_readCorner 63 = .ok (.iload_n 2, 1) := by decide +kernel
theorem dX1_readCorner_64 : decode cX1_readCorner 64 = .ok (.iconst 4, 1) := by decide +kernel
theorem dX1_readCorner_65 : decode cX1_readCorner 65 = .ok (.ldc 104, 2) := by decide +kernel
theorem dX1_readCorner_67 : decode cX1_readCorner 67 = .ok (.invokevirtual 97, 3) := by decide +kernel
theorem dX1_readCorner_70 : decode cX1_readCorner 70 = .ok (.ifCond .eq 7, 3) := by decide +kernel
theorem dX1_readCorner_73 : decode cX1_readCorner 73 = .ok (.iconst 1, 1) := by decide +kernel
theorem dX1_readCorner_74 : decode cX1_readCorner 74 = .ok (.goto 4, 3) := by decide +kernel
theorem dX1_readCorner_77 : decode cX1_readCorner 77 = .ok (.iconst 0, 1) := by decide +kernel
theorem dX1_readCorner_78 : decode cX1_readCorner 78 = .ok (.ireturn, 1) := by decide +kernel
theorem dX1_readTrait_0 : decode cX1_readTrait 0 = .ok (.aload_n 0, 1) := by decide +kernel
theorem dX1_readTrait_1 : decode cX1_readTrait 1 = .ok (.aload 4, 2) := by decide +kernel
theorem dX1_readTrait_3 : decode cX1_readTrait 3 = .ok (.invokevirtual 39, 3) := by decide +kernel
theorem dX1_readTrait_6 : decode cX1_readTrait 6 = .ok (.ifCond .ne 5, 3) := by decide +kernel
theorem dX1_readTrait_9 : decode cX1_readTrait 9 = .ok (.iconst 1, 1) := by decide +kernel
theorem dX1_readTrait_10 : decode cX1_readTrait 10 = .ok (.ireturn, 1) := by decide +kernel
theorem dX1_readTrait_11 : decode cX1_readTrait 11 = .ok (.aload_n 0, 1) := by decide +kernel
theorem dX1_readTrait_12 : decode cX1_readTrait 12 = .ok (.invokevirtual 22, 3) := by decide +kernel
theorem dX1_readTrait_15 : decode cX1_readTrait 15 = .ok (.aload_n 0, 1) := by decide +kernel
theorem dX1_readTrait_16 : decode cX1_readTrait 16 = .ok (.getfield 29, 3) := by decide +kernel
theorem dX1_readTrait_19 : decode cX1_readTrait 19 = .ok (.iconst 2, 1) := by decide +kernel
theorem dX1_readTrait_20 : decode cX1_readTrait 20 = .ok (.if_icmp .ne 14, 3) := by decide +kernel
theorem dX1_readTrait_23 : decode cX1_readTrait 23 = .ok (.iload_n 3, 1) := by decide +kernel
theorem dX1_readTrait_24 : decode cX1_readTrait 24 = .ok (.aload_n 0, 1) := by decide +kernel
theorem dX1_readTrait_25 : decode cX1_readTrait 25 = .ok (.getfield 59, 3) := by decide +kernel
theorem dX1_readTrait_28 : decode cX1_readTrait 28 = .ok (.invokestatic 106, 3) := by decide +kernel
theorem dX1_readTrait_31 : decode cX1_readTrait 31 = .ok (.ifCond .ne 5, 3) := by decide +kernel
theorem dX1_readTrait_34 : decode cX1_readTrait 34 = .ok (.iconst 0, 1) := by decide +kernel
theorem dX1_readTrait_35 : decode cX1_readTrait 35 = .ok (.ireturn, 1) := by decide +kernel
theorem dX1_readTrait_36 : decode cX1_readTrait 36 = .ok (.aload_n 1, 1) := by decide +kernel
theorem dX1_readTrait_37 : decode cX1_readTrait 37 = .ok (.iload_n 2, 1) := by decide +kernel
theorem dX1_readTrait_38 : decode cX1_readTrait 38 = .ok (.iload_n 3, 1) := by decide +kernel
theorem dX1_readTrait_39 : decode cX1_readTrait 39 = .ok (.aload_n 0, 1) := by decide +kernel
theorem dX1_readTrait_40 : decode cX1_readTrait 40 = .ok (.getfield 59, 3) := by decide +kernel
theorem dX1_readTrait_43 : decode cX1_readTrait 43 = .ok (.invokevirtual 109, 3) := by decide +kernel
theorem dX1_readTrait_46 : decode cX1_readTrait 46 = .ok (.aload_n 0, 1) := by decide +kernel
theorem dX1_readTrait_47 : decode cX1_readTrait 47 = .ok (.invokevirtual 22, 3) := by decide +kernel
theorem dX1_readTrait_50 : decode cX1_readTrait 50 = .ok (.iconst 1, 1) := by decide +kernel
theorem dX1_readTrait_51 : decode cX1_readTrait 51 = .ok (.ireturn, 1) := by decide +kernel
theorem dX1_isNumber_0 : decode cX1_isNumber 0 = .ok (.aload_n 0, 1) := by decide +kernel
theorem dX1_isNumber_1 : decode cX1_isNumber 1 = .ok (.getfield 29, 3) := by decide +kernel
theorem dX1_isNumber_4 : decode cX1_isNumber 4 = .ok (.iconst 2, 1) := by decide +kernel
theorem dX1_isNumber_5 : decode cX1_isNumber 5 = .ok (.if_icmp .ne 19, 3) := by decide +kernel
theorem dX1_isNumber_8 : decode cX1_isNumber 8 = .ok (.aload_n 0, 1) := by decide +kernel
theorem dX1_isNumber_9 : decode cX1_isNumber 9 = .ok (.getfield 59, 3) := by decide +kernel
theorem dX1_isNumber_12 : decode cX1_isNumber 12 = .ok (.iload_n 1, 1) := by decide +kernel
theorem dX1_isNumber_13 : decode cX1_isNumber 13 = .ok (.iload_n 2, 1) := by decide +kernel
theorem dX1_isNumber_14 : decode cX1_isNumber 14 = .ok (.invokestatic 112, 3) := by decide +kernel
theorem dX1_isNumber_17 : decode cX1_isNumber 17 = .ok (.ifCond .eq 7, 3) := by decide +kernel
theorem dX1_isNumber_20 : decode cX1_isNumber 20 = .ok (.iconst 1, 1) := by decide +kernel
theorem dX1_isNumber_21 : decode cX1_isNumber 21 = .ok (.goto 4, 3) := by decide +kernel
theorem dX1_isNumber_24 : decode cX1_isNumber 24 = .ok (.iconst 0, 1) := by decide +kernel
theorem dX1_isNumber_25 : decode cX1_isNumber 25 = .ok (.ireturn, 1) := by decide +kernel
theorem dX1_isWord_0 : decode cX1_isWord 0 = .ok (.aload_n 0, 1) := by decide +kernel
theorem dX1_isWord_1 : decode cX1_isWord 1 = .ok (.getfield 29, 3) := by decide +kernel
theorem dX1_isWord_4 : decode cX1_isWord 4 = .ok (.iconst 1, 1) := by decide +kernel
theorem dX1_isWord_5 : decode cX1_isWord 5 = .ok (.if_icmp .ne 19, 3) := by decide +kernel
theorem dX1_isWord_8 : decode cX1_isWord 8 = .ok (.aload_n 0, 1) := by decide +kernel
theorem dX1_isWord_9 : decode cX1_isWord 9 = .ok (.getfield 19, 3) := by decide +kernel
theorem dX1_isWord_12 : decode cX1_isWord 12 = .ok (.aload_n 0, 1) := by decide +kernel
theorem dX1_isWord_13 : decode cX1_isWord 13 = .ok (.getfield 32, 3) := by decide +kernel
theorem dX1_isWord_16 : decode cX1_isWord 16 = .ok (.isub, 1) := by decide +kernel
theorem dX1_isWord_17 : decode cX1_isWord 17 = .ok (.aload_n 1, 1) := by decide +kernel
theorem dX1_isWord_18 : decode cX1_isWord 18 = .ok (.invokevirtual 116, 3) := by decide +kernel
theorem dX1_isWord_21 : decode cX1_isWord 21 = .ok (.if_icmp .eq 5, 3) := by decide +kernel
theorem dX1_isWord_24 : decode cX1_isWord 24 = .ok (.iconst 0, 1) := by decide +kernel
theorem dX1_isWord_25 : decode cX1_isWord 25 = .ok (.ireturn, 1) := by decide +kernel
theorem dX1_isWord_26 : decode cX1_isWord 26 = .ok (.iconst 0, 1) := by decide +kernel
theorem dX1_isWord_27 : decode cX1_isWord 27 = .ok (.istore_n 2, 1) := by decide +kernel
theorem dX1_isWord_28 : decode cX1_isWord 28 = .ok (.iload_n 2, 1) := by decide +kernel
theorem dX1_isWord_29 : decode cX1_isWord 29 = .ok (.aload_n 1, 1) := by decide +kernel
theorem dX1_isWord_30 : decode cX1_isWord 30 = .ok (.invokevirtual 116, 3) := by decide +kernel
theorem dX1_isWord_33 : decode cX1_isWord 33 = .ok (.if_icmp .ge 29, 3) := by decide +kernel
theorem dX1_isWord_36 : decode cX1_isWord 36 = .ok (.aload_n 0, 1) := by decide +kernel
theorem dX1_isWord_37 : decode cX1_isWord 37 = .ok (.aload_n 0, 1) := by decide +kernel
theorem dX1_isWord_38 : decode cX1_isWord 38 = .ok (.getfield 32, 3) := by decide +kernel
theorem dX1_isWord_41 : decode cX1_isWord 41 = .ok (.iload_n 2, 1) := by decide +kernel
theorem dX1_isWord_42 : decode cX1_isWord 42 = .ok (.iadd, 1) := by decide +kernel
theorem dX1_isWord_43 : decode cX1_isWord 43 = .ok (.invokevirtual 121, 3) := by decide +kernel
theorem dX1_isWord_46 : decode cX1_isWord 46 = .ok (.aload_n 1, 1) := by decide +kernel
theorem dX1_isWord_47 : decode cX1_isWord 47 = .ok (.iload_n 2, 1) := by decide +kernel
theorem dX1_isWord_48 : decode cX1_isWord 48 = .ok (.invokevirtual 125, 3) := by decide +kernel
theorem dX1_isWord_51 : decode cX1_isWord 51 = .ok (.if_icmp .eq 5, 3) := by decide +kernel
theorem dX1_isWord_54 : decode cX1_isWord 54 = .ok (.iconst 0, 1) := by decide +kernel
theorem dX1_isWord_55 : decode cX1_isWord 55 = .ok (.ireturn, 1) := by decide +kernel
theorem dX1_isWord_56 : decode cX1_isWord 56 = .ok (.iinc 2 1, 3) := by decide +kernel
theorem dX1_isWord_59 : decode cX1_isWord 59 = .ok (.goto (-31), 3) := by decide +kernel
theorem dX1_isWord_62 : decode cX1_isWord 62 = .ok (.iconst 1, 1) := by decide +kernel
theorem dX1_isWord_63 : decode cX1_isWord 63 = .ok (.ireturn, 1) := by decide +kernel
theorem dX1_kindName_0 : decode cX1_kindName 0 = .ok (.iload_n 0, 1) := by decide +kernel
theorem dX1_kindName_1 : decode cX1_kindName 1 = .ok (.tableswitch 57 1 6 #[39, 42, 45, 48, 51, 54], 39) := by decide +kernel
theorem dX1_kindName_40 : decode cX1_kindName 40 = .ok (.ldc 129, 2) := by decide +kernel
theorem dX1_kindName_42 : decode cX1_kindName 42 = .ok (.areturn, 1) := by decide +kernel
theorem dX1_kindName_43 : decode cX1_kindName 43 = .ok (.ldc 131, 2) := by decide +kernel
theorem dX1_kindName_45 : decode cX1_kindName 45 = .ok (.areturn, 1) := by decide +kernel
theorem dX1_kindName_46 : decode cX1_kindName 46 = .ok (.ldc 133, 2) := by decide +kernel
theorem dX1_kindName_48 : decode cX1_kindName 48 = .ok (.areturn, 1) := by decide +kernel
theorem dX1_kindName_49 : decode cX1_kindName 49 = .ok (.ldc 135, 2) := by decide +kernel
theorem dX1_kindName_51 : decode cX1_kindName 51 = .ok (.areturn, 1) := by decide +kernel
theorem dX1_kindName_52 : decode cX1_kindName 52 = .ok (.ldc 137, 2) := by decide +kernel
theorem dX1_kindName_54 : decode cX1_kindName 54 = .ok (.areturn, 1) := by decide +kernel
theorem dX1_kindName_55 : decode cX1_kindName 55 = .ok (.ldc 139, 2) := by decide +kernel
theorem dX1_kindName_57 : decode cX1_kindName 57 = .ok (.areturn, 1) := by decide +kernel
theorem dX1_kindName_58 : decode cX1_kindName 58 = .ok (.ldc 141, 2) := by decide +kernel
theorem dX1_kindName_60 : decode cX1_kindName 60 = .ok (.areturn, 1) := by decide +kernel
theorem dX1_byteAt_0 : decode cX1_byteAt 0 = .ok (.iload_n 1, 1) := by decide +kernel
theorem dX1_byteAt_1 : decode cX1_byteAt 1 = .ok (.ifCond .lt 29, 3) := by decide +kernel
theorem dX1_byteAt_4 : decode cX1_byteAt 4 = .ok (.iload_n 1, 1) := by decide +kernel
theorem dX1_byteAt_5 : decode cX1_byteAt 5 = .ok (.aload_n 0, 1) := by decide +kernel
theorem dX1_byteAt_6 : decode cX1_byteAt 6 = .ok (.getfield 15, 3) := by decide +kernel
theorem dX1_byteAt_9 : decode cX1_byteAt 9 = .ok (.if_icmp .ge 21, 3) := by decide +kernel
theorem dX1_byteAt_12 : decode cX1_byteAt 12 = .ok (.iload_n 1, 1) := by decide +kernel
theorem dX1_byteAt_13 : decode cX1_byteAt 13 = .ok (.aload_n 0, 1) := by decide +kernel
theorem dX1_byteAt_14 : decode cX1_byteAt 14 = .ok (.getfield 9, 3) := by decide +kernel
theorem dX1_byteAt_17 : decode cX1_byteAt 17 = .ok (.arraylength, 1) := by decide +kernel
theorem dX1_byteAt_18 : decode cX1_byteAt 18 = .ok (.if_icmp .ge 12, 3) := by decide +kernel
theorem dX1_byteAt_21 : decode cX1_byteAt 21 = .ok (.aload_n 0, 1) := by decide +kernel
theorem dX1_byteAt_22 : decode cX1_byteAt 22 = .ok (.getfield 9, 3) := by decide +kernel
theorem dX1_byteAt_25 : decode cX1_byteAt 25 = .ok (.iload_n 1, 1) := by decide +kernel
theorem dX1_byteAt_26 : decode cX1_byteAt 26 = .ok (.iaload, 1) := by decide +kernel
theorem dX1_byteAt_27 : decode cX1_byteAt 27 = .ok (.goto 4, 3) := by decide +kernel
theorem dX1_byteAt_30 : decode cX1_byteAt 30 = .ok (.iconst (-1), 1) := by decide +kernel
theorem dX1_byteAt_31 : decode cX1_byteAt 31 = .ok (.ireturn, 1) := by decide +kernel
theorem dX1_step_0 : decode cX1_step 0 = .ok (.aload_n 0, 1) := by decide +kernel
theorem dX1_step_1 : decode cX1_step 1 = .ok (.aload_n 0, 1) := by decide +kernel
theorem dX1_step_2 : decode cX1_step 2 = .ok (.getfield 19, 3) := by decide +kernel
theorem dX1_step_5 : decode cX1_step 5 = .ok (.putfield 32, 3) := by decide +kernel
theorem dX1_step_8 : decode cX1_step 8 = .ok (.iconst 0, 1) := by decide +kernel
theorem dX1_step_9 : decode cX1_step 9 = .ok (.istore_n 1, 1) := by decide +kernel
theorem dX1_step_10 : decode cX1_step 10 = .ok (.iload_n 1, 1) := by decide +kernel
theorem dX1_step_11 : decode cX1_step 11 = .ok (.bipush 120, 2) := by decide +kernel
theorem dX1_step_13 : decode cX1_step 13 = .ok (.if_icmp .ge 32, 3) := by decide +kernel
theorem dX1_step_16 : decode cX1_step 16 = .ok (.aload_n 0, 1) := by decide +kernel
theorem dX1_step_17 : decode cX1_step 17 = .ok (.aload_n 0, 1) := by decide +kernel
theorem dX1_step_18 : decode cX1_step 18 = .ok (.getfield 32, 3) := by decide +kernel
theorem dX1_step_21 : decode cX1_step 21 = .ok (.invokevirtual 121, 3) := by decide +kernel
theorem dX1_step_24 : decode cX1_step 24 = .ok (.bipush 32, 2) := by decide +kernel
theorem dX1_step_26 : decode cX1_step 26 = .ok (.if_icmp .ne 19, 3) := by decide +kernel
theorem dX1_step_29 : decode cX1_step 29 = .ok (.aload_n 0, 1) := by decide +kernel
theorem dX1_step_30 : decode cX1_step 30 = .ok (.dup, 1) := by decide +kernel
theorem dX1_step_31 : decode cX1_step 31 = .ok (.getfield 32, 3) := by decide +kernel
theorem dX1_step_34 : decode cX1_step 34 = .ok (.iconst 1, 1) := by decide +kernel
theorem dX1_step_35 : decode cX1_step 35 = .ok (.iadd, 1) := by decide +kernel
theorem dX1_step_36 : decode cX1_step 36 = .ok (.putfield 32, 3) := by decide +kernel
theorem dX1_step_39 : decode cX1_step 39 = .ok (.iinc 1 1, 3) := by decide +kernel
theorem dX1_step_42 : decode cX1_step 42 = .ok (.goto (-32), 3) := by decide +kernel
theorem dX1_step_45 : decode cX1_step 45 = .ok (.aload_n 0, 1) := by decide +kernel
theorem dX1_step_46 : decode cX1_step 46 = .ok (.aload_n 0, 1) := by decide +kernel
theorem dX1_step_47 : decode cX1_step 47 = .ok (.getfield 32, 3) := by decide +kernel
theorem dX1_step_50 : decode cX1_step 50 = .ok (.putfield 19, 3) := by decide +kernel
theorem dX1_step_53 : decode cX1_step 53 = .ok (.aload_n 0, 1) := by decide +kernel
theorem dX1_step_54 : decode cX1_step 54 = .ok (.iconst 0, 1) := by decide +kernel
theorem dX1_step_55 : decode cX1_step 55 = .ok (.putfield 59, 3) := by decide +kernel
theorem dX1_step_58 : decode cX1_step 58 = .ok (.aload_n 0, 1) := by decide +kernel
theorem dX1_step_59 : decode cX1_step 59 = .ok (.aload_n 0, 1) := by decide +kernel
theorem dX1_step_60 : decode cX1_step 60 = .ok (.aload_n 0, 1) := by decide +kernel
theorem dX1_step_61 : decode cX1_step 61 = .ok (.getfield 32, 3) := by decide +kernel
theorem dX1_step_64 : decode cX1_step 64 = .ok (.invokevirtual 121, 3) := by decide +kernel
theorem dX1_step_67 : decode cX1_step 67 = .ok (.invokestatic 143, 3) := by decide +kernel
theorem dX1_step_70 : decode cX1_step 70 = .ok (.putfield 29, 3) := by decide +kernel
theorem dX1_step_73 : decode cX1_step 73 = .ok (.aload_n 0, 1) := by decide +kernel
theorem dX1_step_74 : decode cX1_step 74 = .ok (.getfield 29, 3) := by decide +kernel
theorem dX1_step_77 : decode cX1_step 77 = .ok (.iconst 1, 1) := by decide +kernel
theorem dX1_step_78 : decode cX1_step 78 = .ok (.if_icmp .eq 11, 3) := by decide +kernel
theorem dX1_step_81 : decode cX1_step 81 = .ok (.aload_n 0, 1) := by decide +kernel
theorem dX1_step_82 : decode cX1_step 82 = .ok (.getfield 29, 3) := by decide +kernel
theorem dX1_step_85 : decode cX1_step 85 = .ok (.iconst 2, 1) := by decide +kernel
theorem dX1_step_86 : decode cX1_step 86 = .ok (.if_icmp .ne 8, 3) := by decide +kernel
theorem dX1_step_89 : decode cX1_step 89 = .ok (.bipush 120, 2) := by decide +kernel
theorem dX1_step_91 : decode cX1_step 91 = .ok (.goto 15, 3) := by decide +kernel
theorem dX1_step_94 : decode cX1_step 94 = .ok (.aload_n 0, 1) := by decide +kernel
theorem dX1_step_95 : decode cX1_step 95 = .ok (.getfield 29, 3) := by decide +kernel
theorem dX1_step_98 : decode cX1_step 98 = .ok (.ifCond .ne 7, 3) := by decide +kernel
theorem dX1_step_101 : decode cX1_step 101 = .ok (.iconst 0, 1) := by decide +kernel
theorem dX1_step_102 : decode cX1_step 102 = .ok (.goto 4, 3) := by decide +kernel
theorem dX1_step_105 : decode cX1_step 105 = .ok (.iconst 1, 1) := by decide +kernel
theorem dX1_step_106 : decode cX1_step 106 = .ok (.istore_n 1, 1) := by decide +kernel
theorem dX1_step_107 : decode cX1_step 107 = .ok (.iconst 0, 1) := by decide +kernel
theorem dX1_step_108 : decode cX1_step 108 = .ok (.istore_n 2, 1) := by decide +kernel
theorem dX1_step_109 : decode cX1_step 109 = .ok (.iload_n 2, 1) := by decide +kernel
theorem dX1_step_110 : decode cX1_step 110 = .ok (.iload_n 1, 1) := by decide +kernel
theorem dX1_step_111 : decode cX1_step 111 = .ok (.if_icmp .ge 73, 3) := by decide +kernel
theorem dX1_step_114 : decode cX1_step 114 = .ok (.aload_n 0, 1) := by decide +kernel
theorem dX1_step_115 : decode cX1_step 115 = .ok (.aload_n 0, 1) := by decide +kernel
theorem dX1_step_116 : decode cX1_step 116 = .ok (.getfield 19, 3) := by decide +kernel
theorem dX1_step_119 : decode cX1_step 119 = .ok (.invokevirtual 121, 3) := by decide +kernel
theorem dX1_step_122 : decode cX1_step 122 = .ok (.invokestatic 143, 3) := by decide +kernel
theorem dX1_step_125 : decode cX1_step 125 = .ok (.aload_n 0, 1) := by decide +kernel
theorem dX1_step_126 : decode cX1_step 126 = .ok (.getfield 29, 3) := by decide +kernel
theorem dX1_step_129 : decode cX1_step 129 = .ok (.if_icmp .ne 55, 3) := by decide +kernel
theorem dX1_step_132 : decode cX1_step 132 = .ok (.aload_n 0, 1) := by decide +kernel
theorem dX1_step_133 : decode cX1_step 133 = .ok (.getfield 29, 3) := by decide +kernel
theorem dX1_step_136 : decode cX1_step 136 = .ok (.iconst 2, 1) := by decide +kernel
theorem dX1_step_137 : decode cX1_step 137 = .ok (.if_icmp .ne 31, 3) := by decide +kernel
theorem dX1_step_140 : decode cX1_step 140 = .ok (.aload_n 0, 1) := by decide +kernel
theorem dX1_step_141 : decode cX1_step 141 = .ok (.bipush 10, 2) := by decide +kernel
theorem dX1_step_143 : decode cX1_step 143 = .ok (.aload_n 0, 1) := by decide +kernel
theorem dX1_step_144 : decode cX1_step 144 = .ok (.getfield 59, 3) := by decide +kernel
theorem dX1_step_147 : decode cX1_step 147 = .ok (.imul, 1) := by decide +kernel
theorem dX1_step_148 : decode cX1_step 148 = .ok (.aload_n 0, 1) := by decide +kernel
theorem dX1_step_149 : decode cX1_step 149 = .ok (.aload_n 0, 1) := by decide +kernel
theorem dX1_step_150 : decode cX1_step 150 = .ok (.getfield 19, 3) := by decide +kernel
theorem dX1_step_153 : decode cX1_step 153 = .ok (.invokevirtual 121, 3) := by decide +kernel
theorem dX1_step_156 : decode cX1_step 156 = .ok (.iadd, 1) := by decide +kernel
theorem dX1_step_157 : decode cX1_step 157 = .ok (.bipush 48, 2) := by decide +kernel
theorem dX1_step_159 : decode cX1_step 159 = .ok (.isub, 1) := by decide +kernel
theorem dX1_step_160 : decode cX1_step 160 = .ok (.ldc 146, 2) := by decide +kernel
theorem dX1_step_162 : decode cX1_step 162 = .ok (.invokestatic 147, 3) := by decide +kernel
theorem dX1_step_165 : decode cX1_step 165 = .ok (.putfield 59, 3) := by decide +kernel
theorem dX1_step_168 : decode cX1_step 168 = .ok (.aload_n 0, 1) := by decide +kernel
theorem dX1_step_169 : decode cX1_step 169 = .ok (.dup, 1) := by decide +kernel
theorem dX1_step_170 : decode cX1_step 170 = .ok (.getfield 19, 3) := by decide +kernel
theorem dX1_step_173 : decode cX1_step 173 = .ok (.iconst 1, 1) := by decide +kernel
theorem dX1_step_174 : decode cX1_step 174 = .ok (.iadd, 1) := by decide +kernel
theorem dX1_step_175 : decode cX1_step 175 = .ok (.putfield 19, 3) := by decide +kernel
theorem dX1_step_178 : decode cX1_step 178 = .ok (.iinc 2 1, 3) := by decide +kernel
theorem dX1_step_181 : decode cX1_step 181 = .ok (.goto (-72), 3) := by decide +kernel
theorem dX1_step_184 : decode cX1_step 184 = .ok (.return_, 1) := by decide +kernel
theorem dX1_sortOf_0 : decode cX1_sortOf 0 = .ok (.iload_n 0, 1) := by decide +kernel
theorem dX1_sortOf_1 : decode cX1_sortOf 1 = .ok (.ifCond .ge 5, 3) := by decide +kernel
theorem dX1_sortOf_4 : decode cX1_sortOf 4 = .ok (.iconst 0, 1) := by decide +kernel
theorem dX1_sortOf_5 : decode cX1_sortOf 5 = .ok (.ireturn, 1) := by decide +kernel
theorem dX1_sortOf_6 : decode cX1_sortOf 6 = .ok (.iload_n 0, 1) := by decide +kernel
theorem dX1_sortOf_7 : decode cX1_sortOf 7 = .ok (.bipush 97, 2) := by decide +kernel
theorem dX1_sortOf_9 : decode cX1_sortOf 9 = .ok (.if_icmp .lt 11, 3) := by decide +kernel
theorem dX1_sortOf_12 : decode cX1_sortOf 12 = .ok (.iload_n 0, 1) := by decide +kernel
theorem dX1_sortOf_13 : decode cX1_sortOf 13 = .ok (.bipush 122, 2) := by decide +kernel
theorem dX1_sortOf_15 : decode cX1_sortOf 15 = .ok (.if_icmp .gt 5, 3) := by decide +kernel
theorem dX1_sortOf_18 : decode cX1_sortOf 18 = .ok (.iconst 1, 1) := by decide +kernel
theorem dX1_sortOf_19 : decode cX1_sortOf 19 = .ok (.ireturn, 1) := by decide +kernel
theorem dX1_sortOf_20 : decode cX1_sortOf 20 = .ok (.iload_n 0, 1) := by decide +kernel
theorem dX1_sortOf_21 : decode cX1_sortOf 21 = .ok (.bipush 48, 2) := by decide +kernel
theorem dX1_sortOf_23 : decode cX1_sortOf 23 = .ok (.if_icmp .lt 11, 3) := by decide +kernel
theorem dX1_sortOf_26 : decode cX1_sortOf 26 = .ok (.iload_n 0, 1) := by decide +kernel
theorem dX1_sortOf_27 : decode cX1_sortOf 27 = .ok (.bipush 57, 2) := by decide +kernel
theorem dX1_sortOf_29 : decode cX1_sortOf 29 = .ok (.if_icmp .gt 5, 3) := by decide +kernel
theorem dX1_sortOf_32 : decode cX1_sortOf 32 = .ok (.iconst 2, 1) := by decide +kernel
theorem dX1_sortOf_33 : decode cX1_sortOf 33 = .ok (.ireturn, 1) := by decide +kernel
theorem dX1_sortOf_34 : decode cX1_sortOf 34 = .ok (.iload_n 0, 1) := by decide +kernel
theorem dX1_sortOf_35 : decode cX1_sortOf 35 = .ok (.bipush 59, 2) := by decide +kernel
theorem dX1_sortOf_37 : decode cX1_sortOf 37 = .ok (.if_icmp .ne 7, 3) := by decide +kernel
theorem dX1_sortOf_40 : decode cX1_sortOf 40 = .ok (.iconst 3, 1) := by decide +kernel
theorem dX1_sortOf_41 : decode cX1_sortOf 41 = .ok (.goto 4, 3) := by decide +kernel
theorem dX1_sortOf_44 : decode cX1_sortOf 44 = .ok (.iconst 4, 1) := by decide +kernel
theorem dX1_sortOf_45 : decode cX1_sortOf 45 = .ok (.ireturn, 1) := by decide +kernel
theorem dX2_init_0 : decode cX2_init 0 = .ok (.aload_n 0, 1) := by decide +kernel
theorem dX2_init_1 : decode cX2_init 1 = .ok (.invokespecial 3, 3) := by decide +kernel
theorem dX2_init_4 : decode cX2_init 4 = .ok (.aload_n 0, 1) := by decide +kernel
theorem dX2_init_5 : decode cX2_init 5 = .ok (.bipush 80, 2) := by decide +kernel
theorem dX2_init_7 : decode cX2_init 7 = .ok (.newarray .int, 2) := by decide +kernel
theorem dX2_init_9 : decode cX2_init 9 = .ok (.putfield 9, 3) := by decide +kernel
theorem dX2_init_12 : decode cX2_init 12 = .ok (.aload_n 0, 1) := by decide +kernel
theorem dX2_init_13 : decode cX2_init 13 = .ok (.bipush 24, 2) := by decide +kernel
theorem dX2_init_15 : decode cX2_init 15 = .ok (.newarray .int, 2) := by decide +kernel
theorem dX2_init_17 : decode cX2_init 17 = .ok (.putfield 15, 3) := by decide +kernel
theorem dX2_init_20 : decode cX2_init 20 = .ok (.aload_n 0, 1) := by decide +kernel
theorem dX2_init_21 : decode cX2_init 21 = .ok (.bipush 10, 2) := by decide +kernel
theorem dX2_init_23 : decode cX2_init 23 = .ok (.newarray .int, 2) := by decide +kernel
theorem dX2_init_25 : decode cX2_init 25 = .ok (.putfield 18, 3) := by decide +kernel
theorem dX2_init_28 : decode cX2_init 28 = .ok (.aload_n 0, 1) := by decide +kernel
theorem dX2_init_29 : decode cX2_init 29 = .ok (.iconst 1, 1) := by decide +kernel
theorem dX2_init_30 : decode cX2_init 30 = .ok (.putfield 21, 3) := by decide +kernel
theorem dX2_init_33 : decode cX2_init 33 = .ok (.iconst 0, 1) := by decide +kernel
theorem dX2_init_34 : decode cX2_init 34 = .ok (.istore_n 1, 1) := by decide +kernel
theorem dX2_init_35 : decode cX2_init 35 = .ok (.iload_n 1, 1) := by decide +kernel
theorem dX2_init_36 : decode cX2_init 36 = .ok (.bipush 16, 2) := by decide +kernel
theorem dX2_init_38 : decode cX2_init 38 = .ok (.if_icmp .ge 51, 3) := by decide +kernel
theorem dX2_init_41 : decode cX2_init 41 = .ok (.aload_n 0, 1) := by decide +kernel
theorem dX2_init_42 : decode cX2_init 42 = .ok (.iload_n 1, 1) := by decide +kernel
theorem dX2_init_43 : decode cX2_init 43 = .ok (.iconst 0, 1) := by decide +kernel
theorem dX2_init_44 : decode cX2_init 44 = .ok (.bipush 90, 2) := by decide +kernel
theorem dX2_init_46 : decode cX2_init 46 = .ok (.bipush 6, 2) := by decide +kernel
theorem dX2_init_48 : decode cX2_init 48 = .ok (.iload_n 1, 1) := by decide +kernel
theorem dX2_init_49 : decode cX2_init 49 = .ok (.imul, 1) := by decide +kernel
theorem dX2_init_50 : decode cX2_init 50 = .ok (.isub, 1) := by decide +kernel
theorem dX2_init_51 : decode cX2_init 51 = .ok (.invokevirtual 25, 3) := by decide +kernel
theorem dX2_init_54 : decode cX2_init 54 = .ok (.aload_n 0, 1) := by decide +kernel
theorem dX2_init_55 : decode cX2_init 55 = .ok (.iload_n 1, 1) := by decide +kernel
theorem dX2_init_56 : decode cX2_init 56 = .ok (.iconst 1, 1) := by decide +kernel
theorem dX2_init_57 : decode cX2_init 57 = .ok (.iload_n 1, 1) := by decide +kernel
theorem dX2_init_58 : decode cX2_init 58 = .ok (.iconst 1, 1) := by decide +kernel
theorem dX2_init_59 : decode cX2_init 59 = .ok (.iadd, 1) := by decide +kernel
theorem dX2_init_60 : decode cX2_init 60 = .ok (.bipush 15, 2) := by decide +kernel
theorem dX2_init_62 : decode cX2_init 62 = .ok (.invokestatic 29, 3) := by decide +kernel
theorem dX2_init_65 : decode cX2_init 65 = .ok (.invokevirtual 25, 3) := by decide +kernel
theorem dX2_init_68 : decode cX2_init 68 = .ok (.aload_n 0, 1) := by decide +kernel
theorem dX2_init_69 : decode cX2_init 69 = .ok (.iload_n 1, 1) := by decide +kernel
theorem dX2_init_70 : decode cX2_init 70 = .ok (.iconst 3, 1) := by decide +kernel
theorem dX2_init_71 : decode cX2_init 71 = .ok (.iconst 1, 1) := by decide +kernel
theorem dX2_init_72 : decode cX2_init 72 = .ok (.invokevirtual 25, 3) := by decide +kernel
theorem dX2_init_75 : decode cX2_init 75 = .ok (.aload_n 0, 1) := by decide +kernel
theorem dX2_init_76 : decode cX2_init 76 = .ok (.iload_n 1, 1) := by decide +kernel
theorem dX2_init_77 : decode cX2_init 77 = .ok (.iconst 4, 1) := by decide +kernel
theorem dX2_init_78 : decode cX2_init 78 = .ok (.bipush 50, 2) := by decide +kernel
theorem dX2_init_80 : decode cX2_init 80 = .ok (.invokevirtual 25, 3) := by decide +kernel
theorem dX2_init_83 : decode cX2_init 83 = .ok (.iinc 1 1, 3) := by decide +kernel
theorem dX2_init_86 : decode cX2_init 86 = .ok (.goto (-51), 3) := by decide +kernel
theorem dX2_init_89 : decode cX2_init 89 = .ok (.iconst 0, 1) := by decide +kernel
theorem dX2_init_90 : decode cX2_init 90 = .ok (.istore_n 1, 1) := by decide +kernel
theorem dX2_init_91 : decode cX2_init 91 = .ok (.iload_n 1, 1) := by decide +kernel
theorem dX2_init_92 : decode cX2_init 92 = .ok (.aload_n 0, 1) := by decide +kernel
theorem dX2_init_93 : decode cX2_init 93 = .ok (.getfield 18, 3) := by decide +kernel
theorem dX2_init_96 : decode cX2_init 96 = .ok (.arraylength, 1) := by decide +kernel
theorem dX2_init_97 : decode cX2_init 97 = .ok (.if_icmp .ge 16, 3) := by decide +kernel
theorem dX2_init_100 : decode cX2_init 100 = .ok (.aload_n 0, 1) := by decide +kernel
theorem dX2_init_101 : decode cX2_init 101 = .ok (.getfield 18, 3) := by decide +kernel
theorem dX2_init_104 : decode cX2_init 104 = .ok (.iload_n 1, 1) := by decide +kernel
theorem dX2_init_105 : decode cX2_init 105 = .ok (.iconst (-1), 1) := by decide +kernel
theorem dX2_init_106 : decode cX2_init 106 = .ok (.iastore, 1) := by decide +kernel
theorem dX2_init_107 : decode cX2_init 107 = .ok (.iinc 1 1, 3) := by decide +kernel
theorem dX2_init_110 : decode cX2_init 110 = .ok (.goto (-19), 3) := by decide +kernel
theorem dX2_init_113 : decode cX2_init 113 = .ok (.return_, 1) := by decide +kernel
theorem dX2_become_0 : decode cX2_become 0 = .ok (.aload_n 1, 1) := by decide +kernel
theorem dX2_become_1 : decode cX2_become 1 = .ok (.getfield 9, 3) := by decide +kernel
theorem dX2_become_4 : decode cX2_become 4 = .ok (.aload_n 0, 1) := by decide +kernel
theorem dX2_become_5 : decode cX2_become 5 = .ok (.getfield 9, 3) := by decide +kernel
theorem dX2_become_8 : decode cX2_become 8 = .ok (.invokestatic 35, 3) := by decide +kernel
theorem dX2_become_11 : decode cX2_become 11 = .ok (.aload_n 1, 1) := by decide +kernel
theorem dX2_become_12 : decode cX2_become 12 = .ok (.getfield 15, 3) := by decide +kernel
theorem dX2_become_15 : decode cX2_become 15 = .ok (.aload_n 0, 1) := by decide +kernel
theorem dX2_become_16 : decode cX2_become 16 = .ok (.getfield 15, 3) := by decide +kernel
theorem dX2_become_19 : decode cX2_become 19 = .ok (.invokestatic 35, 3) := by decide +kernel
theorem dX2_become_22 : decode cX2_become 22 = .ok (.aload_n 1, 1) := by decide +kernel
theorem dX2_become_23 : decode cX2_become 23 = .ok (.getfield 18, 3) := by decide +kernel
theorem dX2_become_26 : decode cX2_become 26 = .ok (.aload_n 0, 1) := by decide +kernel
theorem dX2_become_27 : decode cX2_become 27 = .ok (.getfield 18, 3) := by decide +kernel
theorem dX2_become_30 : decode cX2_become 30 = .ok (.invokestatic 35, 3) := by decide +kernel
theorem dX2_become_33 : decode cX2_become 33 = .ok (.aload_n 0, 1) := by decide +kernel
theorem dX2_become_34 : decode cX2_become 34 = .ok (.aload_n 1, 1) := by decide +kernel
theorem dX2_become_35 : decode cX2_become 35 = .ok (.getfield 39, 3) := by decide +kernel
theorem dX2_become_38 : decode cX2_become 38 = .ok (.putfield 39, 3) := by decide +kernel
theorem dX2_become_41 : decode cX2_become 41 = .ok (.aload_n 0, 1) := by decide +kernel
theorem dX2_become_42 : decode cX2_become 42 = .ok (.aload_n 1, 1) := by decide +kernel
theorem dX2_become_43 : decode cX2_become 43 = .ok (.getfield 42, 3) := by decide +kernel
theorem dX2_become_46 : decode cX2_become 46 = .ok (.putfield 42, 3) := by decide +kernel
theorem dX2_become_49 : decode cX2_become 49 = .ok (.aload_n 0, 1) := by decide +kernel
theorem dX2_become_50 : decode cX2_become 50 = .ok (.aload_n 1, 1) := by decide +kernel
theorem dX2_become_51 : decode cX2_become 51 = .ok (.getfield 45, 3) := by decide +kernel
theorem dX2_become_54 : decode cX2_become 54 = .ok (.putfield 45, 3) := by decide +kernel
theorem dX2_become_57 : decode cX2_become 57 = .ok (.aload_n 0, 1) := by decide +kernel
theorem dX2_become_58 : decode cX2_become 58 = .ok (.aload_n 1, 1) := by decide +kernel
theorem dX2_become_59 : decode cX2_become 59 = .ok (.getfield 48, 3) := by decide +kernel
theorem dX2_become_62 : decode cX2_become 62 = .ok (.putfield 48, 3) := by decide +kernel
theorem dX2_become_65 : decode cX2_become 65 = .ok (.aload_n 0, 1) := by decide +kernel
theorem dX2_become_66 : decode cX2_become 66 = .ok (.aload_n 1, 1) := by decide +kernel
theorem dX2_become_67 : decode cX2_become 67 = .ok (.getfield 21, 3) := by decide +kernel
theorem dX2_become_70 : decode cX2_become 70 = .ok (.putfield 21, 3) := by decide +kernel
theorem dX2_become_73 : decode cX2_become 73 = .ok (.return_, 1) := by decide +kernel
theorem dX2_trait_0 : decode cX2_trait 0 = .ok (.iconst 5, 1) := by decide +kernel
theorem dX2_trait_1 : decode cX2_trait 1 = .ok (.iload_n 1, 1) := by decide +kernel
theorem dX2_trait_2 : decode cX2_trait 2 = .ok (.imul, 1) := by decide +kernel
theorem dX2_trait_3 : decode cX2_trait 3 = .ok (.iload_n 2, 1) := by decide +kernel
theorem dX2_trait_4 : decode cX2_trait 4 = .ok (.iadd, 1) := by decide +kernel
theorem dX2_trait_5 : decode cX2_trait 5 = .ok (.istore_n 3, 1) := by decide +kernel
theorem dX2_trait_6 : decode cX2_trait 6 = .ok (.iload_n 3, 1) := by decide +kernel
theorem dX2_trait_7 : decode cX2_trait 7 = .ok (.ifCond .lt 21, 3) := by decide +kernel
theorem dX2_trait_10 : decode cX2_trait 10 = .ok (.iload_n 3, 1) := by decide +kernel
theorem dX2_trait_11 : decode cX2_trait 11 = .ok (.aload_n 0, 1) := by decide +kernel
theorem dX2_trait_12 : decode cX2_trait 12 = .ok (.getfield 9, 3) := by decide +kernel
theorem dX2_trait_15 : decode cX2_trait 15 = .ok (.arraylength, 1) := by decide +kernel
theorem dX2_trait_16 : decode cX2_trait 16 = .ok (.if_icmp .ge 12, 3) := by decide +kernel
theorem dX2_trait_19 : decode cX2_trait 19 = .ok (.aload_n 0, 1) := by decide +kernel
theorem dX2_trait_20 : decode cX2_trait 20 = .ok (.getfield 9, 3) := by decide +kernel
theorem dX2_trait_23 : decode cX2_trait 23 = .ok (.iload_n 3, 1) := by decide +kernel
theorem dX2_trait_24 : decode cX2_trait 24 = .ok (.iaload, 1) := by decide +kernel
theorem dX2_trait_25 : decode cX2_trait 25 = .ok (.goto 4, 3) := by decide +kernel
theorem dX2_trait_28 : decode cX2_trait 28 = .ok (.iconst 0, 1) := by decide +kernel
theorem dX2_trait_29 : decode cX2_trait 29 = .ok (.ireturn, 1) := by decide +kernel
theorem dX2_setTrait_0 : decode cX2_setTrait 0 = .ok (.aload_n 0, 1) := by decide +kernel
theorem dX2_setTrait_1 : decode cX2_setTrait 1 = .ok (.getfield 9, 3) := by decide +kernel
theorem dX2_setTrait_4 : decode cX2_setTrait 4 = .ok (.iconst 5, 1) := by decide +kernel
theorem dX2_setTrait_5 : decode cX2_setTrait 5 = .ok (.iload_n 1, 1) := by decide +kernel
theorem dX2_setTrait_6 : decode cX2_setTrait 6 = .ok (.imul, 1) := by decide +kernel
theorem dX2_setTrait_7 : decode cX2_setTrait 7 = .ok (.iload_n 2, 1) := by decide +kernel
theorem dX2_setTrait_8 : decode cX2_setTrait 8 = .ok (.iadd, 1) := by decide +kernel
theorem dX2_setTrait_9 : decode cX2_setTrait 9 = .ok (.iload_n 3, 1) := by decide +kernel
theorem dX2_setTrait_10 : decode cX2_setTrait 10 = .ok (.invokestatic 51, 3) := by decide +kernel
theorem dX2_setTrait_13 : decode cX2_setTrait 13 = .ok (.return_, 1) := by decide +kernel
theorem dX2_quality_0 : decode cX2_quality 0 = .ok (.iconst 3, 1) := by decide +kernel
theorem dX2_quality_1 : decode cX2_quality 1 = .ok (.iload_n 1, 1) := by decide +kernel
theorem dX2_quality_2 : decode cX2_quality 2 = .ok (.imul, 1) := by decide +kernel
theorem dX2_quality_3 : decode cX2_quality 3 = .ok (.iload_n 2, 1) := by decide +kernel
theorem dX2_quality_4 : decode cX2_quality 4 = .ok (.iadd, 1) := by decide +kernel
theorem dX2_quality_5 : decode cX2_quality 5 = .ok (.istore_n 3, 1) := by decide +kernel
theorem dX2_quality_6 : decode cX2_quality 6 = .ok (.iload_n 3, 1) := by decide +kernel
theorem dX2_quality_7 : decode cX2_quality 7 = .ok (.ifCond .lt 21, 3) := by decide +kernel
theorem dX2_quality_10 : decode cX2_quality 10 = .ok (.iload_n 3, 1) := by decide +kernel
theorem dX2_quality_11 : decode cX2_quality 11 = .ok (.aload_n 0, 1) := by decide +kernel
theorem dX2_quality_12 : decode cX2_quality 12 = .ok (.getfield 15, 3) := by decide +kernel
theorem dX2_quality_15 : decode cX2_quality 15 = .ok (.arraylength, 1) := by decide +kernel
theorem dX2_quality_16 : decode cX2_quality 16 = .ok (.if_icmp .ge 12, 3) := by decide +kernel
theorem dX2_quality_19 : decode cX2_quality 19 = .ok (.aload_n 0, 1) := by decide +kernel
theorem dX2_quality_20 : decode cX2_quality 20 = .ok (.getfield 15, 3) := by decide +kernel
theorem dX2_quality_23 : decode cX2_quality 23 = .ok (.iload_n 3, 1) := by decide +kernel
theorem dX2_quality_24 : decode cX2_quality 24 = .ok (.iaload, 1) := by decide +kernel
theorem dX2_quality_25 : decode cX2_quality 25 = .ok (.goto 4, 3) := by decide +kernel
theorem dX2_quality_28 : decode cX2_quality 28 = .ok (.iconst 0, 1) := by decide +kernel
theorem dX2_quality_29 : decode cX2_quality 29 = .ok (.ireturn, 1) := by decide +kernel
theorem dX2_setQuality_0 : decode cX2_setQuality 0 = .ok (.aload_n 0, 1) := by decide +kernel
theorem dX2_setQuality_1 : decode cX2_setQuality 1 = .ok (.getfield 15, 3) := by decide +kernel
theorem dX2_setQuality_4 : decode cX2_setQuality 4 = .ok (.iconst 3, 1) := by decide +kernel
theorem dX2_setQuality_5 : decode cX2_setQuality 5 = .ok (.iload_n 1, 1) := by decide +kernel
theorem dX2_setQuality_6 : decode cX2_setQuality 6 = .ok (.imul, 1) := by decide +kernel
theorem dX2_setQuality_7 : decode cX2_setQuality 7 = .ok (.iload_n 2, 1) := by decide +kernel
theorem dX2_setQuality_8 : decode cX2_setQuality 8 = .ok (.iadd, 1) := by decide +kernel
theorem dX2_setQuality_9 : decode cX2_setQuality 9 = .ok (.iload_n 3, 1) := by decide +kernel
theorem dX2_setQuality_10 : decode cX2_setQuality 10 = .ok (.invokestatic 51, 3) := by decide +kernel
theorem dX2_setQuality_13 : decode cX2_setQuality 13 = .ok (.return_, 1) := by decide +kernel
theorem dX2_heldIn_0 : decode cX2_heldIn 0 = .ok (.iload_n 1, 1) := by decide +kernel
theorem dX2_heldIn_1 : decode cX2_heldIn 1 = .ok (.ifCond .lt 21, 3) := by decide +kernel
theorem dX2_heldIn_4 : decode cX2_heldIn 4 = .ok (.iload_n 1, 1) := by decide +kernel
theorem dX2_heldIn_5 : decode cX2_heldIn 5 = .ok (.aload_n 0, 1) := by decide +kernel
theorem dX2_heldIn_6 : decode cX2_heldIn 6 = .ok (.getfield 18, 3) := by decide +kernel
theorem dX2_heldIn_9 : decode cX2_heldIn 9 = .ok (.arraylength, 1) := by decide +kernel
theorem dX2_heldIn_10 : decode cX2_heldIn 10 = .ok (.if_icmp .ge 12, 3) := by decide +kernel
theorem dX2_heldIn_13 : decode cX2_heldIn 13 = .ok (.aload_n 0, 1) := by decide +kernel
theorem dX2_heldIn_14 : decode cX2_heldIn 14 = .ok (.getfield 18, 3) := by decide +kernel
theorem dX2_heldIn_17 : decode cX2_heldIn 17 = .ok (.iload_n 1, 1) := by decide +kernel
theorem dX2_heldIn_18 : decode cX2_heldIn 18 = .ok (.iaload, 1) := by decide +kernel
theorem dX2_heldIn_19 : decode cX2_heldIn 19 = .ok (.goto 4, 3) := by decide +kernel
theorem dX2_heldIn_22 : decode cX2_heldIn 22 = .ok (.iconst (-1), 1) := by decide +kernel
theorem dX2_heldIn_23 : decode cX2_heldIn 23 = .ok (.ireturn, 1) := by decide +kernel
theorem dX2_setSpot_0 : decode cX2_setSpot 0 = .ok (.aload_n 0, 1) := by decide +kernel
theorem dX2_setSpot_1 : decode cX2_setSpot 1 = .ok (.getfield 18, 3) := by decide +kernel
theorem dX2_setSpot_4 : decode cX2_setSpot 4 = .ok (.iload_n 1, 1) := by decide +kernel
theorem dX2_setSpot_5 : decode cX2_setSpot 5 = .ok (.iload_n 2, 1) := by decide +kernel
theorem dX2_setSpot_6 : decode cX2_setSpot 6 = .ok (.invokestatic 51, 3) := by decide +kernel
theorem dX2_setSpot_9 : decode cX2_setSpot 9 = .ok (.return_, 1) := by decide +kernel
theorem dX2_spotsInUse_0 : decode cX2_spotsInUse 0 = .ok (.iconst 0, 1) := by decide +kernel
theorem dX2_spotsInUse_1 : decode cX2_spotsInUse 1 = .ok (.istore_n 1, 1) := by decide +kernel
theorem dX2_spotsInUse_2 : decode cX2_spotsInUse 2 = .ok (.iconst 0, 1) := by decide +kernel
theorem dX2_spotsInUse_3 : decode cX2_spotsInUse 3 = .ok (.istore_n 2, 1) := by decide +kernel
theorem dX2_spotsInUse_4 : decode cX2_spotsInUse 4 = .ok (.iload_n 2, 1) := by decide +kernel
theorem dX2_spotsInUse_5 : decode cX2_spotsInUse 5 = .ok (.aload_n 0, 1) := by decide +kernel
theorem dX2_spotsInUse_6 : decode cX2_spotsInUse 6 = .ok (.getfield 18, 3) := by decide +kernel
theorem dX2_spotsInUse_9 : decode cX2_spotsInUse 9 = .ok (.arraylength, 1) := by decide +kernel
theorem dX2_spotsInUse_10 : decode cX2_spotsInUse 10 = .ok (.if_icmp .ge 21, 3) := by decide +kernel
theorem dX2_spotsInUse_13 : decode cX2_spotsInUse 13 = .ok (.aload_n 0, 1) := by decide +kernel
theorem dX2_spotsInUse_14 : decode cX2_spotsInUse 14 = .ok (.getfield 18, 3) := by decide +kernel
theorem dX2_spotsInUse_17 : decode cX2_spotsInUse 17 = .ok (.iload_n 2, 1) := by decide +kernel
theorem dX2_spotsInUse_18 : decode cX2_spotsInUse 18 = .ok (.iaload, 1) := by decide +kernel
theorem dX2_spotsInUse_19 : decode cX2_spotsInUse 19 = .ok (.ifCond .lt 6, 3) := by decide +kernel
theorem dX2_spotsInUse_22 : decode cX2_spotsInUse 22 = .ok (.iinc 1 1, 3) := by decide +kernel
theorem dX2_spotsInUse_25 : decode cX2_spotsInUse 25 = .ok (.iinc 2 1, 3) := by decide +kernel
theorem dX2_spotsInUse_28 : decode cX2_spotsInUse 28 = .ok (.goto (-24), 3) := by decide +kernel
theorem dX2_spotsInUse_31 : decode cX2_spotsInUse 31 = .ok (.iload_n 1, 1) := by decide +kernel
theorem dX2_spotsInUse_32 : decode cX2_spotsInUse 32 = .ok (.ireturn, 1) := by decide +kernel
theorem dX2_hasWhisper_0 : decode cX2_hasWhisper 0 = .ok (.iload_n 1, 1) := by decide +kernel
theorem dX2_hasWhisper_1 : decode cX2_hasWhisper 1 = .ok (.ifCond .lt 15, 3) := by decide +kernel
theorem dX2_hasWhisper_4 : decode cX2_hasWhisper 4 = .ok (.iload_n 1, 1) := by decide +kernel
theorem dX2_hasWhisper_5 : decode cX2_hasWhisper 5 = .ok (.aload_n 0, 1) := by decide +kernel
theorem dX2_hasWhisper_6 : decode cX2_hasWhisper 6 = .ok (.getfield 39, 3) := by decide +kernel
theorem dX2_hasWhisper_9 : decode cX2_hasWhisper 9 = .ok (.if_icmp .ge 7, 3) := by decide +kernel
theorem dX2_hasWhisper_12 : decode cX2_hasWhisper 12 = .ok (.iconst 1, 1) := by decide +kernel
theorem dX2_hasWhisper_13 : decode cX2_hasWhisper 13 = .ok (.goto 4, 3) := by decide +kernel
theorem dX2_hasWhisper_16 : decode cX2_hasWhisper 16 = .ok (.iconst 0, 1) := by decide +kernel
theorem dX2_hasWhisper_17 : decode cX2_hasWhisper 17 = .ok (.ireturn, 1) := by decide +kernel
theorem dX2_isFull_0 : decode cX2_isFull 0 = .ok (.aload_n 0, 1) := by decide +kernel
theorem dX2_isFull_1 : decode cX2_isFull 1 = .ok (.getfield 39, 3) := by decide +kernel
theorem dX2_isFull_4 : decode cX2_isFull 4 = .ok (.bipush 8, 2) := by decide +kernel
theorem dX2_isFull_6 : decode cX2_isFull 6 = .ok (.if_icmp .lt 7, 3) := by decide +kernel
theorem dX2_isFull_9 : decode cX2_isFull 9 = .ok (.iconst 1, 1) := by decide +kernel
theorem dX2_isFull_10 : decode cX2_isFull 10 = .ok (.goto 4, 3) := by decide +kernel
theorem dX2_isFull_13 : decode cX2_isFull 13 = .ok (.iconst 0, 1) := by decide +kernel
theorem dX2_isFull_14 : decode cX2_isFull 14 = .ok (.ireturn, 1) := by decide +kernel
theorem dX2_addWhisper_0 : decode cX2_addWhisper 0 = .ok (.aload_n 0, 1) := by decide +kernel
theorem dX2_addWhisper_1 : decode cX2_addWhisper 1 = .ok (.invokevirtual 55, 3) := by decide +kernel
theorem dX2_addWhisper_4 : decode cX2_addWhisper 4 = .ok (.ifCond .eq 5, 3) := by decide +kernel
theorem dX2_addWhisper_7 : decode cX2_addWhisper 7 = .ok (.iconst (-1), 1) := by decide +kernel
theorem dX2_addWhisper_8 : decode cX2_addWhisper 8 = .ok (.ireturn, 1) := by decide +kernel
theorem dX2_addWhisper_9 : decode cX2_addWhisper 9 = .ok (.aload_n 0, 1) := by decide +kernel
theorem dX2_addWhisper_10 : decode cX2_addWhisper 10 = .ok (.getfield 39, 3) := by decide +kernel
theorem dX2_addWhisper_13 : decode cX2_addWhisper 13 = .ok (.istore 4, 2) := by decide +kernel
theorem dX2_addWhisper_15 : decode cX2_addWhisper 15 = .ok (.aload_n 0, 1) := by decide +kernel
theorem dX2_addWhisper_16 : decode cX2_addWhisper 16 = .ok (.dup, 1) := by decide +kernel
theorem dX2_addWhisper_17 : decode cX2_addWhisper 17 = .ok (.getfield 39, 3) := by decide +kernel
theorem dX2_addWhisper_20 : decode cX2_addWhisper 20 = .ok (.iconst 1, 1) := by decide +kernel
theorem dX2_addWhisper_21 : decode cX2_addWhisper 21 = .ok (.iadd, 1) := by decide +kernel
theorem dX2_addWhisper_22 : decode cX2_addWhisper 22 = .ok (.putfield 39, 3) := by decide +kernel
theorem dX2_addWhisper_25 : decode cX2_addWhisper 25 = .ok (.aload_n 0, 1) := by decide +kernel
theorem dX2_addWhisper_26 : decode cX2_addWhisper 26 = .ok (.iload 4, 2) := by decide +kernel
theorem dX2_addWhisper_28 : decode cX2_addWhisper 28 = .ok (.iconst 0, 1) := by decide +kernel
theorem dX2_addWhisper_29 : decode cX2_addWhisper 29 = .ok (.iload_n 1, 1) := by decide +kernel
theorem dX2_addWhisper_30 : decode cX2_addWhisper 30 = .ok (.invokevirtual 59, 3) := by decide +kernel
theorem dX2_addWhisper_33 : decode cX2_addWhisper 33 = .ok (.aload_n 0, 1) := by decide +kernel
theorem dX2_addWhisper_34 : decode cX2_addWhisper 34 = .ok (.iload 4, 2) := by decide +kernel
theorem dX2_addWhisper_36 : decode cX2_addWhisper 36 = .ok (.iconst 1, 1) := by decide +kernel
theorem dX2_addWhisper_37 : decode cX2_addWhisper 37 = .ok (.iload_n 2, 1) := by decide +kernel
theorem dX2_addWhisper_38 : decode cX2_addWhisper 38 = .ok (.invokevirtual 59, 3) := by decide +kernel
theorem dX2_addWhisper_41 : decode cX2_addWhisper 41 = .ok (.aload_n 0, 1) := by decide +kernel
theorem dX2_addWhisper_42 : decode cX2_addWhisper 42 = .ok (.iload 4, 2) := by decide +kernel
theorem dX2_addWhisper_44 : decode cX2_addWhisper 44 = .ok (.iconst 2, 1) := by decide +kernel
theorem dX2_addWhisper_45 : decode cX2_addWhisper 45 = .ok (.iload_n 3, 1) := by decide +kernel
theorem dX2_addWhisper_46 : decode cX2_addWhisper 46 = .ok (.invokevirtual 59, 3) := by decide +kernel
theorem dX2_addWhisper_49 : decode cX2_addWhisper 49 = .ok (.iload 4, 2) := by decide +kernel
theorem dX2_addWhisper_51 : decode cX2_addWhisper 51 = .ok (.ireturn, 1) := by decide +kernel
theorem dX2_steepAt_0 : decode cX2_steepAt 0 = .ok (.iconst 0, 1) := by decide +kernel
theorem dX2_steepAt_1 : decode cX2_steepAt 1 = .ok (.aload_n 0, 1) := by decide +kernel
theorem dX2_steepAt_2 : decode cX2_steepAt 2 = .ok (.iload_n 1, 1) := by decide +kernel
theorem dX2_steepAt_3 : decode cX2_steepAt 3 = .ok (.iconst 0, 1) := by decide +kernel
theorem dX2_steepAt_4 : decode cX2_steepAt 4 = .ok (.invokevirtual 62, 3) := by decide +kernel
theorem dX2_steepAt_7 : decode cX2_steepAt 7 = .ok (.aload_n 0, 1) := by decide +kernel
theorem dX2_steepAt_8 : decode cX2_steepAt 8 = .ok (.aload_n 0, 1) := by decide +kernel
theorem dX2_steepAt_9 : decode cX2_steepAt 9 = .ok (.iload_n 1, 1) := by decide +kernel
theorem dX2_steepAt_10 : decode cX2_steepAt 10 = .ok (.iconst 1, 1) := by decide +kernel
theorem dX2_steepAt_11 : decode cX2_steepAt 11 = .ok (.invokevirtual 62, 3) := by decide +kernel
theorem dX2_steepAt_14 : decode cX2_steepAt 14 = .ok (.iconst 0, 1) := by decide +kernel
theorem dX2_steepAt_15 : decode cX2_steepAt 15 = .ok (.invokevirtual 62, 3) := by decide +kernel
theorem dX2_steepAt_18 : decode cX2_steepAt 18 = .ok (.isub, 1) := by decide +kernel
theorem dX2_steepAt_19 : decode cX2_steepAt 19 = .ok (.invokestatic 65, 3) := by decide +kernel
theorem dX2_steepAt_22 : decode cX2_steepAt 22 = .ok (.ireturn, 1) := by decide +kernel
theorem dX2_runningCorners_0 : decode cX2_runningCorners 0 = .ok (.iconst 0, 1) := by decide +kernel
theorem dX2_runningCorners_1 : decode cX2_runningCorners 1 = .ok (.istore_n 1, 1) := by decide +kernel
theorem dX2_runningCorners_2 : decode cX2_runningCorners 2 = .ok (.iconst 0, 1) := by decide +kernel
theorem dX2_runningCorners_3 : decode cX2_runningCorners 3 = .ok (.istore_n 2, 1) := by decide +kernel
theorem dX2_runningCorners_4 : decode cX2_runningCorners 4 = .ok (.iload_n 2, 1) := by decide +kernel
theorem dX2_runningCorners_5 : decode cX2_runningCorners 5 = .ok (.bipush 16, 2) := by decide +kernel
theorem dX2_runningCorners_7 : decode cX2_runningCorners 7 = .ok (.if_icmp .ge 23, 3) := by decide +kernel
theorem dX2_runningCorners_10 : decode cX2_runningCorners 10 = .ok (.aload_n 0, 1) := by decide +kernel
theorem dX2_runningCorners_11 : decode cX2_runningCorners 11 = .ok (.iload_n 2, 1) := by decide +kernel
theorem dX2_runningCorners_12 : decode cX2_runningCorners 12 = .ok (.invokevirtual 68, 3) := by decide +kernel
theorem dX2_runningCorners_15 : decode cX2_runningCorners 15 = .ok (.ifCond .le 9, 3) := by decide +kernel
theorem dX2_runningCorners_18 : decode cX2_runningCorners 18 = .ok (.iload_n 1, 1) := by decide +kernel
theorem dX2_runningCorners_19 : decode cX2_runningCorners 19 = .ok (.iconst 1, 1) := by decide +kernel
theorem dX2_runningCorners_20 : decode cX2_runningCorners 20 = .ok (.iload_n 2, 1) := by decide +kernel
theorem dX2_runningCorners_21 : decode cX2_runningCorners 21 = .ok (.ishl, 1) := by decide +kernel
theorem dX2_runningCorners_22 : decode cX2_runningCorners 22 = .ok (.ior, 1) := by decide +kernel
theorem dX2_runningCorners_23 : decode cX2_runningCorners 23 = .ok (.istore_n 1, 1) := by decide +kernel
theorem dX2_runningCorners_24 : decode cX2_runningCorners 24 = .ok (.iinc 2 1, 3) := by decide +kernel
theorem dX2_runningCorners_27 : decode cX2_runningCorners 27 = .ok (.goto (-23), 3) := by decide +kernel
theorem dX2_runningCorners_30 : decode cX2_runningCorners 30 = .ok (.iload_n 1, 1) := by decide +kernel
theorem dX2_runningCorners_31 : decode cX2_runningCorners 31 = .ok (.ireturn, 1) := by decide +kernel
theorem dX2_weightAt_0 : decode cX2_weightAt 0 = .ok (.aload_n 0, 1) := by decide +kernel
theorem dX2_weightAt_1 : decode cX2_weightAt 1 = .ok (.iload_n 1, 1) := by decide +kernel
theorem dX2_weightAt_2 : decode cX2_weightAt 2 = .ok (.iconst 1, 1) := by decide +kernel
theorem dX2_weightAt_3 : decode cX2_weightAt 3 = .ok (.invokevirtual 72, 3) := by decide +kernel
theorem dX2_weightAt_6 : decode cX2_weightAt 6 = .ok (.iload_n 2, 1) := by decide +kernel
theorem dX2_weightAt_7 : decode cX2_weightAt 7 = .ok (.if_icmp .ne 12, 3) := by decide +kernel
theorem dX2_weightAt_10 : decode cX2_weightAt 10 = .ok (.aload_n 0, 1) := by decide +kernel
theorem dX2_weightAt_11 : decode cX2_weightAt 11 = .ok (.iload_n 1, 1) := by decide +kernel
theorem dX2_weightAt_12 : decode cX2_weightAt 12 = .ok (.iconst 2, 1) := by decide +kernel
theorem dX2_weightAt_13 : decode cX2_weightAt 13 = .ok (.invokevirtual 72, 3) := by decide +kernel
theorem dX2_weightAt_16 : decode cX2_weightAt 16 = .ok (.goto 4, 3) := by decide +kernel
theorem dX2_weightAt_19 : decode cX2_weightAt 19 = .ok (.iconst 0, 1) := by decide +kernel
theorem dX2_weightAt_20 : decode cX2_weightAt 20 = .ok (.ireturn, 1) := by decide +kernel
theorem dX2_loudAt_0 : decode cX2_loudAt 0 = .ok (.iconst 0, 1) := by decide +kernel
theorem dX2_loudAt_1 : decode cX2_loudAt 1 = .ok (.istore_n 2, 1) := by decide +kernel
theorem dX2_loudAt_2 : decode cX2_loudAt 2 = .ok (.iconst 0, 1) := by decide +kernel
theorem dX2_loudAt_3 : decode cX2_loudAt 3 = .ok (.istore_n 3, 1) := by decide +kernel
theorem dX2_loudAt_4 : decode cX2_loudAt 4 = .ok (.iload_n 3, 1) := by decide +kernel
theorem dX2_loudAt_5 : decode cX2_loudAt 5 = .ok (.aload_n 0, 1) := by decide +kernel
theorem dX2_loudAt_6 : decode cX2_loudAt 6 = .ok (.getfield 39, 3) := by decide +kernel
theorem dX2_loudAt_9 : decode cX2_loudAt 9 = .ok (.if_icmp .ge 18, 3) := by decide +kernel
theorem dX2_loudAt_12 : decode cX2_loudAt 12 = .ok (.iload_n 2, 1) := by decide +kernel
theorem dX2_loudAt_13 : decode cX2_loudAt 13 = .ok (.aload_n 0, 1) := by decide +kernel
theorem dX2_loudAt_14 : decode cX2_loudAt 14 = .ok (.iload_n 3, 1) := by decide +kernel
theorem dX2_loudAt_15 : decode cX2_loudAt 15 = .ok (.iload_n 1, 1) := by decide +kernel
theorem dX2_loudAt_16 : decode cX2_loudAt 16 = .ok (.invokevirtual 75, 3) := by decide +kernel
theorem dX2_loudAt_19 : decode cX2_loudAt 19 = .ok (.iadd, 1) := by decide +kernel
theorem dX2_loudAt_20 : decode cX2_loudAt 20 = .ok (.istore_n 2, 1) := by decide +kernel
theorem dX2_loudAt_21 : decode cX2_loudAt 21 = .ok (.iinc 3 1, 3) := by decide +kernel
theorem dX2_loudAt_24 : decode cX2_loudAt 24 = .ok (.goto (-20), 3) := by decide +kernel
theorem dX2_loudAt_27 : decode cX2_loudAt 27 = .ok (.iload_n 2, 1) := by decide +kernel
theorem dX2_loudAt_28 : decode cX2_loudAt 28 = .ok (.ireturn, 1) := by decide +kernel
theorem dX2_isHeardAt_0 : decode cX2_isHeardAt 0 = .ok (.aload_n 0, 1) := by decide +kernel
theorem dX2_isHeardAt_1 : decode cX2_isHeardAt 1 = .ok (.iload_n 1, 1) := by decide +kernel
theorem dX2_isHeardAt_2 : decode cX2_isHeardAt 2 = .ok (.invokevirtual 78, 3) := by decide +kernel
theorem dX2_isHeardAt_5 : decode cX2_isHeardAt 5 = .ok (.aload_n 0, 1) := by decide +kernel
theorem dX2_isHeardAt_6 : decode cX2_isHeardAt 6 = .ok (.iload_n 1, 1) := by decide +kernel
theorem dX2_isHeardAt_7 : decode cX2_isHeardAt 7 = .ok (.iconst 4, 1) := by decide +kernel
theorem dX2_isHeardAt_8 : decode cX2_isHeardAt 8 = .ok (.invokevirtual 62, 3) := by decide +kernel
theorem dX2_isHeardAt_11 : decode cX2_isHeardAt 11 = .ok (.if_icmp .lt 7, 3) := by decide +kernel
theorem dX2_isHeardAt_14 : decode cX2_isHeardAt 14 = .ok (.iconst 1, 1) := by decide +kernel
theorem dX2_isHeardAt_15 : decode cX2_isHeardAt 15 = .ok (.goto 4, 3) := by decide +kernel
theorem dX2_isHeardAt_18 : decode cX2_isHeardAt 18 = .ok (.iconst 0, 1) := by decide +kernel
theorem dX2_isHeardAt_19 : decode cX2_isHeardAt 19 = .ok (.ireturn, 1) := by decide +kernel
theorem dX2_heardCorners_0 : decode cX2_heardCorners 0 = .ok (.iconst 0, 1) := by decide +kernel
theorem dX2_heardCorners_1 : decode cX2_heardCorners 1 = .ok (.istore_n 1, 1) := by decide +kernel
theorem dX2_heardCorners_2 : decode cX2_heardCorners 2 = .ok (.iconst 0, 1) := by decide +kernel
theorem dX2_heardCorners_3 : decode cX2_heardCorners 3 = .ok (.istore_n 2, 1) := by decide +kernel
theorem dX2_heardCorners_4 : decode cX2_heardCorners 4 = .ok (.iload_n 2, 1) := by decide +kernel
theorem dX2_heardCorners_5 : decode cX2_heardCorners 5 = .ok (.bipush 16, 2) := by decide +kernel
theorem dX2_heardCorners_7 : decode cX2_heardCorners 7 = .ok (.if_icmp .ge 23, 3) := by decide +kernel
theorem dX2_heardCorners_10 : decode cX2_heardCorners 10 = .ok (.aload_n 0, 1) := by decide +kernel
theorem dX2_heardCorners_11 : decode cX2_heardCorners 11 = .ok (.iload_n 2, 1) := by decide +kernel
theorem dX2_heardCorners_12 : decode cX2_heardCorners 12 = .ok (.invokevirtual 81, 3) := by decide +kernel
theorem dX2_heardCorners_15 : decode cX2_heardCorners 15 = .ok (.ifCond .eq 9, 3) := by decide +kernel
theorem dX2_heardCorners_18 : decode cX2_heardCorners 18 = .ok (.iload_n 1, 1) := by decide +kernel
theorem dX2_heardCorners_19 : decode cX2_heardCorners 19 = .ok (.iconst 1, 1) := by decide +kernel
theorem dX2_heardCorners_20 : decode cX2_heardCorners 20 = .ok (.iload_n 2, 1) := by decide +kernel
theorem dX2_heardCorners_21 : decode cX2_heardCorners 21 = .ok (.ishl, 1) := by decide +kernel
theorem dX2_heardCorners_22 : decode cX2_heardCorners 22 = .ok (.ior, 1) := by decide +kernel
theorem dX2_heardCorners_23 : decode cX2_heardCorners 23 = .ok (.istore_n 1, 1) := by decide +kernel
theorem dX2_heardCorners_24 : decode cX2_heardCorners 24 = .ok (.iinc 2 1, 3) := by decide +kernel
theorem dX2_heardCorners_27 : decode cX2_heardCorners 27 = .ok (.goto (-23), 3) := by decide +kernel
theorem dX2_heardCorners_30 : decode cX2_heardCorners 30 = .ok (.iload_n 1, 1) := by decide +kernel
theorem dX2_heardCorners_31 : decode cX2_heardCorners 31 = .ok (.ireturn, 1) := by decide +kernel
theorem dX2_rentOf_0 : decode cX2_rentOf 0 = .ok (.aload_n 0, 1) := by decide +kernel
theorem dX2_rentOf_1 : decode cX2_rentOf 1 = .ok (.iload_n 1, 1) := by decide +kernel
theorem dX2_rentOf_2 : decode cX2_rentOf 2 = .ok (.iconst 0, 1) := by decide +kernel
theorem dX2_rentOf_3 : decode cX2_rentOf 3 = .ok (.invokevirtual 62, 3) := by decide +kernel
theorem dX2_rentOf_6 : decode cX2_rentOf 6 = .ok (.iconst 0, 1) := by decide +kernel
theorem dX2_rentOf_7 : decode cX2_rentOf 7 = .ok (.bipush 50, 2) := by decide +kernel
theorem dX2_rentOf_9 : decode cX2_rentOf 9 = .ok (.aload_n 0, 1) := by decide +kernel
theorem dX2_rentOf_10 : decode cX2_rentOf 10 = .ok (.iload_n 1, 1) := by decide +kernel
theorem dX2_rentOf_11 : decode cX2_rentOf 11 = .ok (.invokevirtual 78, 3) := by decide +kernel
theorem dX2_rentOf_14 : decode cX2_rentOf 14 = .ok (.isub, 1) := by decide +kernel
theorem dX2_rentOf_15 : decode cX2_rentOf 15 = .ok (.invokestatic 65, 3) := by decide +kernel
theorem dX2_rentOf_18 : decode cX2_rentOf 18 = .ok (.iadd, 1) := by decide +kernel
theorem dX2_rentOf_19 : decode cX2_rentOf 19 = .ok (.ireturn, 1) := by decide +kernel
theorem dX2_heightOf_0 : decode cX2_heightOf 0 = .ok (.aload_n 0, 1) := by decide +kernel
theorem dX2_heightOf_1 : decode cX2_heightOf 1 = .ok (.aload_n 0, 1) := by decide +kernel
theorem dX2_heightOf_2 : decode cX2_heightOf 2 = .ok (.iload_n 1, 1) := by decide +kernel
theorem dX2_heightOf_3 : decode cX2_heightOf 3 = .ok (.iconst 1, 1) := by decide +kernel
theorem dX2_heightOf_4 : decode cX2_heightOf 4 = .ok (.invokevirtual 72, 3) := by decide +kernel
theorem dX2_heightOf_7 : decode cX2_heightOf 7 = .ok (.iconst 0, 1) := by decide +kernel
theorem dX2_heightOf_8 : decode cX2_heightOf 8 = .ok (.invokevirtual 62, 3) := by decide +kernel
theorem dX2_heightOf_11 : decode cX2_heightOf 11 = .ok (.ireturn, 1) := by decide +kernel
theorem dX2_whispersAt_0 : decode cX2_whispersAt 0 = .ok (.iconst 0, 1) := by decide +kernel
theorem dX2_whispersAt_1 : decode cX2_whispersAt 1 = .ok (.istore_n 2, 1) := by decide +kernel
theorem dX2_whispersAt_2 : decode cX2_whispersAt 2 = .ok (.iconst 0, 1) := by decide +kernel
theorem dX2_whispersAt_3 : decode cX2_whispersAt 3 = .ok (.istore_n 3, 1) := by decide +kernel
theorem dX2_whispersAt_4 : decode cX2_whispersAt 4 = .ok (.iload_n 3, 1) := by decide +kernel
theorem dX2_whispersAt_5 : decode cX2_whispersAt 5 = .ok (.aload_n 0, 1) := by decide +kernel
theorem dX2_whispersAt_6 : decode cX2_whispersAt 6 = .ok (.getfield 39, 3) := by decide +kernel
theorem dX2_whispersAt_9 : decode cX2_whispersAt 9 = .ok (.if_icmp .ge 22, 3) := by decide +kernel
theorem dX2_whispersAt_12 : decode cX2_whispersAt 12 = .ok (.aload_n 0, 1) := by decide +kernel
theorem dX2_whispersAt_13 : decode cX2_whispersAt 13 = .ok (.iload_n 3, 1) := by decide +kernel
theorem dX2_whispersAt_14 : decode cX2_whispersAt 14 = .ok (.iconst 1, 1) := by decide +kernel
theorem dX2_whispersAt_15 : decode cX2_whispersAt 15 = .ok (.invokevirtual 72, 3) := by decide +kernel
theorem dX2_whispersAt_18 : decode cX2_whispersAt 18 = .ok (.iload_n 1, 1) := by decide +kernel
theorem dX2_whispersAt_19 : decode cX2_whispersAt 19 = .ok (.if_icmp .ne 6, 3) := by decide +kernel
theorem dX2_whispersAt_22 : decode cX2_whispersAt 22 = .ok (.iinc 2 1, 3) := by decide +kernel
theorem dX2_whispersAt_25 : decode cX2_whispersAt 25 = .ok (.iinc 3 1, 3) := by decide +kernel
theorem dX2_whispersAt_28 : decode cX2_whispersAt 28 = .ok (.goto (-24), 3) := by decide +kernel
theorem dX2_whispersAt_31 : decode cX2_whispersAt 31 = .ok (.iload_n 2, 1) := by decide +kernel
theorem dX2_whispersAt_32 : decode cX2_whispersAt 32 = .ok (.ireturn, 1) := by decide +kernel
theorem dX2_weightOfAll_0 : decode cX2_weightOfAll 0 = .ok (.iconst 0, 1) := by decide +kernel
theorem dX2_weightOfAll_1 : decode cX2_weightOfAll 1 = .ok (.istore_n 1, 1) := by decide +kernel
theorem dX2_weightOfAll_2 : decode cX2_weightOfAll 2 = .ok (.iconst 0, 1) := by decide +kernel
theorem dX2_weightOfAll_3 : decode cX2_weightOfAll 3 = .ok (.istore_n 2, 1) := by decide +kernel
theorem dX2_weightOfAll_4 : decode cX2_weightOfAll 4 = .ok (.iload_n 2, 1) := by decide +kernel
theorem dX2_weightOfAll_5 : decode cX2_weightOfAll 5 = .ok (.aload_n 0, 1) := by decide +kernel
theorem dX2_weightOfAll_6 : decode cX2_weightOfAll 6 = .ok (.getfield 39, 3) := by decide +kernel
theorem dX2_weightOfAll_9 : decode cX2_weightOfAll 9 = .ok (.if_icmp .ge 18, 3) := by decide +kernel
theorem dX2_weightOfAll_12 : decode cX2_weightOfAll 12 = .ok (.iload_n 1, 1) := by decide +kernel
theorem dX2_weightOfAll_13 : decode cX2_weightOfAll 13 = .ok (.aload_n 0, 1) := by decide +kernel
theorem dX2_weightOfAll_14 : decode cX2_weightOfAll 14 = .ok (.iload_n 2, 1) := by decide +kernel
theorem dX2_weightOfAll_15 : decode cX2_weightOfAll 15 = .ok (.iconst 2, 1) := by decide +kernel
theorem dX2_weightOfAll_16 : decode cX2_weightOfAll 16 = .ok (.invokevirtual 72, 3) := by decide +kernel
theorem dX2_weightOfAll_19 : decode cX2_weightOfAll 19 = .ok (.iadd, 1) := by decide +kernel
theorem dX2_weightOfAll_20 : decode cX2_weightOfAll 20 = .ok (.istore_n 1, 1) := by decide +kernel
theorem dX2_weightOfAll_21 : decode cX2_weightOfAll 21 = .ok (.iinc 2 1, 3) := by decide +kernel
theorem dX2_weightOfAll_24 : decode cX2_weightOfAll 24 = .ok (.goto (-20), 3) := by decide +kernel
theorem dX2_weightOfAll_27 : decode cX2_weightOfAll 27 = .ok (.iload_n 1, 1) := by decide +kernel
theorem dX2_weightOfAll_28 : decode cX2_weightOfAll 28 = .ok (.ireturn, 1) := by decide +kernel
theorem dX2_sandOfAll_0 : decode cX2_sandOfAll 0 = .ok (.iconst 0, 1) := by decide +kernel
theorem dX2_sandOfAll_1 : decode cX2_sandOfAll 1 = .ok (.istore_n 1, 1) := by decide +kernel
theorem dX2_sandOfAll_2 : decode cX2_sandOfAll 2 = .ok (.iconst 0, 1) := by decide +kernel
theorem dX2_sandOfAll_3 : decode cX2_sandOfAll 3 = .ok (.istore_n 2, 1) := by decide +kernel
theorem dX2_sandOfAll_4 : decode cX2_sandOfAll 4 = .ok (.iload_n 2, 1) := by decide +kernel
theorem dX2_sandOfAll_5 : decode cX2_sandOfAll 5 = .ok (.bipush 16, 2) := by decide +kernel
theorem dX2_sandOfAll_7 : decode cX2_sandOfAll 7 = .ok (.if_icmp .ge 18, 3) := by decide +kernel
theorem dX2_sandOfAll_10 : decode cX2_sandOfAll 10 = .ok (.iload_n 1, 1) := by decide +kernel
theorem dX2_sandOfAll_11 : decode cX2_sandOfAll 11 = .ok (.aload_n 0, 1) := by decide +kernel
theorem dX2_sandOfAll_12 : decode cX2_sandOfAll 12 = .ok (.iload_n 2, 1) := by decide +kernel
theorem dX2_sandOfAll_13 : decode cX2_sandOfAll 13 = .ok (.iconst 2, 1) := by decide +kernel
theorem dX2_sandOfAll_14 : decode cX2_sandOfAll 14 = .ok (.invokevirtual 62, 3) := by decide +kernel
theorem dX2_sandOfAll_17 : decode cX2_sandOfAll 17 = .ok (.iadd, 1) := by decide +kernel
theorem dX2_sandOfAll_18 : decode cX2_sandOfAll 18 = .ok (.istore_n 1, 1) := by decide +kernel
theorem dX2_sandOfAll_19 : decode cX2_sandOfAll 19 = .ok (.iinc 2 1, 3) := by decide +kernel
theorem dX2_sandOfAll_22 : decode cX2_sandOfAll 22 = .ok (.goto (-18), 3) := by decide +kernel
theorem dX2_sandOfAll_25 : decode cX2_sandOfAll 25 = .ok (.iload_n 1, 1) := by decide +kernel
theorem dX2_sandOfAll_26 : decode cX2_sandOfAll 26 = .ok (.ireturn, 1) := by decide +kernel
theorem dX2_costOf_0 : decode cX2_costOf 0 = .ok (.iconst 0, 1) := by decide +kernel
theorem dX2_costOf_1 : decode cX2_costOf 1 = .ok (.istore_n 2, 1) := by decide +kernel
theorem dX2_costOf_2 : decode cX2_costOf 2 = .ok (.iconst 0, 1) := by decide +kernel
theorem dX2_costOf_3 : decode cX2_costOf 3 = .ok (.istore_n 3, 1) := by decide +kernel
theorem dX2_costOf_4 : decode cX2_costOf 4 = .ok (.iload_n 3, 1) := by decide +kernel
theorem dX2_costOf_5 : decode cX2_costOf 5 = .ok (.bipush 16, 2) := by decide +kernel
theorem dX2_costOf_7 : decode cX2_costOf 7 = .ok (.if_icmp .ge 26, 3) := by decide +kernel
theorem dX2_costOf_10 : decode cX2_costOf 10 = .ok (.iload_n 1, 1) := by decide +kernel
theorem dX2_costOf_11 : decode cX2_costOf 11 = .ok (.iload_n 3, 1) := by decide +kernel
theorem dX2_costOf_12 : decode cX2_costOf 12 = .ok (.invokestatic 85, 3) := by decide +kernel
theorem dX2_costOf_15 : decode cX2_costOf 15 = .ok (.ifCond .eq 12, 3) := by decide +kernel
theorem dX2_costOf_18 : decode cX2_costOf 18 = .ok (.iload_n 2, 1) := by decide +kernel
theorem dX2_costOf_19 : decode cX2_costOf 19 = .ok (.aload_n 0, 1) := by decide +kernel
theorem dX2_costOf_20 : decode cX2_costOf 20 = .ok (.iload_n 3, 1) := by decide +kernel
theorem dX2_costOf_21 : decode cX2_costOf 21 = .ok (.iconst 3, 1) := by decide +kernel
theorem dX2_costOf_22 : decode cX2_costOf 22 = .ok (.invokevirtual 62, 3) := by decide +kernel
theorem dX2_costOf_25 : decode cX2_costOf 25 = .ok (.iadd, 1) := by decide +kernel
theorem dX2_costOf_26 : decode cX2_costOf 26 = .ok (.istore_n 2, 1) := by decide +kernel
theorem dX2_costOf_27 : decode cX2_costOf 27 = .ok (.iinc 3 1, 3) := by decide +kernel
theorem dX2_costOf_30 : decode cX2_costOf 30 = .ok (.goto (-26), 3) := by decide +kernel
theorem dX2_costOf_33 : decode cX2_costOf 33 = .ok (.iload_n 2, 1) := by decide +kernel
theorem dX2_costOf_34 : decode cX2_costOf 34 = .ok (.ireturn, 1) := by decide +kernel
theorem dX2_sandAll_0 : decode cX2_sandAll 0 = .ok (.iconst 0, 1) := by decide +kernel
theorem dX2_sandAll_1 : decode cX2_sandAll 1 = .ok (.istore_n 2, 1) := by decide +kernel
theorem dX2_sandAll_2 : decode cX2_sandAll 2 = .ok (.iload_n 2, 1) := by decide +kernel
theorem dX2_sandAll_3 : decode cX2_sandAll 3 = .ok (.bipush 16, 2) := by decide +kernel
theorem dX2_sandAll_5 : decode cX2_sandAll 5 = .ok (.if_icmp .ge 25, 3) := by decide +kernel
theorem dX2_sandAll_8 : decode cX2_sandAll 8 = .ok (.iload_n 1, 1) := by decide +kernel
theorem dX2_sandAll_9 : decode cX2_sandAll 9 = .ok (.iload_n 2, 1) := by decide +kernel
theorem dX2_sandAll_10 : decode cX2_sandAll 10 = .ok (.invokestatic 85, 3) := by decide +kernel
theorem dX2_sandAll_13 : decode cX2_sandAll 13 = .ok (.ifCond .eq 11, 3) := by decide +kernel
theorem dX2_sandAll_16 : decode cX2_sandAll 16 = .ok (.aload_n 0, 1) := by decide +kernel
theorem dX2_sandAll_17 : decode cX2_sandAll 17 = .ok (.iload_n 2, 1) := by decide +kernel
theorem dX2_sandAll_18 : decode cX2_sandAll 18 = .ok (.iconst 2, 1) := by decide +kernel
theorem dX2_sandAll_19 : decode cX2_sandAll 19 = .ok (.bipush 9, 2) := by decide +kernel
theorem dX2_sandAll_21 : decode cX2_sandAll 21 = .ok (.invokevirtual 25, 3) := by decide +kernel
theorem dX2_sandAll_24 : decode cX2_sandAll 24 = .ok (.iinc 2 1, 3) := by decide +kernel
theorem dX2_sandAll_27 : decode cX2_sandAll 27 = .ok (.goto (-25), 3) := by decide +kernel
theorem dX2_sandAll_30 : decode cX2_sandAll 30 = .ok (.return_, 1) := by decide +kernel
theorem dX2_speedOf_0 : decode cX2_speedOf 0 = .ok (.aload_n 0, 1) := by decide +kernel
theorem dX2_speedOf_1 : decode cX2_speedOf 1 = .ok (.iload_n 1, 1) := by decide +kernel
theorem dX2_speedOf_2 : decode cX2_speedOf 2 = .ok (.iconst 1, 1) := by decide +kernel
theorem dX2_speedOf_3 : decode cX2_speedOf 3 = .ok (.invokevirtual 72, 3) := by decide +kernel
theorem dX2_speedOf_6 : decode cX2_speedOf 6 = .ok (.istore_n 2, 1) := by decide +kernel
theorem dX2_speedOf_7 : decode cX2_speedOf 7 = .ok (.aload_n 0, 1) := by decide +kernel
theorem dX2_speedOf_8 : decode cX2_speedOf 8 = .ok (.iload_n 2, 1) := by decide +kernel
theorem dX2_speedOf_9 : decode cX2_speedOf 9 = .ok (.iconst 2, 1) := by decide +kernel
theorem dX2_speedOf_10 : decode cX2_speedOf 10 = .ok (.invokevirtual 62, 3) := by decide +kernel
theorem dX2_speedOf_13 : decode cX2_speedOf 13 = .ok (.istore_n 3, 1) := by decide +kernel
theorem dX2_speedOf_14 : decode cX2_speedOf 14 = .ok (.iconst 3, 1) := by decide +kernel
theorem dX2_speedOf_15 : decode cX2_speedOf 15 = .ok (.aload_n 0, 1) := by decide +kernel
theorem dX2_speedOf_16 : decode cX2_speedOf 16 = .ok (.iload_n 2, 1) := by decide +kernel
theorem dX2_speedOf_17 : decode cX2_speedOf 17 = .ok (.invokevirtual 68, 3) := by decide +kernel
theorem dX2_speedOf_20 : decode cX2_speedOf 20 = .ok (.bipush 10, 2) := by decide +kernel
theorem dX2_speedOf_22 : decode cX2_speedOf 22 = .ok (.idiv, 1) := by decide +kernel
theorem dX2_speedOf_23 : decode cX2_speedOf 23 = .ok (.invokestatic 29, 3) := by decide +kernel
theorem dX2_speedOf_26 : decode cX2_speedOf 26 = .ok (.iconst 1, 1) := by decide +kernel
theorem dX2_speedOf_27 : decode cX2_speedOf 27 = .ok (.iadd, 1) := by decide +kernel
theorem dX2_speedOf_28 : decode cX2_speedOf 28 = .ok (.istore 4, 2) := by decide +kernel
theorem dX2_speedOf_30 : decode cX2_speedOf 30 = .ok (.iconst 0, 1) := by decide +kernel
theorem dX2_speedOf_31 : decode cX2_speedOf 31 = .ok (.iload 4, 2) := by decide +kernel
theorem dX2_speedOf_33 : decode cX2_speedOf 33 = .ok (.iload_n 3, 1) := by decide +kernel
theorem dX2_speedOf_34 : decode cX2_speedOf 34 = .ok (.isub, 1) := by decide +kernel
theorem dX2_speedOf_35 : decode cX2_speedOf 35 = .ok (.invokestatic 65, 3) := by decide +kernel
theorem dX2_speedOf_38 : decode cX2_speedOf 38 = .ok (.istore 5, 2) := by decide +kernel
theorem dX2_speedOf_40 : decode cX2_speedOf 40 = .ok (.aload_n 0, 1) := by decide +kernel
theorem dX2_speedOf_41 : decode cX2_speedOf 41 = .ok (.iload_n 1, 1) := by decide +kernel
theorem dX2_speedOf_42 : decode cX2_speedOf 42 = .ok (.iconst 2, 1) := by decide +kernel
theorem dX2_speedOf_43 : decode cX2_speedOf 43 = .ok (.invokevirtual 72, 3) := by decide +kernel
theorem dX2_speedOf_46 : decode cX2_speedOf 46 = .ok (.bipush 100, 2) := by decide +kernel
theorem dX2_speedOf_48 : decode cX2_speedOf 48 = .ok (.idiv, 1) := by decide +kernel
theorem dX2_speedOf_49 : decode cX2_speedOf 49 = .ok (.istore 6, 2) := by decide +kernel
theorem dX2_speedOf_51 : decode cX2_speedOf 51 = .ok (.aload_n 0, 1) := by decide +kernel
theorem dX2_speedOf_52 : decode cX2_speedOf 52 = .ok (.iload_n 1, 1) := by decide +kernel
theorem dX2_speedOf_53 : decode cX2_speedOf 53 = .ok (.iconst 0, 1) := by decide +kernel
theorem dX2_speedOf_54 : decode cX2_speedOf 54 = .ok (.invokevirtual 72, 3) := by decide +kernel
theorem dX2_speedOf_57 : decode cX2_speedOf 57 = .ok (.tableswitch 103 1 6 #[39, 48, 55, 65, 77, 92], 39) := by decide +kernel
theorem dX2_speedOf_96 : decode cX2_speedOf 96 = .ok (.iload 4, 2) := by decide +kernel
theorem dX2_speedOf_98 : decode cX2_speedOf 98 = .ok (.iconst 1, 1) := by decide +kernel
theorem dX2_speedOf_99 : decode cX2_speedOf 99 = .ok (.iadd, 1) := by decide +kernel
theorem dX2_speedOf_100 : decode cX2_speedOf 100 = .ok (.istore 7, 2) := by decide +kernel
theorem dX2_speedOf_102 : decode cX2_speedOf 102 = .ok (.goto 62, 3) := by decide +kernel
theorem dX2_speedOf_105 : decode cX2_speedOf 105 = .ok (.iload 5, 2) := by decide +kernel
theorem dX2_speedOf_107 : decode cX2_speedOf 107 = .ok (.istore 7, 2) := by decide +kernel
theorem dX2_speedOf_109 : decode cX2_speedOf 109 = .ok (.goto 55, 3) := by decide +kernel
theorem dX2_speedOf_112 : decode cX2_speedOf 112 = .ok (.iload 5, 2) := by decide +kernel
theorem dX2_speedOf_114 : decode cX2_speedOf 114 = .ok (.iload 6, 2) := by decide +kernel
theorem dX2_speedOf_116 : decode cX2_speedOf 116 = .ok (.iadd, 1) := by decide +kernel
theorem dX2_speedOf_117 : decode cX2_speedOf 117 = .ok (.istore 7, 2) := by decide +kernel
theorem dX2_speedOf_119 : decode cX2_speedOf 119 = .ok (.goto 45, 3) := by decide +kernel
theorem dX2_speedOf_122 : decode cX2_speedOf 122 = .ok (.iload 5, 2) := by decide +kernel
theorem dX2_speedOf_124 : decode cX2_speedOf 124 = .ok (.iload 6, 2) := by decide +kernel
theorem dX2_speedOf_126 : decode cX2_speedOf 126 = .ok (.iadd, 1) := by decide +kernel
theorem dX2_speedOf_127 : decode cX2_speedOf 127 = .ok (.iconst 2, 1) := by decide +kernel
theorem dX2_speedOf_128 : decode cX2_speedOf 128 = .ok (.iadd, 1) := by decide +kernel
theorem dX2_speedOf_129 : decode cX2_speedOf 129 = .ok (.istore 7, 2) := by decide +kernel
theorem dX2_speedOf_131 : decode cX2_speedOf 131 = .ok (.goto 33, 3) := by decide +kernel
theorem dX2_speedOf_134 : decode cX2_speedOf 134 = .ok (.iload_n 3, 1) := by decide +kernel
theorem dX2_speedOf_135 : decode cX2_speedOf 135 = .ok (.ifCond .le 7, 3) := by decide +kernel
theorem dX2_speedOf_138 : decode cX2_speedOf 138 = .ok (.iconst 0, 1) := by decide +kernel
theorem dX2_speedOf_139 : decode cX2_speedOf 139 = .ok (.goto 5, 3) := by decide +kernel
theorem dX2_speedOf_142 : decode cX2_speedOf 142 = .ok (.iload 4, 2) := by decide +kernel
theorem dX2_speedOf_144 : decode cX2_speedOf 144 = .ok (.istore 7, 2) := by decide +kernel
theorem dX2_speedOf_146 : decode cX2_speedOf 146 = .ok (.goto 18, 3) := by decide +kernel
theorem dX2_speedOf_149 : decode cX2_speedOf 149 = .ok (.iconst 2, 1) := by decide +kernel
theorem dX2_speedOf_150 : decode cX2_speedOf 150 = .ok (.iload 4, 2) := by decide +kernel
theorem dX2_speedOf_152 : decode cX2_speedOf 152 = .ok (.iconst 1, 1) := by decide +kernel
theorem dX2_speedOf_153 : decode cX2_speedOf 153 = .ok (.iadd, 1) := by decide +kernel
theorem dX2_speedOf_154 : decode cX2_speedOf 154 = .ok (.imul, 1) := by decide +kernel
theorem dX2_speedOf_155 : decode cX2_speedOf 155 = .ok (.istore 7, 2) := by decide +kernel
theorem dX2_speedOf_157 : decode cX2_speedOf 157 = .ok (.goto 7, 3) := by decide +kernel
theorem dX2_speedOf_160 : decode cX2_speedOf 160 = .ok (.iload 4, 2) := by decide +kernel
theorem dX2_speedOf_162 : decode cX2_speedOf 162 = .ok (.istore 7, 2) := by decide +kernel
theorem dX2_speedOf_164 : decode cX2_speedOf 164 = .ok (.aload_n 0, 1) := by decide +kernel
theorem dX2_speedOf_165 : decode cX2_speedOf 165 = .ok (.getfield 45, 3) := by decide +kernel
theorem dX2_speedOf_168 : decode cX2_speedOf 168 = .ok (.iconst 1, 1) := by decide +kernel
theorem dX2_speedOf_169 : decode cX2_speedOf 169 = .ok (.if_icmp .ne 10, 3) := by decide +kernel
theorem dX2_speedOf_172 : decode cX2_speedOf 172 = .ok (.iconst 2, 1) := by decide +kernel
theorem dX2_speedOf_173 : decode cX2_speedOf 173 = .ok (.iload 7, 2) := by decide +kernel
theorem dX2_speedOf_175 : decode cX2_speedOf 175 = .ok (.imul, 1) := by decide +kernel
theorem dX2_speedOf_176 : decode cX2_speedOf 176 = .ok (.goto 5, 3) := by decide +kernel
theorem dX2_speedOf_179 : decode cX2_speedOf 179 = .ok (.iload 7, 2) := by decide +kernel
theorem dX2_speedOf_181 : decode cX2_speedOf 181 = .ok (.ireturn, 1) := by decide +kernel
theorem dX2_gathersOf_0 : decode cX2_gathersOf 0 = .ok (.aload_n 0, 1) := by decide +kernel
theorem dX2_gathersOf_1 : decode cX2_gathersOf 1 = .ok (.iload_n 1, 1) := by decide +kernel
theorem dX2_gathersOf_2 : decode cX2_gathersOf 2 = .ok (.iconst 0, 1) := by decide +kernel
theorem dX2_gathersOf_3 : decode cX2_gathersOf 3 = .ok (.invokevirtual 72, 3) := by decide +kernel
theorem dX2_gathersOf_6 : decode cX2_gathersOf 6 = .ok (.tableswitch 55 0 4 #[34, 55, 36, 38, 40], 34) := by decide +kernel
theorem dX2_gathersOf_40 : decode cX2_gathersOf 40 = .ok (.iconst 1, 1) := by decide +kernel
theorem dX2_gathersOf_41 : decode cX2_gathersOf 41 = .ok (.ireturn, 1) := by decide +kernel
theorem dX2_gathersOf_42 : decode cX2_gathersOf 42 = .ok (.iconst 2, 1) := by decide +kernel
theorem dX2_gathersOf_43 : decode cX2_gathersOf 43 = .ok (.ireturn, 1) := by decide +kernel
theorem dX2_gathersOf_44 : decode cX2_gathersOf 44 = .ok (.iconst 4, 1) := by decide +kernel
theorem dX2_gathersOf_45 : decode cX2_gathersOf 45 = .ok (.ireturn, 1) := by decide +kernel
theorem dX2_gathersOf_46 : decode cX2_gathersOf 46 = .ok (.iconst 4, 1) := by decide +kernel
theorem dX2_gathersOf_47 : decode cX2_gathersOf 47 = .ok (.aload_n 0, 1) := by decide +kernel
theorem dX2_gathersOf_48 : decode cX2_gathersOf 48 = .ok (.aload_n 0, 1) := by decide +kernel
theorem dX2_gathersOf_49 : decode cX2_gathersOf 49 = .ok (.iload_n 1, 1) := by decide +kernel
theorem dX2_gathersOf_50 : decode cX2_gathersOf 50 = .ok (.iconst 1, 1) := by decide +kernel
theorem dX2_gathersOf_51 : decode cX2_gathersOf 51 = .ok (.invokevirtual 72, 3) := by decide +kernel
theorem dX2_gathersOf_54 : decode cX2_gathersOf 54 = .ok (.invokevirtual 68, 3) := by decide +kernel
theorem dX2_gathersOf_57 : decode cX2_gathersOf 57 = .ok (.iconst 5, 1) := by decide +kernel
theorem dX2_gathersOf_58 : decode cX2_gathersOf 58 = .ok (.idiv, 1) := by decide +kernel
theorem dX2_gathersOf_59 : decode cX2_gathersOf 59 = .ok (.iadd, 1) := by decide +kernel
theorem dX2_gathersOf_60 : decode cX2_gathersOf 60 = .ok (.ireturn, 1) := by decide +kernel
theorem dX2_gathersOf_61 : decode cX2_gathersOf 61 = .ok (.iconst 0, 1) := by decide +kernel
theorem dX2_gathersOf_62 : decode cX2_gathersOf 62 = .ok (.ireturn, 1) := by decide +kernel
theorem dX2_roll_0 : decode cX2_roll 0 = .ok (.aload_n 0, 1) := by decide +kernel
theorem dX2_roll_1 : decode cX2_roll 1 = .ok (.iload_n 1, 1) := by decide +kernel
theorem dX2_roll_2 : decode cX2_roll 2 = .ok (.invokevirtual 89, 3) := by decide +kernel
theorem dX2_roll_5 : decode cX2_roll 5 = .ok (.istore_n 2, 1) := by decide +kernel
theorem dX2_roll_6 : decode cX2_roll 6 = .ok (.iconst 0, 1) := by decide +kernel
theorem dX2_roll_7 : decode cX2_roll 7 = .ok (.istore_n 3, 1) := by decide +kernel
theorem dX2_roll_8 : decode cX2_roll 8 = .ok (.iconst 0, 1) := by decide +kernel
theorem dX2_roll_9 : decode cX2_roll 9 = .ok (.istore 4, 2) := by decide +kernel
theorem dX2_roll_11 : decode cX2_roll 11 = .ok (.iload 4, 2) := by decide +kernel
theorem dX2_roll_13 : decode cX2_roll 13 = .ok (.iload_n 2, 1) := by decide +kernel
theorem dX2_roll_14 : decode cX2_roll 14 = .ok (.if_icmp .ge 96, 3) := by decide +kernel
theorem dX2_roll_17 : decode cX2_roll 17 = .ok (.aload_n 0, 1) := by decide +kernel
theorem dX2_roll_18 : decode cX2_roll 18 = .ok (.iload_n 1, 1) := by decide +kernel
theorem dX2_roll_19 : decode cX2_roll 19 = .ok (.iconst 1, 1) := by decide +kernel
theorem dX2_roll_20 : decode cX2_roll 20 = .ok (.invokevirtual 72, 3) := by decide +kernel
theorem dX2_roll_23 : decode cX2_roll 23 = .ok (.istore 5, 2) := by decide +kernel
theorem dX2_roll_25 : decode cX2_roll 25 = .ok (.aload_n 0, 1) := by decide +kernel
theorem dX2_roll_26 : decode cX2_roll 26 = .ok (.iload 5, 2) := by decide +kernel
theorem dX2_roll_28 : decode cX2_roll 28 = .ok (.invokevirtual 68, 3) := by decide +kernel
theorem dX2_roll_31 : decode cX2_roll 31 = .ok (.ifCond .ne 6, 3) := by decide +kernel
theorem dX2_roll_34 : decode cX2_roll 34 = .ok (.goto 76, 3) := by decide +kernel
theorem dX2_roll_37 : decode cX2_roll 37 = .ok (.aload_n 0, 1) := by decide +kernel
theorem dX2_roll_38 : decode cX2_roll 38 = .ok (.iload_n 1, 1) := by decide +kernel
theorem dX2_roll_39 : decode cX2_roll 39 = .ok (.iconst 2, 1) := by decide +kernel
theorem dX2_roll_40 : decode cX2_roll 40 = .ok (.invokevirtual 72, 3) := by decide +kernel
theorem dX2_roll_43 : decode cX2_roll 43 = .ok (.aload_n 0, 1) := by decide +kernel
theorem dX2_roll_44 : decode cX2_roll 44 = .ok (.iload_n 1, 1) := by decide +kernel
theorem dX2_roll_45 : decode cX2_roll 45 = .ok (.invokevirtual 92, 3) := by decide +kernel
theorem dX2_roll_48 : decode cX2_roll 48 = .ok (.iadd, 1) := by decide +kernel
theorem dX2_roll_49 : decode cX2_roll 49 = .ok (.istore 6, 2) := by decide +kernel
theorem dX2_roll_51 : decode cX2_roll 51 = .ok (.aload_n 0, 1) := by decide +kernel
theorem dX2_roll_52 : decode cX2_roll 52 = .ok (.iload_n 1, 1) := by decide +kernel
theorem dX2_roll_53 : decode cX2_roll 53 = .ok (.iconst 2, 1) := by decide +kernel
theorem dX2_roll_54 : decode cX2_roll 54 = .ok (.iload 6, 2) := by decide +kernel
theorem dX2_roll_56 : decode cX2_roll 56 = .ok (.sipush 999, 3) := by decide +kernel
theorem dX2_roll_59 : decode cX2_roll 59 = .ok (.invokestatic 29, 3) := by decide +kernel
theorem dX2_roll_62 : decode cX2_roll 62 = .ok (.invokevirtual 59, 3) := by decide +kernel
theorem dX2_roll_65 : decode cX2_roll 65 = .ok (.aload_n 0, 1) := by decide +kernel
theorem dX2_roll_66 : decode cX2_roll 66 = .ok (.iload 5, 2) := by decide +kernel
theorem dX2_roll_68 : decode cX2_roll 68 = .ok (.iconst 1, 1) := by decide +kernel
theorem dX2_roll_69 : decode cX2_roll 69 = .ok (.invokevirtual 62, 3) := by decide +kernel
theorem dX2_roll_72 : decode cX2_roll 72 = .ok (.istore 7, 2) := by decide +kernel
theorem dX2_roll_74 : decode cX2_roll 74 = .ok (.aload_n 0, 1) := by decide +kernel
theorem dX2_roll_75 : decode cX2_roll 75 = .ok (.iload_n 1, 1) := by decide +kernel
theorem dX2_roll_76 : decode cX2_roll 76 = .ok (.iconst 1, 1) := by decide +kernel
theorem dX2_roll_77 : decode cX2_roll 77 = .ok (.iload 7, 2) := by decide +kernel
theorem dX2_roll_79 : decode cX2_roll 79 = .ok (.invokevirtual 59, 3) := by decide +kernel
theorem dX2_roll_82 : decode cX2_roll 82 = .ok (.iload_n 3, 1) := by decide +kernel
theorem dX2_roll_83 : decode cX2_roll 83 = .ok (.iconst 1, 1) := by decide +kernel
theorem dX2_roll_84 : decode cX2_roll 84 = .ok (.iload 7, 2) := by decide +kernel
theorem dX2_roll_86 : decode cX2_roll 86 = .ok (.ishl, 1) := by decide +kernel
theorem dX2_roll_87 : decode cX2_roll 87 = .ok (.ior, 1) := by decide +kernel
theorem dX2_roll_88 : decode cX2_roll 88 = .ok (.istore_n 3, 1) := by decide +kernel
theorem dX2_roll_89 : decode cX2_roll 89 = .ok (.aload_n 0, 1) := by decide +kernel
theorem dX2_roll_90 : decode cX2_roll 90 = .ok (.getfield 42, 3) := by decide +kernel
theorem dX2_roll_93 : decode cX2_roll 93 = .ok (.iload 7, 2) := by decide +kernel
theorem dX2_roll_95 : decode cX2_roll 95 = .ok (.invokestatic 85, 3) := by decide +kernel
theorem dX2_roll_98 : decode cX2_roll 98 = .ok (.ifCond .eq 6, 3) := by decide +kernel
theorem dX2_roll_101 : decode cX2_roll 101 = .ok (.goto 9, 3) := by decide +kernel
theorem dX2_roll_104 : decode cX2_roll 104 = .ok (.iinc 4 1, 3) := by decide +kernel
theorem dX2_roll_107 : decode cX2_roll 107 = .ok (.goto (-96), 3) := by decide +kernel
theorem dX2_roll_110 : decode cX2_roll 110 = .ok (.iload_n 3, 1) := by decide +kernel
theorem dX2_roll_111 : decode cX2_roll 111 = .ok (.ireturn, 1) := by decide +kernel
theorem dX2_wayOf_0 : decode cX2_wayOf 0 = .ok (.iconst 1, 1) := by decide +kernel
theorem dX2_wayOf_1 : decode cX2_wayOf 1 = .ok (.aload_n 0, 1) := by decide +kernel
theorem dX2_wayOf_2 : decode cX2_wayOf 2 = .ok (.iload_n 1, 1) := by decide +kernel
theorem dX2_wayOf_3 : decode cX2_wayOf 3 = .ok (.iconst 1, 1) := by decide +kernel
theorem dX2_wayOf_4 : decode cX2_wayOf 4 = .ok (.invokevirtual 72, 3) := by decide +kernel
theorem dX2_wayOf_7 : decode cX2_wayOf 7 = .ok (.ishl, 1) := by decide +kernel
theorem dX2_wayOf_8 : decode cX2_wayOf 8 = .ok (.istore_n 3, 1) := by decide +kernel
theorem dX2_wayOf_9 : decode cX2_wayOf 9 = .ok (.iconst 0, 1) := by decide +kernel
theorem dX2_wayOf_10 : decode cX2_wayOf 10 = .ok (.istore 4, 2) := by decide +kernel
theorem dX2_wayOf_12 : decode cX2_wayOf 12 = .ok (.iload 4, 2) := by decide +kernel
theorem dX2_wayOf_14 : decode cX2_wayOf 14 = .ok (.iload_n 2, 1) := by decide +kernel
theorem dX2_wayOf_15 : decode cX2_wayOf 15 = .ok (.if_icmp .ge 29, 3) := by decide +kernel
theorem dX2_wayOf_18 : decode cX2_wayOf 18 = .ok (.aload_n 0, 1) := by decide +kernel
theorem dX2_wayOf_19 : decode cX2_wayOf 19 = .ok (.iload_n 1, 1) := by decide +kernel
theorem dX2_wayOf_20 : decode cX2_wayOf 20 = .ok (.invokevirtual 95, 3) := by decide +kernel
theorem dX2_wayOf_23 : decode cX2_wayOf 23 = .ok (.istore 5, 2) := by decide +kernel
theorem dX2_wayOf_25 : decode cX2_wayOf 25 = .ok (.iload 5, 2) := by decide +kernel
theorem dX2_wayOf_27 : decode cX2_wayOf 27 = .ok (.ifCond .ne 6, 3) := by decide +kernel
theorem dX2_wayOf_30 : decode cX2_wayOf 30 = .ok (.goto 14, 3) := by decide +kernel
theorem dX2_wayOf_33 : decode cX2_wayOf 33 = .ok (.iload_n 3, 1) := by decide +kernel
theorem dX2_wayOf_34 : decode cX2_wayOf 34 = .ok (.iload 5, 2) := by decide +kernel
theorem dX2_wayOf_36 : decode cX2_wayOf 36 = .ok (.ior, 1) := by decide +kernel
theorem dX2_wayOf_37 : decode cX2_wayOf 37 = .ok (.istore_n 3, 1) := by decide +kernel
theorem dX2_wayOf_38 : decode cX2_wayOf 38 = .ok (.iinc 4 1, 3) := by decide +kernel
theorem dX2_wayOf_41 : decode cX2_wayOf 41 = .ok (.goto (-29), 3) := by decide +kernel
theorem dX2_wayOf_44 : decode cX2_wayOf 44 = .ok (.iload_n 3, 1) := by decide +kernel
theorem dX2_wayOf_45 : decode cX2_wayOf 45 = .ok (.ireturn, 1) := by decide +kernel
theorem dX2_minutesToHarbour_0 : decode cX2_minutesToHarbour 0 = .ok (.iconst 0, 1) := by decide +kernel
theorem dX2_minutesToHarbour_1 : decode cX2_minutesToHarbour 1 = .ok (.istore_n 2, 1) := by decide +kernel
theorem dX2_minutesToHarbour_2 : decode cX2_minutesToHarbour 2 = .ok (.iload_n 2, 1) := by decide +kernel
theorem dX2_minutesToHarbour_3 : decode cX2_minutesToHarbour 3 = .ok (.bipush 100, 2) := by decide +kernel
theorem dX2_minutesToHarbour_5 : decode cX2_minutesToHarbour 5 = .ok (.if_icmp .gt 28, 3) := by decide +kernel
theorem dX2_minutesToHarbour_8 : decode cX2_minutesToHarbour 8 = .ok (.aload_n 0, 1) := by decide +kernel
theorem dX2_minutesToHarbour_9 : decode cX2_minutesToHarbour 9 = .ok (.iload_n 1, 1) := by decide +kernel
theorem dX2_minutesToHarbour_10 : decode cX2_minutesToHarbour 10 = .ok (.iconst 1, 1) := by decide +kernel
theorem dX2_minutesToHarbour_11 : decode cX2_minutesToHarbour 11 = .ok (.invokevirtual 72, 3) := by decide +kernel
theorem dX2_minutesToHarbour_14 : decode cX2_minutesToHarbour 14 = .ok (.bipush 15, 2) := by decide +kernel
theorem dX2_minutesToHarbour_16 : decode cX2_minutesToHarbour 16 = .ok (.if_icmp .ne 5, 3) := by decide +kernel
theorem dX2_minutesToHarbour_19 : decode cX2_minutesToHarbour 19 = .ok (.iload_n 2, 1) := by decide +kernel
theorem dX2_minutesToHarbour_20 : decode cX2_minutesToHarbour 20 = .ok (.ireturn, 1) := by decide +kernel
theorem dX2_minutesToHarbour_21 : decode cX2_minutesToHarbour 21 = .ok (.aload_n 0, 1) := by decide +kernel
theorem dX2_minutesToHarbour_22 : decode cX2_minutesToHarbour 22 = .ok (.iload_n 1, 1) := by decide +kernel
theorem dX2_minutesToHarbour_23 : decode cX2_minutesToHarbour 23 = .ok (.invokevirtual 95, 3) := by decide +kernel
theorem dX2_minutesToHarbour_26 : decode cX2_minutesToHarbour 26 = .ok (.pop, 1) := by decide +kernel
theorem dX2_minutesToHarbour_27 : decode cX2_minutesToHarbour 27 = .ok (.iinc 2 1, 3) := by decide +kernel
theorem dX2_minutesToHarbour_30 : decode cX2_minutesToHarbour 30 = .ok (.goto (-28), 3) := by decide +kernel
theorem dX2_minutesToHarbour_33 : decode cX2_minutesToHarbour 33 = .ok (.bipush 101, 2) := by decide +kernel
theorem dX2_minutesToHarbour_35 : decode cX2_minutesToHarbour 35 = .ok (.ireturn, 1) := by decide +kernel
theorem dX2_pass_0 : decode cX2_pass 0 = .ok (.aload_n 0, 1) := by decide +kernel
theorem dX2_pass_1 : decode cX2_pass 1 = .ok (.aload_n 0, 1) := by decide +kernel
theorem dX2_pass_2 : decode cX2_pass 2 = .ok (.getfield 48, 3) := by decide +kernel
theorem dX2_pass_5 : decode cX2_pass 5 = .ok (.iload_n 1, 1) := by decide +kernel
theorem dX2_pass_6 : decode cX2_pass 6 = .ok (.iadd, 1) := by decide +kernel
theorem dX2_pass_7 : decode cX2_pass 7 = .ok (.ldc 98, 2) := by decide +kernel
theorem dX2_pass_9 : decode cX2_pass 9 = .ok (.invokestatic 29, 3) := by decide +kernel
theorem dX2_pass_12 : decode cX2_pass 12 = .ok (.putfield 48, 3) := by decide +kernel
theorem dX2_pass_15 : decode cX2_pass 15 = .ok (.iconst 0, 1) := by decide +kernel
theorem dX2_pass_16 : decode cX2_pass 16 = .ok (.istore_n 2, 1) := by decide +kernel
theorem dX2_pass_17 : decode cX2_pass 17 = .ok (.iload_n 2, 1) := by decide +kernel
theorem dX2_pass_18 : decode cX2_pass 18 = .ok (.iload_n 1, 1) := by decide +kernel
theorem dX2_pass_19 : decode cX2_pass 19 = .ok (.if_icmp .ge 44, 3) := by decide +kernel
theorem dX2_pass_22 : decode cX2_pass 22 = .ok (.iconst 0, 1) := by decide +kernel
theorem dX2_pass_23 : decode cX2_pass 23 = .ok (.istore_n 3, 1) := by decide +kernel
theorem dX2_pass_24 : decode cX2_pass 24 = .ok (.iconst 0, 1) := by decide +kernel
theorem dX2_pass_25 : decode cX2_pass 25 = .ok (.istore 4, 2) := by decide +kernel
theorem dX2_pass_27 : decode cX2_pass 27 = .ok (.iload 4, 2) := by decide +kernel
theorem dX2_pass_29 : decode cX2_pass 29 = .ok (.aload_n 0, 1) := by decide +kernel
theorem dX2_pass_30 : decode cX2_pass 30 = .ok (.getfield 39, 3) := by decide +kernel
theorem dX2_pass_33 : decode cX2_pass 33 = .ok (.if_icmp .ge 18, 3) := by decide +kernel
theorem dX2_pass_36 : decode cX2_pass 36 = .ok (.iload_n 3, 1) := by decide +kernel
theorem dX2_pass_37 : decode cX2_pass 37 = .ok (.aload_n 0, 1) := by decide +kernel
theorem dX2_pass_38 : decode cX2_pass 38 = .ok (.iload 4, 2) := by decide +kernel
theorem dX2_pass_40 : decode cX2_pass 40 = .ok (.invokevirtual 95, 3) := by decide +kernel
theorem dX2_pass_43 : decode cX2_pass 43 = .ok (.ior, 1) := by decide +kernel
theorem dX2_pass_44 : decode cX2_pass 44 = .ok (.istore_n 3, 1) := by decide +kernel
theorem dX2_pass_45 : decode cX2_pass 45 = .ok (.iinc 4 1, 3) := by decide +kernel
theorem dX2_pass_48 : decode cX2_pass 48 = .ok (.goto (-21), 3) := by decide +kernel
theorem dX2_pass_51 : decode cX2_pass 51 = .ok (.iload_n 3, 1) := by decide +kernel
theorem dX2_pass_52 : decode cX2_pass 52 = .ok (.ifCond .ne 5, 3) := by decide +kernel
theorem dX2_pass_55 : decode cX2_pass 55 = .ok (.iload_n 2, 1) := by decide +kernel
theorem dX2_pass_56 : decode cX2_pass 56 = .ok (.ireturn, 1) := by decide +kernel
theorem dX2_pass_57 : decode cX2_pass 57 = .ok (.iinc 2 1, 3) := by decide +kernel
theorem dX2_pass_60 : decode cX2_pass 60 = .ok (.goto (-43), 3) := by decide +kernel
theorem dX2_pass_63 : decode cX2_pass 63 = .ok (.iload_n 1, 1) := by decide +kernel
theorem dX2_pass_64 : decode cX2_pass 64 = .ok (.ireturn, 1) := by decide +kernel
theorem dX2_mergeAt_0 : decode cX2_mergeAt 0 = .ok (.aload_n 0, 1) := by decide +kernel
theorem dX2_mergeAt_1 : decode cX2_mergeAt 1 = .ok (.iload_n 1, 1) := by decide +kernel
theorem dX2_mergeAt_2 : decode cX2_mergeAt 2 = .ok (.invokevirtual 78, 3) := by decide +kernel
theorem dX2_mergeAt_5 : decode cX2_mergeAt 5 = .ok (.sipush 999, 3) := by decide +kernel
theorem dX2_mergeAt_8 : decode cX2_mergeAt 8 = .ok (.invokestatic 29, 3) := by decide +kernel
theorem dX2_mergeAt_11 : decode cX2_mergeAt 11 = .ok (.istore_n 2, 1) := by decide +kernel
theorem dX2_mergeAt_12 : decode cX2_mergeAt 12 = .ok (.iconst 1, 1) := by decide +kernel
theorem dX2_mergeAt_13 : decode cX2_mergeAt 13 = .ok (.istore_n 3, 1) := by decide +kernel
theorem dX2_mergeAt_14 : decode cX2_mergeAt 14 = .ok (.iconst 0, 1) := by decide +kernel
theorem dX2_mergeAt_15 : decode cX2_mergeAt 15 = .ok (.istore 4, 2) := by decide +kernel
theorem dX2_mergeAt_17 : decode cX2_mergeAt 17 = .ok (.iload 4, 2) := by decide +kernel
theorem dX2_mergeAt_19 : decode cX2_mergeAt 19 = .ok (.aload_n 0, 1) := by decide +kernel
theorem dX2_mergeAt_20 : decode cX2_mergeAt 20 = .ok (.getfield 39, 3) := by decide +kernel
theorem dX2_mergeAt_23 : decode cX2_mergeAt 23 = .ok (.if_icmp .ge 57, 3) := by decide +kernel
theorem dX2_mergeAt_26 : decode cX2_mergeAt 26 = .ok (.aload_n 0, 1) := by decide +kernel
theorem dX2_mergeAt_27 : decode cX2_mergeAt 27 = .ok (.iload 4, 2) := by decide +kernel
theorem dX2_mergeAt_29 : decode cX2_mergeAt 29 = .ok (.iconst 1, 1) := by decide +kernel
theorem dX2_mergeAt_30 : decode cX2_mergeAt 30 = .ok (.invokevirtual 72, 3) := by decide +kernel
theorem dX2_mergeAt_33 : decode cX2_mergeAt 33 = .ok (.iload_n 1, 1) := by decide +kernel
theorem dX2_mergeAt_34 : decode cX2_mergeAt 34 = .ok (.if_icmp .eq 6, 3) := by decide +kernel
theorem dX2_mergeAt_37 : decode cX2_mergeAt 37 = .ok (.goto 37, 3) := by decide +kernel
theorem dX2_mergeAt_40 : decode cX2_mergeAt 40 = .ok (.iload_n 3, 1) := by decide +kernel
theorem dX2_mergeAt_41 : decode cX2_mergeAt 41 = .ok (.ifCond .eq 14, 3) := by decide +kernel
theorem dX2_mergeAt_44 : decode cX2_mergeAt 44 = .ok (.aload_n 0, 1) := by decide +kernel
theorem dX2_mergeAt_45 : decode cX2_mergeAt 45 = .ok (.iload 4, 2) := by decide +kernel
theorem dX2_mergeAt_47 : decode cX2_mergeAt 47 = .ok (.iconst 2, 1) := by decide +kernel
theorem dX2_mergeAt_48 : decode cX2_mergeAt 48 = .ok (.iload_n 2, 1) := by decide +kernel
theorem dX2_mergeAt_49 : decode cX2_mergeAt 49 = .ok (.invokevirtual 59, 3) := by decide +kernel
theorem dX2_mergeAt_52 : decode cX2_mergeAt 52 = .ok (.goto 20, 3) := by decide +kernel
theorem dX2_mergeAt_55 : decode cX2_mergeAt 55 = .ok (.aload_n 0, 1) := by decide +kernel
theorem dX2_mergeAt_56 : decode cX2_mergeAt 56 = .ok (.iload 4, 2) := by decide +kernel
theorem dX2_mergeAt_58 : decode cX2_mergeAt 58 = .ok (.iconst 1, 1) := by decide +kernel
theorem dX2_mergeAt_59 : decode cX2_mergeAt 59 = .ok (.bipush 15, 2) := by decide +kernel
theorem dX2_mergeAt_61 : decode cX2_mergeAt 61 = .ok (.invokevirtual 59, 3) := by decide +kernel
theorem dX2_mergeAt_64 : decode cX2_mergeAt 64 = .ok (.aload_n 0, 1) := by decide +kernel
theorem dX2_mergeAt_65 : decode cX2_mergeAt 65 = .ok (.iload 4, 2) := by decide +kernel
theorem dX2_mergeAt_67 : decode cX2_mergeAt 67 = .ok (.iconst 2, 1) := by decide +kernel
theorem dX2_mergeAt_68 : decode cX2_mergeAt 68 = .ok (.iconst 1, 1) := by decide +kernel
theorem dX2_mergeAt_69 : decode cX2_mergeAt 69 = .ok (.invokevirtual 59, 3) := by decide +kernel
theorem dX2_mergeAt_72 : decode cX2_mergeAt 72 = .ok (.iconst 0, 1) := by decide +kernel
theorem dX2_mergeAt_73 : decode cX2_mergeAt 73 = .ok (.istore_n 3, 1) := by decide +kernel
theorem dX2_mergeAt_74 : decode cX2_mergeAt 74 = .ok (.iinc 4 1, 3) := by decide +kernel
theorem dX2_mergeAt_77 : decode cX2_mergeAt 77 = .ok (.goto (-60), 3) := by decide +kernel
theorem dX2_mergeAt_80 : decode cX2_mergeAt 80 = .ok (.return_, 1) := by decide +kernel
theorem dX2_draw_0 : decode cX2_draw 0 = .ok (.aload_n 0, 1) := by decide +kernel
theorem dX2_draw_1 : decode cX2_draw 1 = .ok (.aload_n 0, 1) := by decide +kernel
theorem dX2_draw_2 : decode cX2_draw 2 = .ok (.getfield 21, 3) := by decide +kernel
theorem dX2_draw_5 : decode cX2_draw 5 = .ok (.ldc 99, 2) := by decide +kernel
theorem dX2_draw_7 : decode cX2_draw 7 = .ok (.imul, 1) := by decide +kernel
theorem dX2_draw_8 : decode cX2_draw 8 = .ok (.sipush 12345, 3) := by decide +kernel
theorem dX2_draw_11 : decode cX2_draw 11 = .ok (.iadd, 1) := by decide +kernel
theorem dX2_draw_12 : decode cX2_draw 12 = .ok (.putfield 21, 3) := by decide +kernel
theorem dX2_draw_15 : decode cX2_draw 15 = .ok (.aload_n 0, 1) := by decide +kernel
theorem dX2_draw_16 : decode cX2_draw 16 = .ok (.getfield 21, 3) := by decide +kernel
theorem dX2_draw_19 : decode cX2_draw 19 = .ok (.bipush 8, 2) := by decide +kernel
theorem dX2_draw_21 : decode cX2_draw 21 = .ok (.iushr, 1) := by decide +kernel
theorem dX2_draw_22 : decode cX2_draw 22 = .ok (.ireturn, 1) := by decide +kernel
theorem dJ0_length_8abf5_0 : decode cJ0_length_8abf5 0 = .ok (.aload_n 0, 1) := by decide +kernel
theorem dJ0_length_8abf5_1 : decode cJ0_length_8abf5 1 = .ok (.getfield 9, 3) := by decide +kernel
theorem dJ0_length_8abf5_4 : decode cJ0_length_8abf5 4 = .ok (.arraylength, 1) := by decide +kernel
theorem dJ0_length_8abf5_5 : decode cJ0_length_8abf5 5 = .ok (.aload_n 0, 1) := by decide +kernel
theorem dJ0_length_8abf5_6 : decode cJ0_length_8abf5 6 = .ok (.invokevirtual 335, 3) := by decide +kernel
theorem dJ0_length_8abf5_9 : decode cJ0_length_8abf5 9 = .ok (.ishr, 1) := by decide +kernel
theorem dJ0_length_8abf5_10 : decode cJ0_length_8abf5 10 = .ok (.ireturn, 1) := by decide +kernel
theorem dJ0_charAt_5068e_0 : decode cJ0_charAt_5068e 0 = .ok (.aload_n 0, 1) := by decide +kernel
theorem dJ0_charAt_5068e_1 : decode cJ0_charAt_5068e 1 = .ok (.invokevirtual 492, 3) := by decide +kernel
theorem dJ0_charAt_5068e_4 : decode cJ0_charAt_5068e 4 = .ok (.ifCond .eq 12, 3) := by decide +kernel
theorem dJ0_charAt_5068e_7 : decode cJ0_charAt_5068e 7 = .ok (.aload_n 0, 1) := by decide +kernel
theorem dJ0_charAt_5068e_8 : decode cJ0_charAt_5068e 8 = .ok (.getfield 9, 3) := by decide +kernel
theorem dJ0_charAt_5068e_11 : decode cJ0_charAt_5068e 11 = .ok (.iload_n 1, 1) := by decide +kernel
theorem dJ0_charAt_5068e_12 : decode cJ0_charAt_5068e 12 = .ok (.invokestatic 495, 3) := by decide +kernel
theorem dJ0_charAt_5068e_15 : decode cJ0_charAt_5068e 15 = .ok (.ireturn, 1) := by decide +kernel
theorem dJ0_charAt_5068e_16 : decode cJ0_charAt_5068e 16 = .ok (.aload_n 0, 1) := by decide +kernel
theorem dJ0_charAt_5068e_17 : decode cJ0_charAt_5068e 17 = .ok (.getfield 9, 3) := by decide +kernel
theorem dJ0_charAt_5068e_20 : decode cJ0_charAt_5068e 20 = .ok (.iload_n 1, 1) := by decide +kernel
theorem dJ0_charAt_5068e_21 : decode cJ0_charAt_5068e 21 = .ok (.invokestatic 498, 3) := by decide +kernel
theorem dJ0_charAt_5068e_24 : decode cJ0_charAt_5068e 24 = .ok (.ireturn, 1) := by decide +kernel
theorem dJ0_coder_7d493_0 : decode cJ0_coder_7d493 0 = .ok (.getstatic 38, 3) := by decide +kernel
theorem dJ0_coder_7d493_3 : decode cJ0_coder_7d493 3 = .ok (.ifCond .eq 10, 3) := by decide +kernel
theorem dJ0_coder_7d493_6 : decode cJ0_coder_7d493 6 = .ok (.aload_n 0, 1) := by decide +kernel
theorem dJ0_coder_7d493_7 : decode cJ0_coder_7d493 7 = .ok (.getfield 15, 3) := by decide +kernel
theorem dJ0_coder_7d493_10 : decode cJ0_coder_7d493 10 = .ok (.goto 4, 3) := by decide +kernel
theorem dJ0_coder_7d493_13 : decode cJ0_coder_7d493 13 = .ok (.iconst 1, 1) := by decide +kernel
theorem dJ0_coder_7d493_14 : decode cJ0_coder_7d493 14 = .ok (.ireturn, 1) := by decide +kernel
theorem dJ0_isLatin1_aae02_0 : decode cJ0_isLatin1_aae02 0 = .ok (.getstatic 38, 3) := by decide +kernel
theorem dJ0_isLatin1_aae02_3 : decode cJ0_isLatin1_aae02 3 = .ok (.ifCond .eq 14, 3) := by decide +kernel
theorem dJ0_isLatin1_aae02_6 : decode cJ0_isLatin1_aae02 6 = .ok (.aload_n 0, 1) := by decide +kernel
theorem dJ0_isLatin1_aae02_7 : decode cJ0_isLatin1_aae02 7 = .ok (.getfield 15, 3) := by decide +kernel
theorem dJ0_isLatin1_aae02_10 : decode cJ0_isLatin1_aae02 10 = .ok (.ifCond .ne 7, 3) := by decide +kernel
theorem dJ0_isLatin1_aae02_13 : decode cJ0_isLatin1_aae02 13 = .ok (.iconst 1, 1) := by decide +kernel
theorem dJ0_isLatin1_aae02_14 : decode cJ0_isLatin1_aae02 14 = .ok (.goto 4, 3) := by decide +kernel
theorem dJ0_isLatin1_aae02_17 : decode cJ0_isLatin1_aae02 17 = .ok (.iconst 0, 1) := by decide +kernel
theorem dJ0_isLatin1_aae02_18 : decode cJ0_isLatin1_aae02 18 = .ok (.ireturn, 1) := by decide +kernel
theorem dJ0_checkIndex_df160_0 : decode cJ0_checkIndex_df160 0 = .ok (.iload_n 0, 1) := by decide +kernel
theorem dJ0_checkIndex_df160_1 : decode cJ0_checkIndex_df160 1 = .ok (.iload_n 1, 1) := by decide +kernel
theorem dJ0_checkIndex_df160_2 : decode cJ0_checkIndex_df160 2 = .ok (.getstatic 1053, 3) := by decide +kernel
theorem dJ0_checkIndex_df160_5 : decode cJ0_checkIndex_df160 5 = .ok (.invokestatic 1059, 3) := by decide +kernel
theorem dJ0_checkIndex_df160_8 : decode cJ0_checkIndex_df160 8 = .ok (.pop, 1) := by decide +kernel
theorem dJ0_checkIndex_df160_9 : decode cJ0_checkIndex_df160 9 = .ok (.return_, 1) := by decide +kernel
theorem dJ1_charAt_3b067_0 : decode cJ1_charAt_3b067 0 = .ok (.iload_n 1, 1) := by decide +kernel
theorem dJ1_charAt_3b067_1 : decode cJ1_charAt_3b067 1 = .ok (.aload_n 0, 1) := by decide +kernel
theorem dJ1_charAt_3b067_2 : decode cJ1_charAt_3b067 2 = .ok (.arraylength, 1) := by decide +kernel
theorem dJ1_charAt_3b067_3 : decode cJ1_charAt_3b067 3 = .ok (.invokestatic 9, 3) := by decide +kernel
theorem dJ1_charAt_3b067_6 : decode cJ1_charAt_3b067 6 = .ok (.aload_n 0, 1) := by decide +kernel
theorem dJ1_charAt_3b067_7 : decode cJ1_charAt_3b067 7 = .ok (.iload_n 1, 1) := by decide +kernel
theorem dJ1_charAt_3b067_8 : decode cJ1_charAt_3b067 8 = .ok (.baload, 1) := by decide +kernel
theorem dJ1_charAt_3b067_9 : decode cJ1_charAt_3b067 9 = .ok (.sipush 255, 3) := by decide +kernel
theorem dJ1_charAt_3b067_12 : decode cJ1_charAt_3b067 12 = .ok (.iand, 1) := by decide +kernel
theorem dJ1_charAt_3b067_13 : decode cJ1_charAt_3b067 13 = .ok (.i2c, 1) := by decide +kernel
theorem dJ1_charAt_3b067_14 : decode cJ1_charAt_3b067 14 = .ok (.ireturn, 1) := by decide +kernel
theorem dJ2_getChar_3b067_0 : decode cJ2_getChar_3b067 0 = .ok (.getstatic 44, 3) := by decide +kernel
theorem dJ2_getChar_3b067_3 : decode cJ2_getChar_3b067 3 = .ok (.ifCond .ne 25, 3) := by decide +kernel
theorem dJ2_getChar_3b067_6 : decode cJ2_getChar_3b067 6 = .ok (.iload_n 1, 1) := by decide +kernel
theorem dJ2_getChar_3b067_7 : decode cJ2_getChar_3b067 7 = .ok (.ifCond .lt 11, 3) := by decide +kernel
theorem dJ2_getChar_3b067_10 : decode cJ2_getChar_3b067 10 = .ok (.iload_n 1, 1) := by decide +kernel
theorem dJ2_getChar_3b067_11 : decode cJ2_getChar_3b067 11 = .ok (.aload_n 0, 1) := by decide +kernel
theorem dJ2_getChar_3b067_12 : decode cJ2_getChar_3b067 12 = .ok (.invokestatic 48, 3) := by decide +kernel
theorem dJ2_getChar_3b067_15 : decode cJ2_getChar_3b067 15 = .ok (.if_icmp .lt 13, 3) := by decide +kernel
theorem dJ2_getChar_3b067_18 : decode cJ2_getChar_3b067 18 = .ok (.new 52, 3) := by decide +kernel
theorem dJ2_getChar_3b067_21 : decode cJ2_getChar_3b067 21 = .ok (.dup, 1) := by decide +kernel
theorem dJ2_getChar_3b067_22 : decode cJ2_getChar_3b067 22 = .ok (.ldc 54, 2) := by decide +kernel
theorem dJ2_getChar_3b067_24 : decode cJ2_getChar_3b067 24 = .ok (.invokespecial 56, 3) := by decide +kernel
theorem dJ2_getChar_3b067_27 : decode cJ2_getChar_3b067 27 = .ok (.athrow, 1) := by decide +kernel
theorem dJ2_getChar_3b067_28 : decode cJ2_getChar_3b067 28 = .ok (.iload_n 1, 1) := by decide +kernel
theorem dJ2_getChar_3b067_29 : decode cJ2_getChar_3b067 29 = .ok (.iconst 1, 1) := by decide +kernel
theorem dJ2_getChar_3b067_30 : decode cJ2_getChar_3b067 30 = .ok (.ishl, 1) := by decide +kernel
theorem dJ2_getChar_3b067_31 : decode cJ2_getChar_3b067 31 = .ok (.istore_n 1, 1) := by decide +kernel
theorem dJ2_getChar_3b067_32 : decode cJ2_getChar_3b067 32 = .ok (.aload_n 0, 1) := by decide +kernel
theorem dJ2_getChar_3b067_33 : decode cJ2_getChar_3b067 33 = .ok (.iload_n 1, 1) := by decide +kernel
theorem dJ2_getChar_3b067_34 : decode cJ2_getChar_3b067 34 = .ok (.iinc 1 1, 3) := by decide +kernel
theorem dJ2_getChar_3b067_37 : decode cJ2_getChar_3b067 37 = .ok (.baload, 1) := by decide +kernel
theorem dJ2_getChar_3b067_38 : decode cJ2_getChar_3b067 38 = .ok (.sipush 255, 3) := by decide +kernel
theorem dJ2_getChar_3b067_41 : decode cJ2_getChar_3b067 41 = .ok (.iand, 1) := by decide +kernel
theorem dJ2_getChar_3b067_42 : decode cJ2_getChar_3b067 42 = .ok (.getstatic 59, 3) := by decide +kernel
theorem dJ2_getChar_3b067_45 : decode cJ2_getChar_3b067 45 = .ok (.ishl, 1) := by decide +kernel
theorem dJ2_getChar_3b067_46 : decode cJ2_getChar_3b067 46 = .ok (.aload_n 0, 1) := by decide +kernel
theorem dJ2_getChar_3b067_47 : decode cJ2_getChar_3b067 47 = .ok (.iload_n 1, 1) := by decide +kernel
theorem dJ2_getChar_3b067_48 : decode cJ2_getChar_3b067 48 = .ok (.baload, 1) := by decide +kernel
theorem dJ2_getChar_3b067_49 : decode cJ2_getChar_3b067 49 = .ok (.sipush 255, 3) := by decide +kernel
theorem dJ2_getChar_3b067_52 : decode cJ2_getChar_3b067 52 = .ok (.iand, 1) := by decide +kernel
theorem dJ2_getChar_3b067_53 : decode cJ2_getChar_3b067 53 = .ok (.getstatic 63, 3) := by decide +kernel
theorem dJ2_getChar_3b067_56 : decode cJ2_getChar_3b067 56 = .ok (.ishl, 1) := by decide +kernel
theorem dJ2_getChar_3b067_57 : decode cJ2_getChar_3b067 57 = .ok (.ior, 1) := by decide +kernel
theorem dJ2_getChar_3b067_58 : decode cJ2_getChar_3b067 58 = .ok (.i2c, 1) := by decide +kernel
theorem dJ2_getChar_3b067_59 : decode cJ2_getChar_3b067 59 = .ok (.ireturn, 1) := by decide +kernel
theorem dJ2_length_9d52b_0 : decode cJ2_length_9d52b 0 = .ok (.aload_n 0, 1) := by decide +kernel
theorem dJ2_length_9d52b_1 : decode cJ2_length_9d52b 1 = .ok (.arraylength, 1) := by decide +kernel
theorem dJ2_length_9d52b_2 : decode cJ2_length_9d52b 2 = .ok (.iconst 1, 1) := by decide +kernel
theorem dJ2_length_9d52b_3 : decode cJ2_length_9d52b 3 = .ok (.ishr, 1) := by decide +kernel
theorem dJ2_length_9d52b_4 : decode cJ2_length_9d52b 4 = .ok (.ireturn, 1) := by decide +kernel
theorem dJ2_charAt_3b067_0 : decode cJ2_charAt_3b067 0 = .ok (.iload_n 1, 1) := by decide +kernel
theorem dJ2_charAt_3b067_1 : decode cJ2_charAt_3b067 1 = .ok (.aload_n 0, 1) := by decide +kernel
theorem dJ2_charAt_3b067_2 : decode cJ2_charAt_3b067 2 = .ok (.invokestatic 67, 3) := by decide +kernel
theorem dJ2_charAt_3b067_5 : decode cJ2_charAt_3b067 5 = .ok (.aload_n 0, 1) := by decide +kernel
theorem dJ2_charAt_3b067_6 : decode cJ2_charAt_3b067 6 = .ok (.iload_n 1, 1) := by decide +kernel
theorem dJ2_charAt_3b067_7 : decode cJ2_charAt_3b067 7 = .ok (.invokestatic 71, 3) := by decide +kernel
theorem dJ2_charAt_3b067_10 : decode cJ2_charAt_3b067 10 = .ok (.ireturn, 1) := by decide +kernel
theorem dJ2_checkIndex_2214a_0 : decode cJ2_checkIndex_2214a 0 = .ok (.iload_n 0, 1) := by decide +kernel
theorem dJ2_checkIndex_2214a_1 : decode cJ2_checkIndex_2214a 1 = .ok (.aload_n 1, 1) := by decide +kernel
theorem dJ2_checkIndex_2214a_2 : decode cJ2_checkIndex_2214a 2 = .ok (.invokestatic 48, 3) := by decide +kernel
theorem dJ2_checkIndex_2214a_5 : decode cJ2_checkIndex_2214a 5 = .ok (.invokestatic 414, 3) := by decide +kernel
theorem dJ2_checkIndex_2214a_8 : decode cJ2_checkIndex_2214a 8 = .ok (.return_, 1) := by decide +kernel
theorem dJ3_checkIndex_8e157_0 : decode cJ3_checkIndex_8e157 0 = .ok (.iload_n 0, 1) := by decide +kernel
theorem dJ3_checkIndex_8e157_1 : decode cJ3_checkIndex_8e157 1 = .ok (.ifCond .lt 8, 3) := by decide +kernel
theorem dJ3_checkIndex_8e157_4 : decode cJ3_checkIndex_8e157 4 = .ok (.iload_n 0, 1) := by decide +kernel
theorem dJ3_checkIndex_8e157_5 : decode cJ3_checkIndex_8e157 5 = .ok (.iload_n 1, 1) := by decide +kernel
theorem dJ3_checkIndex_8e157_6 : decode cJ3_checkIndex_8e157 6 = .ok (.if_icmp .lt 10, 3) := by decide +kernel
theorem dJ3_checkIndex_8e157_9 : decode cJ3_checkIndex_8e157 9 = .ok (.aload_n 2, 1) := by decide +kernel
theorem dJ3_checkIndex_8e157_10 : decode cJ3_checkIndex_8e157 10 = .ok (.iload_n 0, 1) := by decide +kernel
theorem dJ3_checkIndex_8e157_11 : decode cJ3_checkIndex_8e157 11 = .ok (.iload_n 1, 1) := by decide +kernel
theorem dJ3_checkIndex_8e157_12 : decode cJ3_checkIndex_8e157 12 = .ok (.invokestatic 95, 3) := by decide +kernel
theorem dJ3_checkIndex_8e157_15 : decode cJ3_checkIndex_8e157 15 = .ok (.athrow, 1) := by decide +kernel
theorem dJ3_checkIndex_8e157_16 : decode cJ3_checkIndex_8e157 16 = .ok (.iload_n 0, 1) := by decide +kernel
theorem dJ3_checkIndex_8e157_17 : decode cJ3_checkIndex_8e157 17 = .ok (.ireturn, 1) := by decide +kernel
theorem dJ6_bitCount_0f7a4_0 : decode cJ6_bitCount_0f7a4 0 = .ok (.iload_n 0, 1) := by decide +kernel
theorem dJ6_bitCount_0f7a4_1 : decode cJ6_bitCount_0f7a4 1 = .ok (.iload_n 0, 1) := by decide +kernel
theorem dJ6_bitCount_0f7a4_2 : decode cJ6_bitCount_0f7a4 2 = .ok (.iconst 1, 1) := by decide +kernel
theorem dJ6_bitCount_0f7a4_3 : decode cJ6_bitCount_0f7a4 3 = .ok (.iushr, 1) := by decide +kernel
theorem dJ6_bitCount_0f7a4_4 : decode cJ6_bitCount_0f7a4 4 = .ok (.ldc_w 265, 3) := by decide +kernel
theorem dJ6_bitCount_0f7a4_7 : decode cJ6_bitCount_0f7a4 7 = .ok (.iand, 1) := by decide +kernel
theorem dJ6_bitCount_0f7a4_8 : decode cJ6_bitCount_0f7a4 8 = .ok (.isub, 1) := by decide +kernel
theorem dJ6_bitCount_0f7a4_9 : decode cJ6_bitCount_0f7a4 9 = .ok (.istore_n 0, 1) := by decide +kernel
theorem dJ6_bitCount_0f7a4_10 : decode cJ6_bitCount_0f7a4 10 = .ok (.iload_n 0, 1) := by decide +kernel
theorem dJ6_bitCount_0f7a4_11 : decode cJ6_bitCount_0f7a4 11 = .ok (.ldc_w 266, 3) := by decide +kernel
theorem dJ6_bitCount_0f7a4_14 : decode cJ6_bitCount_0f7a4 14 = .ok (.iand, 1) := by decide +kernel
theorem dJ6_bitCount_0f7a4_15 : decode cJ6_bitCount_0f7a4 15 = .ok (.iload_n 0, 1) := by decide +kernel
theorem dJ6_bitCount_0f7a4_16 : decode cJ6_bitCount_0f7a4 16 = .ok (.iconst 2, 1) := by decide +kernel
theorem dJ6_bitCount_0f7a4_17 : decode cJ6_bitCount_0f7a4 17 = .ok (.iushr, 1) := by decide +kernel
theorem dJ6_bitCount_0f7a4_18 : decode cJ6_bitCount_0f7a4 18 = .ok (.ldc_w 266, 3) := by decide +kernel
theorem dJ6_bitCount_0f7a4_21 : decode cJ6_bitCount_0f7a4 21 = .ok (.iand, 1) := by decide +kernel
theorem dJ6_bitCount_0f7a4_22 : decode cJ6_bitCount_0f7a4 22 = .ok (.iadd, 1) := by decide +kernel
theorem dJ6_bitCount_0f7a4_23 : decode cJ6_bitCount_0f7a4 23 = .ok (.istore_n 0, 1) := by decide +kernel
theorem dJ6_bitCount_0f7a4_24 : decode cJ6_bitCount_0f7a4 24 = .ok (.iload_n 0, 1) := by decide +kernel
theorem dJ6_bitCount_0f7a4_25 : decode cJ6_bitCount_0f7a4 25 = .ok (.iload_n 0, 1) := by decide +kernel
theorem dJ6_bitCount_0f7a4_26 : decode cJ6_bitCount_0f7a4 26 = .ok (.iconst 4, 1) := by decide +kernel
theorem dJ6_bitCount_0f7a4_27 : decode cJ6_bitCount_0f7a4 27 = .ok (.iushr, 1) := by decide +kernel
theorem dJ6_bitCount_0f7a4_28 : decode cJ6_bitCount_0f7a4 28 = .ok (.iadd, 1) := by decide +kernel
theorem dJ6_bitCount_0f7a4_29 : decode cJ6_bitCount_0f7a4 29 = .ok (.ldc_w 267, 3) := by decide +kernel
theorem dJ6_bitCount_0f7a4_32 : decode cJ6_bitCount_0f7a4 32 = .ok (.iand, 1) := by decide +kernel
theorem dJ6_bitCount_0f7a4_33 : decode cJ6_bitCount_0f7a4 33 = .ok (.istore_n 0, 1) := by decide +kernel
theorem dJ6_bitCount_0f7a4_34 : decode cJ6_bitCount_0f7a4 34 = .ok (.iload_n 0, 1) := by decide +kernel
theorem dJ6_bitCount_0f7a4_35 : decode cJ6_bitCount_0f7a4 35 = .ok (.iload_n 0, 1) := by decide +kernel
theorem dJ6_bitCount_0f7a4_36 : decode cJ6_bitCount_0f7a4 36 = .ok (.bipush 8, 2) := by decide +kernel
theorem dJ6_bitCount_0f7a4_38 : decode cJ6_bitCount_0f7a4 38 = .ok (.iushr, 1) := by decide +kernel
theorem dJ6_bitCount_0f7a4_39 : decode cJ6_bitCount_0f7a4 39 = .ok (.iadd, 1) := by decide +kernel
theorem dJ6_bitCount_0f7a4_40 : decode cJ6_bitCount_0f7a4 40 = .ok (.istore_n 0, 1) := by decide +kernel
theorem dJ6_bitCount_0f7a4_41 : decode cJ6_bitCount_0f7a4 41 = .ok (.iload_n 0, 1) := by decide +kernel
theorem dJ6_bitCount_0f7a4_42 : decode cJ6_bitCount_0f7a4 42 = .ok (.iload_n 0, 1) := by decide +kernel
theorem dJ6_bitCount_0f7a4_43 : decode cJ6_bitCount_0f7a4 43 = .ok (.bipush 16, 2) := by decide +kernel
theorem dJ6_bitCount_0f7a4_45 : decode cJ6_bitCount_0f7a4 45 = .ok (.iushr, 1) := by decide +kernel
theorem dJ6_bitCount_0f7a4_46 : decode cJ6_bitCount_0f7a4 46 = .ok (.iadd, 1) := by decide +kernel
theorem dJ6_bitCount_0f7a4_47 : decode cJ6_bitCount_0f7a4 47 = .ok (.istore_n 0, 1) := by decide +kernel
theorem dJ6_bitCount_0f7a4_48 : decode cJ6_bitCount_0f7a4 48 = .ok (.iload_n 0, 1) := by decide +kernel
theorem dJ6_bitCount_0f7a4_49 : decode cJ6_bitCount_0f7a4 49 = .ok (.bipush 63, 2) := by decide +kernel
theorem dJ6_bitCount_0f7a4_51 : decode cJ6_bitCount_0f7a4 51 = .ok (.iand, 1) := by decide +kernel
theorem dJ6_bitCount_0f7a4_52 : decode cJ6_bitCount_0f7a4 52 = .ok (.ireturn, 1) := by decide +kernel
theorem dJ9_max_7cf53_0 : decode cJ9_max_7cf53 0 = .ok (.iload_n 0, 1) := by decide +kernel
theorem dJ9_max_7cf53_1 : decode cJ9_max_7cf53 1 = .ok (.iload_n 1, 1) := by decide +kernel
theorem dJ9_max_7cf53_2 : decode cJ9_max_7cf53 2 = .ok (.if_icmp .lt 7, 3) := by decide +kernel
theorem dJ9_max_7cf53_5 : decode cJ9_max_7cf53 5 = .ok (.iload_n 0, 1) := by decide +kernel
theorem dJ9_max_7cf53_6 : decode cJ9_max_7cf53 6 = .ok (.goto 4, 3) := by decide +kernel
theorem dJ9_max_7cf53_9 : decode cJ9_max_7cf53 9 = .ok (.iload_n 1, 1) := by decide +kernel
theorem dJ9_max_7cf53_10 : decode cJ9_max_7cf53 10 = .ok (.ireturn, 1) := by decide +kernel
theorem dJ9_min_7cf53_0 : decode cJ9_min_7cf53 0 = .ok (.iload_n 0, 1) := by decide +kernel
theorem dJ9_min_7cf53_1 : decode cJ9_min_7cf53 1 = .ok (.iload_n 1, 1) := by decide +kernel
theorem dJ9_min_7cf53_2 : decode cJ9_min_7cf53 2 = .ok (.if_icmp .gt 7, 3) := by decide +kernel
theorem dJ9_min_7cf53_5 : decode cJ9_min_7cf53 5 = .ok (.iload_n 0, 1) := by decide +kernel
theorem dJ9_min_7cf53_6 : decode cJ9_min_7cf53 6 = .ok (.goto 4, 3) := by decide +kernel
theorem dJ9_min_7cf53_9 : decode cJ9_min_7cf53 9 = .ok (.iload_n 1, 1) := by decide +kernel
theorem dJ9_min_7cf53_10 : decode cJ9_min_7cf53 10 = .ok (.ireturn, 1) := by decide +kernel
