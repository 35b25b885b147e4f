theorem dX3_init_0 : decode cX3_init 0 = .ok (.aload_n 0, 1) := by decide +kernel
theorem dX3_init_1 : decode cX3_init 1 = .ok (.invokespecial 1, 3) := by decide +kernel
theorem dX3_init_4 : decode cX3_init 4 = .ok (.aload_n 0, 1) := by decide +kernel
theorem dX3_init_5 : decode cX3_init 5 = .ok (.new 7, 3) := by decide +kernel
theorem dX3_init_8 : decode cX3_init 8 = .ok (.dup, 1) := by decide +kernel
theorem dX3_init_9 : decode cX3_init 9 = .ok (.invokespecial 9, 3) := by decide +kernel
theorem dX3_init_12 : decode cX3_init 12 = .ok (.putfield 10, 3) := by decide +kernel
theorem dX3_init_15 : decode cX3_init 15 = .ok (.aload_n 0, 1) := by decide +kernel
theorem dX3_init_16 : decode cX3_init 16 = .ok (.new 7, 3) := by decide +kernel
theorem dX3_init_19 : decode cX3_init 19 = .ok (.dup, 1) := by decide +kernel
theorem dX3_init_20 : decode cX3_init 20 = .ok (.invokespecial 9, 3) := by decide +kernel
theorem dX3_init_23 : decode cX3_init 23 = .ok (.putfield 16, 3) := by decide +kernel
theorem dX3_init_26 : decode cX3_init 26 = .ok (.aload_n 0, 1) := by decide +kernel
theorem dX3_init_27 : decode cX3_init 27 = .ok (.new 7, 3) := by decide +kernel
theorem dX3_init_30 : decode cX3_init 30 = .ok (.dup, 1) := by decide +kernel
theorem dX3_init_31 : decode cX3_init 31 = .ok (.invokespecial 9, 3) := by decide +kernel
theorem dX3_init_34 : decode cX3_init 34 = .ok (.putfield 19, 3) := by decide +kernel
theorem dX3_init_37 : decode cX3_init 37 = .ok (.aload_n 0, 1) := by decide +kernel
theorem dX3_init_38 : decode cX3_init 38 = .ok (.new 22, 3) := by decide +kernel
theorem dX3_init_41 : decode cX3_init 41 = .ok (.dup, 1) := by decide +kernel
theorem dX3_init_42 : decode cX3_init 42 = .ok (.invokespecial 24, 3) := by decide +kernel
theorem dX3_init_45 : decode cX3_init 45 = .ok (.putfield 25, 3) := by decide +kernel
theorem dX3_init_48 : decode cX3_init 48 = .ok (.aload_n 0, 1) := by decide +kernel
theorem dX3_init_49 : decode cX3_init 49 = .ok (.iconst 4, 1) := by decide +kernel
theorem dX3_init_50 : decode cX3_init 50 = .ok (.anewarray 29, 3) := by decide +kernel
theorem dX3_init_53 : decode cX3_init 53 = .ok (.putfield 31, 3) := by decide +kernel
theorem dX3_init_56 : decode cX3_init 56 = .ok (.iconst 0, 1) := by decide +kernel
theorem dX3_init_57 : decode cX3_init 57 = .ok (.istore_n 1, 1) := by decide +kernel
theorem dX3_init_58 : decode cX3_init 58 = .ok (.iload_n 1, 1) := by decide +kernel
theorem dX3_init_59 : decode cX3_init 59 = .ok (.aload_n 0, 1) := by decide +kernel
theorem dX3_init_60 : decode cX3_init 60 = .ok (.getfield 31, 3) := by decide +kernel
theorem dX3_init_63 : decode cX3_init 63 = .ok (.arraylength, 1) := by decide +kernel
theorem dX3_init_64 : decode cX3_init 64 = .ok (.if_icmp .ge 22, 3) := by decide +kernel
theorem dX3_init_67 : decode cX3_init 67 = .ok (.aload_n 0, 1) := by decide +kernel
theorem dX3_init_68 : decode cX3_init 68 = .ok (.getfield 31, 3) := by decide +kernel
theorem dX3_init_71 : decode cX3_init 71 = .ok (.iload_n 1, 1) := by decide +kernel
theorem dX3_init_72 : decode cX3_init 72 = .ok (.new 29, 3) := by decide +kernel
theorem dX3_init_75 : decode cX3_init 75 = .ok (.dup, 1) := by decide +kernel
theorem dX3_init_76 : decode cX3_init 76 = .ok (.invokespecial 35, 3) := by decide +kernel
theorem dX3_init_79 : decode cX3_init 79 = .ok (.aastore, 1) := by decide +kernel
theorem dX3_init_80 : decode cX3_init 80 = .ok (.iinc 1 1, 3) := by decide +kernel
theorem dX3_init_83 : decode cX3_init 83 = .ok (.goto (-25), 3) := by decide +kernel
theorem dX3_init_86 : decode cX3_init 86 = .ok (.aload_n 0, 1) := by decide +kernel
theorem dX3_init_87 : decode cX3_init 87 = .ok (.bipush 7, 2) := by decide +kernel
theorem dX3_init_89 : decode cX3_init 89 = .ok (.newarray .int, 2) := by decide +kernel
theorem dX3_init_91 : decode cX3_init 91 = .ok (.putfield 36, 3) := by decide +kernel
theorem dX3_init_94 : decode cX3_init 94 = .ok (.return_, 1) := by decide +kernel
theorem dX3_corner_0 : decode cX3_corner 0 = .ok (.iload_n 1, 1) := by decide +kernel
theorem dX3_corner_1 : decode cX3_corner 1 = .ok (.invokestatic 40, 3) := by decide +kernel
theorem dX3_corner_4 : decode cX3_corner 4 = .ok (.ifCond .eq 13, 3) := by decide +kernel
theorem dX3_corner_7 : decode cX3_corner 7 = .ok (.iload_n 2, 1) := by decide +kernel
theorem dX3_corner_8 : decode cX3_corner 8 = .ok (.iconst 0, 1) := by decide +kernel
theorem dX3_corner_9 : decode cX3_corner 9 = .ok (.bipush 8, 2) := by decide +kernel
theorem dX3_corner_11 : decode cX3_corner 11 = .ok (.invokestatic 44, 3) := by decide +kernel
theorem dX3_corner_14 : decode cX3_corner 14 = .ok (.ifCond .ne 10, 3) := by decide +kernel
theorem dX3_corner_17 : decode cX3_corner 17 = .ok (.aload_n 0, 1) := by decide +kernel
theorem dX3_corner_18 : decode cX3_corner 18 = .ok (.ldc 48, 2) := by decide +kernel
theorem dX3_corner_20 : decode cX3_corner 20 = .ok (.invokevirtual 49, 3) := by decide +kernel
theorem dX3_corner_23 : decode cX3_corner 23 = .ok (.ireturn, 1) := by decide +kernel
theorem dX3_corner_24 : decode cX3_corner 24 = .ok (.iload_n 2, 1) := by decide +kernel
theorem dX3_corner_25 : decode cX3_corner 25 = .ok (.tableswitch 75 5 8 #[31, 40, 49, 66], 31) := by decide +kernel
theorem dX3_corner_56 : decode cX3_corner 56 = .ok (.aload_n 0, 1) := by decide +kernel
theorem dX3_corner_57 : decode cX3_corner 57 = .ok (.getfield 10, 3) := by decide +kernel
theorem dX3_corner_60 : decode cX3_corner 60 = .ok (.iload_n 1, 1) := by decide +kernel
theorem dX3_corner_61 : decode cX3_corner 61 = .ok (.invokevirtual 53, 3) := by decide +kernel
theorem dX3_corner_64 : decode cX3_corner 64 = .ok (.ireturn, 1) := by decide +kernel
theorem dX3_corner_65 : decode cX3_corner 65 = .ok (.aload_n 0, 1) := by decide +kernel
theorem dX3_corner_66 : decode cX3_corner 66 = .ok (.getfield 10, 3) := by decide +kernel
theorem dX3_corner_69 : decode cX3_corner 69 = .ok (.iload_n 1, 1) := by decide +kernel
theorem dX3_corner_70 : decode cX3_corner 70 = .ok (.invokevirtual 56, 3) := by decide +kernel
theorem dX3_corner_73 : decode cX3_corner 73 = .ok (.ireturn, 1) := by decide +kernel
theorem dX3_corner_74 : decode cX3_corner 74 = .ok (.aload_n 0, 1) := by decide +kernel
theorem dX3_corner_75 : decode cX3_corner 75 = .ok (.getfield 10, 3) := by decide +kernel
theorem dX3_corner_78 : decode cX3_corner 78 = .ok (.iload_n 1, 1) := by decide +kernel
theorem dX3_corner_79 : decode cX3_corner 79 = .ok (.invokevirtual 59, 3) := by decide +kernel
theorem dX3_corner_82 : decode cX3_corner 82 = .ok (.ifCond .eq 7, 3) := by decide +kernel
theorem dX3_corner_85 : decode cX3_corner 85 = .ok (.iconst 1, 1) := by decide +kernel
theorem dX3_corner_86 : decode cX3_corner 86 = .ok (.goto 4, 3) := by decide +kernel
theorem dX3_corner_89 : decode cX3_corner 89 = .ok (.iconst 0, 1) := by decide +kernel
theorem dX3_corner_90 : decode cX3_corner 90 = .ok (.ireturn, 1) := by decide +kernel
theorem dX3_corner_91 : decode cX3_corner 91 = .ok (.aload_n 0, 1) := by decide +kernel
theorem dX3_corner_92 : decode cX3_corner 92 = .ok (.getfield 10, 3) := by decide +kernel
theorem dX3_corner_95 : decode cX3_corner 95 = .ok (.iload_n 1, 1) := by decide +kernel
theorem dX3_corner_96 : decode cX3_corner 96 = .ok (.invokevirtual 62, 3) := by decide +kernel
theorem dX3_corner_99 : decode cX3_corner 99 = .ok (.ireturn, 1) := by decide +kernel
theorem dX3_corner_100 : decode cX3_corner 100 = .ok (.aload_n 0, 1) := by decide +kernel
theorem dX3_corner_101 : decode cX3_corner 101 = .ok (.getfield 10, 3) := by decide +kernel
theorem dX3_corner_104 : decode cX3_corner 104 = .ok (.iload_n 1, 1) := by decide +kernel
theorem dX3_corner_105 : decode cX3_corner 105 = .ok (.iload_n 2, 1) := by decide +kernel
theorem dX3_corner_106 : decode cX3_corner 106 = .ok (.invokevirtual 65, 3) := by decide +kernel
theorem dX3_corner_109 : decode cX3_corner 109 = .ok (.ireturn, 1) := by decide +kernel
theorem dX3_build_0 : decode cX3_build 0 = .ok (.iload_n 1, 1) := by decide +kernel
theorem dX3_build_1 : decode cX3_build 1 = .ok (.invokestatic 40, 3) := by decide +kernel
theorem dX3_build_4 : decode cX3_build 4 = .ok (.ifCond .eq 11, 3) := by decide +kernel
theorem dX3_build_7 : decode cX3_build 7 = .ok (.iload_n 2, 1) := by decide +kernel
theorem dX3_build_8 : decode cX3_build 8 = .ok (.iload_n 3, 1) := by decide +kernel
theorem dX3_build_9 : decode cX3_build 9 = .ok (.invokestatic 69, 3) := by decide +kernel
theorem dX3_build_12 : decode cX3_build 12 = .ok (.ifCond .ne 10, 3) := by decide +kernel
theorem dX3_build_15 : decode cX3_build 15 = .ok (.aload_n 0, 1) := by decide +kernel
theorem dX3_build_16 : decode cX3_build 16 = .ok (.ldc 48, 2) := by decide +kernel
theorem dX3_build_18 : decode cX3_build 18 = .ok (.invokevirtual 49, 3) := by decide +kernel
theorem dX3_build_21 : decode cX3_build 21 = .ok (.ireturn, 1) := by decide +kernel
theorem dX3_build_22 : decode cX3_build 22 = .ok (.aload_n 0, 1) := by decide +kernel
theorem dX3_build_23 : decode cX3_build 23 = .ok (.getfield 10, 3) := by decide +kernel
theorem dX3_build_26 : decode cX3_build 26 = .ok (.iload_n 1, 1) := by decide +kernel
theorem dX3_build_27 : decode cX3_build 27 = .ok (.iload_n 2, 1) := by decide +kernel
theorem dX3_build_28 : decode cX3_build 28 = .ok (.invokevirtual 65, 3) := by decide +kernel
theorem dX3_build_31 : decode cX3_build 31 = .ok (.istore 4, 2) := by decide +kernel
theorem dX3_build_33 : decode cX3_build 33 = .ok (.aload_n 0, 1) := by decide +kernel
theorem dX3_build_34 : decode cX3_build 34 = .ok (.getfield 10, 3) := by decide +kernel
theorem dX3_build_37 : decode cX3_build 37 = .ok (.iload_n 1, 1) := by decide +kernel
theorem dX3_build_38 : decode cX3_build 38 = .ok (.iload_n 2, 1) := by decide +kernel
theorem dX3_build_39 : decode cX3_build 39 = .ok (.iload_n 3, 1) := by decide +kernel
theorem dX3_build_40 : decode cX3_build 40 = .ok (.invokevirtual 73, 3) := by decide +kernel
theorem dX3_build_43 : decode cX3_build 43 = .ok (.iload 4, 2) := by decide +kernel
theorem dX3_build_45 : decode cX3_build 45 = .ok (.ireturn, 1) := by decide +kernel
theorem dX3_says_0 : decode cX3_says 0 = .ok (.iload_n 1, 1) := by decide +kernel
theorem dX3_says_1 : decode cX3_says 1 = .ok (.invokestatic 77, 3) := by decide +kernel
theorem dX3_says_4 : decode cX3_says 4 = .ok (.ifCond .eq 10, 3) := by decide +kernel
theorem dX3_says_7 : decode cX3_says 7 = .ok (.iload_n 2, 1) := by decide +kernel
theorem dX3_says_8 : decode cX3_says 8 = .ok (.invokestatic 40, 3) := by decide +kernel
theorem dX3_says_11 : decode cX3_says 11 = .ok (.ifCond .ne 10, 3) := by decide +kernel
theorem dX3_says_14 : decode cX3_says 14 = .ok (.aload_n 0, 1) := by decide +kernel
theorem dX3_says_15 : decode cX3_says 15 = .ok (.ldc 48, 2) := by decide +kernel
theorem dX3_says_17 : decode cX3_says 17 = .ok (.invokevirtual 49, 3) := by decide +kernel
theorem dX3_says_20 : decode cX3_says 20 = .ok (.ireturn, 1) := by decide +kernel
theorem dX3_says_21 : decode cX3_says 21 = .ok (.aload_n 0, 1) := by decide +kernel
theorem dX3_says_22 : decode cX3_says 22 = .ok (.getfield 10, 3) := by decide +kernel
theorem dX3_says_25 : decode cX3_says 25 = .ok (.invokevirtual 80, 3) := by decide +kernel
theorem dX3_says_28 : decode cX3_says 28 = .ok (.ifCond .eq 10, 3) := by decide +kernel
theorem dX3_says_31 : decode cX3_says 31 = .ok (.aload_n 0, 1) := by decide +kernel
theorem dX3_says_32 : decode cX3_says 32 = .ok (.ldc 84, 2) := by decide +kernel
theorem dX3_says_34 : decode cX3_says 34 = .ok (.invokevirtual 49, 3) := by decide +kernel
theorem dX3_says_37 : decode cX3_says 37 = .ok (.ireturn, 1) := by decide +kernel
theorem dX3_says_38 : decode cX3_says 38 = .ok (.aload_n 0, 1) := by decide +kernel
theorem dX3_says_39 : decode cX3_says 39 = .ok (.getfield 10, 3) := by decide +kernel
theorem dX3_says_42 : decode cX3_says 42 = .ok (.iload_n 1, 1) := by decide +kernel
theorem dX3_says_43 : decode cX3_says 43 = .ok (.iload_n 2, 1) := by decide +kernel
theorem dX3_says_44 : decode cX3_says 44 = .ok (.iconst 1, 1) := by decide +kernel
theorem dX3_says_45 : decode cX3_says 45 = .ok (.invokevirtual 85, 3) := by decide +kernel
theorem dX3_says_48 : decode cX3_says 48 = .ok (.ireturn, 1) := by decide +kernel
theorem dX3_of_0 : decode cX3_of 0 = .ok (.aload_n 0, 1) := by decide +kernel
theorem dX3_of_1 : decode cX3_of 1 = .ok (.getfield 10, 3) := by decide +kernel
theorem dX3_of_4 : decode cX3_of 4 = .ok (.iload_n 1, 1) := by decide +kernel
theorem dX3_of_5 : decode cX3_of 5 = .ok (.invokevirtual 89, 3) := by decide +kernel
theorem dX3_of_8 : decode cX3_of 8 = .ok (.ifCond .eq 12, 3) := by decide +kernel
theorem dX3_of_11 : decode cX3_of 11 = .ok (.iload_n 2, 1) := by decide +kernel
theorem dX3_of_12 : decode cX3_of 12 = .ok (.iconst 0, 1) := by decide +kernel
theorem dX3_of_13 : decode cX3_of 13 = .ok (.iconst 4, 1) := by decide +kernel
theorem dX3_of_14 : decode cX3_of 14 = .ok (.invokestatic 44, 3) := by decide +kernel
theorem dX3_of_17 : decode cX3_of 17 = .ok (.ifCond .ne 10, 3) := by decide +kernel
theorem dX3_of_20 : decode cX3_of 20 = .ok (.aload_n 0, 1) := by decide +kernel
theorem dX3_of_21 : decode cX3_of 21 = .ok (.ldc 48, 2) := by decide +kernel
theorem dX3_of_23 : decode cX3_of 23 = .ok (.invokevirtual 49, 3) := by decide +kernel
theorem dX3_of_26 : decode cX3_of 26 = .ok (.ireturn, 1) := by decide +kernel
theorem dX3_of_27 : decode cX3_of 27 = .ok (.iload_n 2, 1) := by decide +kernel
theorem dX3_of_28 : decode cX3_of 28 = .ok (.lookupswitch 46 #[(3, 28), (4, 37)], 28) := by decide +kernel
theorem dX3_of_56 : decode cX3_of 56 = .ok (.aload_n 0, 1) := by decide +kernel
theorem dX3_of_57 : decode cX3_of 57 = .ok (.getfield 10, 3) := by decide +kernel
theorem dX3_of_60 : decode cX3_of 60 = .ok (.iload_n 1, 1) := by decide +kernel
theorem dX3_of_61 : decode cX3_of 61 = .ok (.invokevirtual 92, 3) := by decide +kernel
theorem dX3_of_64 : decode cX3_of 64 = .ok (.ireturn, 1) := by decide +kernel
theorem dX3_of_65 : decode cX3_of 65 = .ok (.aload_n 0, 1) := by decide +kernel
theorem dX3_of_66 : decode cX3_of 66 = .ok (.getfield 10, 3) := by decide +kernel
theorem dX3_of_69 : decode cX3_of 69 = .ok (.iload_n 1, 1) := by decide +kernel
theorem dX3_of_70 : decode cX3_of 70 = .ok (.invokevirtual 95, 3) := by decide +kernel
theorem dX3_of_73 : decode cX3_of 73 = .ok (.ireturn, 1) := by decide +kernel
theorem dX3_of_74 : decode cX3_of 74 = .ok (.aload_n 0, 1) := by decide +kernel
theorem dX3_of_75 : decode cX3_of 75 = .ok (.getfield 10, 3) := by decide +kernel
theorem dX3_of_78 : decode cX3_of 78 = .ok (.iload_n 1, 1) := by decide +kernel
theorem dX3_of_79 : decode cX3_of 79 = .ok (.iload_n 2, 1) := by decide +kernel
theorem dX3_of_80 : decode cX3_of 80 = .ok (.invokevirtual 98, 3) := by decide +kernel
theorem dX3_of_83 : decode cX3_of 83 = .ok (.ireturn, 1) := by decide +kernel
theorem dX3_change_0 : decode cX3_change 0 = .ok (.aload_n 0, 1) := by decide +kernel
theorem dX3_change_1 : decode cX3_change 1 = .ok (.getfield 10, 3) := by decide +kernel
theorem dX3_change_4 : decode cX3_change 4 = .ok (.iload_n 1, 1) := by decide +kernel
theorem dX3_change_5 : decode cX3_change 5 = .ok (.invokevirtual 89, 3) := by decide +kernel
theorem dX3_change_8 : decode cX3_change 8 = .ok (.ifCond .eq 11, 3) := by decide +kernel
theorem dX3_change_11 : decode cX3_change 11 = .ok (.iload_n 2, 1) := by decide +kernel
theorem dX3_change_12 : decode cX3_change 12 = .ok (.iload_n 3, 1) := by decide +kernel
theorem dX3_change_13 : decode cX3_change 13 = .ok (.invokestatic 101, 3) := by decide +kernel
theorem dX3_change_16 : decode cX3_change 16 = .ok (.ifCond .ne 10, 3) := by decide +kernel
theorem dX3_change_19 : decode cX3_change 19 = .ok (.aload_n 0, 1) := by decide +kernel
theorem dX3_change_20 : decode cX3_change 20 = .ok (.ldc 48, 2) := by decide +kernel
theorem dX3_change_22 : decode cX3_change 22 = .ok (.invokevirtual 49, 3) := by decide +kernel
theorem dX3_change_25 : decode cX3_change 25 = .ok (.ireturn, 1) := by decide +kernel
theorem dX3_change_26 : decode cX3_change 26 = .ok (.aload_n 0, 1) := by decide +kernel
theorem dX3_change_27 : decode cX3_change 27 = .ok (.getfield 10, 3) := by decide +kernel
theorem dX3_change_30 : decode cX3_change 30 = .ok (.iload_n 1, 1) := by decide +kernel
theorem dX3_change_31 : decode cX3_change 31 = .ok (.iload_n 2, 1) := by decide +kernel
theorem dX3_change_32 : decode cX3_change 32 = .ok (.invokevirtual 98, 3) := by decide +kernel
theorem dX3_change_35 : decode cX3_change 35 = .ok (.istore 4, 2) := by decide +kernel
theorem dX3_change_37 : decode cX3_change 37 = .ok (.aload_n 0, 1) := by decide +kernel
theorem dX3_change_38 : decode cX3_change 38 = .ok (.getfield 10, 3) := by decide +kernel
theorem dX3_change_41 : decode cX3_change 41 = .ok (.iload_n 1, 1) := by decide +kernel
theorem dX3_change_42 : decode cX3_change 42 = .ok (.iload_n 2, 1) := by decide +kernel
theorem dX3_change_43 : decode cX3_change 43 = .ok (.iload_n 3, 1) := by decide +kernel
theorem dX3_change_44 : decode cX3_change 44 = .ok (.invokevirtual 104, 3) := by decide +kernel
theorem dX3_change_47 : decode cX3_change 47 = .ok (.iload 4, 2) := by decide +kernel
theorem dX3_change_49 : decode cX3_change 49 = .ok (.ireturn, 1) := by decide +kernel
theorem dX3_aunts_0 : decode cX3_aunts 0 = .ok (.iload_n 1, 1) := by decide +kernel
theorem dX3_aunts_1 : decode cX3_aunts 1 = .ok (.invokestatic 107, 3) := by decide +kernel
theorem dX3_aunts_4 : decode cX3_aunts 4 = .ok (.ifCond .ne 10, 3) := by decide +kernel
theorem dX3_aunts_7 : decode cX3_aunts 7 = .ok (.aload_n 0, 1) := by decide +kernel
theorem dX3_aunts_8 : decode cX3_aunts 8 = .ok (.ldc 48, 2) := by decide +kernel
theorem dX3_aunts_10 : decode cX3_aunts 10 = .ok (.invokevirtual 49, 3) := by decide +kernel
theorem dX3_aunts_13 : decode cX3_aunts 13 = .ok (.ireturn, 1) := by decide +kernel
theorem dX3_aunts_14 : decode cX3_aunts 14 = .ok (.aload_n 0, 1) := by decide +kernel
theorem dX3_aunts_15 : decode cX3_aunts 15 = .ok (.getfield 10, 3) := by decide +kernel
theorem dX3_aunts_18 : decode cX3_aunts 18 = .ok (.getfield 110, 3) := by decide +kernel
theorem dX3_aunts_21 : decode cX3_aunts 21 = .ok (.istore_n 2, 1) := by decide +kernel
theorem dX3_aunts_22 : decode cX3_aunts 22 = .ok (.aload_n 0, 1) := by decide +kernel
theorem dX3_aunts_23 : decode cX3_aunts 23 = .ok (.getfield 10, 3) := by decide +kernel
theorem dX3_aunts_26 : decode cX3_aunts 26 = .ok (.iload_n 1, 1) := by decide +kernel
theorem dX3_aunts_27 : decode cX3_aunts 27 = .ok (.putfield 110, 3) := by decide +kernel
theorem dX3_aunts_30 : decode cX3_aunts 30 = .ok (.iload_n 2, 1) := by decide +kernel
theorem dX3_aunts_31 : decode cX3_aunts 31 = .ok (.ireturn, 1) := by decide +kernel
theorem dX3_frost_0 : decode cX3_frost 0 = .ok (.iload_n 1, 1) := by decide +kernel
theorem dX3_frost_1 : decode cX3_frost 1 = .ok (.iconst 0, 1) := by decide +kernel
theorem dX3_frost_2 : decode cX3_frost 2 = .ok (.iconst 1, 1) := by decide +kernel
theorem dX3_frost_3 : decode cX3_frost 3 = .ok (.invokestatic 44, 3) := by decide +kernel
theorem dX3_frost_6 : decode cX3_frost 6 = .ok (.ifCond .ne 10, 3) := by decide +kernel
theorem dX3_frost_9 : decode cX3_frost 9 = .ok (.aload_n 0, 1) := by decide +kernel
theorem dX3_frost_10 : decode cX3_frost 10 = .ok (.ldc 48, 2) := by decide +kernel
theorem dX3_frost_12 : decode cX3_frost 12 = .ok (.invokevirtual 49, 3) := by decide +kernel
theorem dX3_frost_15 : decode cX3_frost 15 = .ok (.ireturn, 1) := by decide +kernel
theorem dX3_frost_16 : decode cX3_frost 16 = .ok (.aload_n 0, 1) := by decide +kernel
theorem dX3_frost_17 : decode cX3_frost 17 = .ok (.getfield 10, 3) := by decide +kernel
theorem dX3_frost_20 : decode cX3_frost 20 = .ok (.getfield 114, 3) := by decide +kernel
theorem dX3_frost_23 : decode cX3_frost 23 = .ok (.istore_n 2, 1) := by decide +kernel
theorem dX3_frost_24 : decode cX3_frost 24 = .ok (.aload_n 0, 1) := by decide +kernel
theorem dX3_frost_25 : decode cX3_frost 25 = .ok (.getfield 10, 3) := by decide +kernel
theorem dX3_frost_28 : decode cX3_frost 28 = .ok (.iload_n 1, 1) := by decide +kernel
theorem dX3_frost_29 : decode cX3_frost 29 = .ok (.putfield 114, 3) := by decide +kernel
theorem dX3_frost_32 : decode cX3_frost 32 = .ok (.iload_n 2, 1) := by decide +kernel
theorem dX3_frost_33 : decode cX3_frost 33 = .ok (.ireturn, 1) := by decide +kernel
theorem dX3_go_0 : decode cX3_go 0 = .ok (.iload_n 1, 1) := by decide +kernel
theorem dX3_go_1 : decode cX3_go 1 = .ok (.iconst 1, 1) := by decide +kernel
theorem dX3_go_2 : decode cX3_go 2 = .ok (.bipush 60, 2) := by decide +kernel
theorem dX3_go_4 : decode cX3_go 4 = .ok (.invokestatic 44, 3) := by decide +kernel
theorem dX3_go_7 : decode cX3_go 7 = .ok (.ifCond .ne 10, 3) := by decide +kernel
theorem dX3_go_10 : decode cX3_go 10 = .ok (.aload_n 0, 1) := by decide +kernel
theorem dX3_go_11 : decode cX3_go 11 = .ok (.ldc 48, 2) := by decide +kernel
theorem dX3_go_13 : decode cX3_go 13 = .ok (.invokevirtual 49, 3) := by decide +kernel
theorem dX3_go_16 : decode cX3_go 16 = .ok (.ireturn, 1) := by decide +kernel
theorem dX3_go_17 : decode cX3_go 17 = .ok (.aload_n 0, 1) := by decide +kernel
theorem dX3_go_18 : decode cX3_go 18 = .ok (.getfield 10, 3) := by decide +kernel
theorem dX3_go_21 : decode cX3_go 21 = .ok (.getfield 117, 3) := by decide +kernel
theorem dX3_go_24 : decode cX3_go 24 = .ok (.iload_n 1, 1) := by decide +kernel
theorem dX3_go_25 : decode cX3_go 25 = .ok (.iadd, 1) := by decide +kernel
theorem dX3_go_26 : decode cX3_go 26 = .ok (.ldc 120, 2) := by decide +kernel
theorem dX3_go_28 : decode cX3_go 28 = .ok (.if_icmp .le 10, 3) := by decide +kernel
theorem dX3_go_31 : decode cX3_go 31 = .ok (.aload_n 0, 1) := by decide +kernel
theorem dX3_go_32 : decode cX3_go 32 = .ok (.ldc 121, 2) := by decide +kernel
theorem dX3_go_34 : decode cX3_go 34 = .ok (.invokevirtual 49, 3) := by decide +kernel
theorem dX3_go_37 : decode cX3_go 37 = .ok (.ireturn, 1) := by decide +kernel
theorem dX3_go_38 : decode cX3_go 38 = .ok (.aload_n 0, 1) := by decide +kernel
theorem dX3_go_39 : decode cX3_go 39 = .ok (.getfield 10, 3) := by decide +kernel
theorem dX3_go_42 : decode cX3_go 42 = .ok (.iload_n 1, 1) := by decide +kernel
theorem dX3_go_43 : decode cX3_go 43 = .ok (.invokevirtual 122, 3) := by decide +kernel
theorem dX3_go_46 : decode cX3_go 46 = .ok (.pop, 1) := by decide +kernel
theorem dX3_go_47 : decode cX3_go 47 = .ok (.aload_n 0, 1) := by decide +kernel
theorem dX3_go_48 : decode cX3_go 48 = .ok (.getfield 10, 3) := by decide +kernel
theorem dX3_go_51 : decode cX3_go 51 = .ok (.bipush 15, 2) := by decide +kernel
theorem dX3_go_53 : decode cX3_go 53 = .ok (.invokevirtual 56, 3) := by decide +kernel
theorem dX3_go_56 : decode cX3_go 56 = .ok (.ireturn, 1) := by decide +kernel
theorem dX3_now_0 : decode cX3_now 0 = .ok (.iload_n 1, 1) := by decide +kernel
theorem dX3_now_1 : decode cX3_now 1 = .ok (.tableswitch 87 0 5 #[39, 47, 55, 63, 71, 79], 39) := by decide +kernel
theorem dX3_now_40 : decode cX3_now 40 = .ok (.aload_n 0, 1) := by decide +kernel
theorem dX3_now_41 : decode cX3_now 41 = .ok (.getfield 10, 3) := by decide +kernel
theorem dX3_now_44 : decode cX3_now 44 = .ok (.getfield 117, 3) := by decide +kernel
theorem dX3_now_47 : decode cX3_now 47 = .ok (.ireturn, 1) := by decide +kernel
theorem dX3_now_48 : decode cX3_now 48 = .ok (.aload_n 0, 1) := by decide +kernel
theorem dX3_now_49 : decode cX3_now 49 = .ok (.getfield 10, 3) := by decide +kernel
theorem dX3_now_52 : decode cX3_now 52 = .ok (.invokevirtual 125, 3) := by decide +kernel
theorem dX3_now_55 : decode cX3_now 55 = .ok (.ireturn, 1) := by decide +kernel
theorem dX3_now_56 : decode cX3_now 56 = .ok (.aload_n 0, 1) := by decide +kernel
theorem dX3_now_57 : decode cX3_now 57 = .ok (.getfield 10, 3) := by decide +kernel
theorem dX3_now_60 : decode cX3_now 60 = .ok (.invokevirtual 129, 3) := by decide +kernel
theorem dX3_now_63 : decode cX3_now 63 = .ok (.ireturn, 1) := by decide +kernel
theorem dX3_now_64 : decode cX3_now 64 = .ok (.aload_n 0, 1) := by decide +kernel
theorem dX3_now_65 : decode cX3_now 65 = .ok (.getfield 10, 3) := by decide +kernel
theorem dX3_now_68 : decode cX3_now 68 = .ok (.getfield 114, 3) := by decide +kernel
theorem dX3_now_71 : decode cX3_now 71 = .ok (.ireturn, 1) := by decide +kernel
theorem dX3_now_72 : decode cX3_now 72 = .ok (.aload_n 0, 1) := by decide +kernel
theorem dX3_now_73 : decode cX3_now 73 = .ok (.getfield 10, 3) := by decide +kernel
theorem dX3_now_76 : decode cX3_now 76 = .ok (.getfield 110, 3) := by decide +kernel
theorem dX3_now_79 : decode cX3_now 79 = .ok (.ireturn, 1) := by decide +kernel
theorem dX3_now_80 : decode cX3_now 80 = .ok (.aload_n 0, 1) := by decide +kernel
theorem dX3_now_81 : decode cX3_now 81 = .ok (.getfield 10, 3) := by decide +kernel
theorem dX3_now_84 : decode cX3_now 84 = .ok (.invokevirtual 132, 3) := by decide +kernel
theorem dX3_now_87 : decode cX3_now 87 = .ok (.ireturn, 1) := by decide +kernel
theorem dX3_now_88 : decode cX3_now 88 = .ok (.aload_n 0, 1) := by decide +kernel
theorem dX3_now_89 : decode cX3_now 89 = .ok (.ldc 48, 2) := by decide +kernel
theorem dX3_now_91 : decode cX3_now 91 = .ok (.invokevirtual 49, 3) := by decide +kernel
theorem dX3_now_94 : decode cX3_now 94 = .ok (.ireturn, 1) := by decide +kernel
theorem dX3_merge_0 : decode cX3_merge 0 = .ok (.iload_n 1, 1) := by decide +kernel
theorem dX3_merge_1 : decode cX3_merge 1 = .ok (.invokestatic 40, 3) := by decide +kernel
theorem dX3_merge_4 : decode cX3_merge 4 = .ok (.ifCond .ne 10, 3) := by decide +kernel
theorem dX3_merge_7 : decode cX3_merge 7 = .ok (.aload_n 0, 1) := by decide +kernel
theorem dX3_merge_8 : decode cX3_merge 8 = .ok (.ldc 48, 2) := by decide +kernel
theorem dX3_merge_10 : decode cX3_merge 10 = .ok (.invokevirtual 49, 3) := by decide +kernel
theorem dX3_merge_13 : decode cX3_merge 13 = .ok (.ireturn, 1) := by decide +kernel
theorem dX3_merge_14 : decode cX3_merge 14 = .ok (.aload_n 0, 1) := by decide +kernel
theorem dX3_merge_15 : decode cX3_merge 15 = .ok (.getfield 10, 3) := by decide +kernel
theorem dX3_merge_18 : decode cX3_merge 18 = .ok (.iload_n 1, 1) := by decide +kernel
theorem dX3_merge_19 : decode cX3_merge 19 = .ok (.invokevirtual 135, 3) := by decide +kernel
theorem dX3_merge_22 : decode cX3_merge 22 = .ok (.istore_n 2, 1) := by decide +kernel
theorem dX3_merge_23 : decode cX3_merge 23 = .ok (.iload_n 2, 1) := by decide +kernel
theorem dX3_merge_24 : decode cX3_merge 24 = .ok (.ifCond .ne 10, 3) := by decide +kernel
theorem dX3_merge_27 : decode cX3_merge 27 = .ok (.aload_n 0, 1) := by decide +kernel
theorem dX3_merge_28 : decode cX3_merge 28 = .ok (.ldc 138, 2) := by decide +kernel
theorem dX3_merge_30 : decode cX3_merge 30 = .ok (.invokevirtual 49, 3) := by decide +kernel
theorem dX3_merge_33 : decode cX3_merge 33 = .ok (.ireturn, 1) := by decide +kernel
theorem dX3_merge_34 : decode cX3_merge 34 = .ok (.aload_n 0, 1) := by decide +kernel
theorem dX3_merge_35 : decode cX3_merge 35 = .ok (.getfield 10, 3) := by decide +kernel
theorem dX3_merge_38 : decode cX3_merge 38 = .ok (.iload_n 1, 1) := by decide +kernel
theorem dX3_merge_39 : decode cX3_merge 39 = .ok (.invokevirtual 139, 3) := by decide +kernel
theorem dX3_merge_42 : decode cX3_merge 42 = .ok (.iload_n 2, 1) := by decide +kernel
theorem dX3_merge_43 : decode cX3_merge 43 = .ok (.ireturn, 1) := by decide +kernel
theorem dX3_ahead_0 : decode cX3_ahead 0 = .ok (.aload_n 0, 1) := by decide +kernel
theorem dX3_ahead_1 : decode cX3_ahead 1 = .ok (.getfield 10, 3) := by decide +kernel
theorem dX3_ahead_4 : decode cX3_ahead 4 = .ok (.iload_n 1, 1) := by decide +kernel
theorem dX3_ahead_5 : decode cX3_ahead 5 = .ok (.invokevirtual 89, 3) := by decide +kernel
theorem dX3_ahead_8 : decode cX3_ahead 8 = .ok (.ifCond .eq 13, 3) := by decide +kernel
theorem dX3_ahead_11 : decode cX3_ahead 11 = .ok (.iload_n 2, 1) := by decide +kernel
theorem dX3_ahead_12 : decode cX3_ahead 12 = .ok (.iconst 0, 1) := by decide +kernel
theorem dX3_ahead_13 : decode cX3_ahead 13 = .ok (.bipush 100, 2) := by decide +kernel
theorem dX3_ahead_15 : decode cX3_ahead 15 = .ok (.invokestatic 44, 3) := by decide +kernel
theorem dX3_ahead_18 : decode cX3_ahead 18 = .ok (.ifCond .ne 10, 3) := by decide +kernel
theorem dX3_ahead_21 : decode cX3_ahead 21 = .ok (.aload_n 0, 1) := by decide +kernel
theorem dX3_ahead_22 : decode cX3_ahead 22 = .ok (.ldc 48, 2) := by decide +kernel
theorem dX3_ahead_24 : decode cX3_ahead 24 = .ok (.invokevirtual 49, 3) := by decide +kernel
theorem dX3_ahead_27 : decode cX3_ahead 27 = .ok (.ireturn, 1) := by decide +kernel
theorem dX3_ahead_28 : decode cX3_ahead 28 = .ok (.aload_n 0, 1) := by decide +kernel
theorem dX3_ahead_29 : decode cX3_ahead 29 = .ok (.getfield 19, 3) := by decide +kernel
theorem dX3_ahead_32 : decode cX3_ahead 32 = .ok (.aload_n 0, 1) := by decide +kernel
theorem dX3_ahead_33 : decode cX3_ahead 33 = .ok (.getfield 10, 3) := by decide +kernel
theorem dX3_ahead_36 : decode cX3_ahead 36 = .ok (.invokevirtual 143, 3) := by decide +kernel
theorem dX3_ahead_39 : decode cX3_ahead 39 = .ok (.aload_n 0, 1) := by decide +kernel
theorem dX3_ahead_40 : decode cX3_ahead 40 = .ok (.getfield 19, 3) := by decide +kernel
theorem dX3_ahead_43 : decode cX3_ahead 43 = .ok (.iload_n 2, 1) := by decide +kernel
theorem dX3_ahead_44 : decode cX3_ahead 44 = .ok (.invokevirtual 122, 3) := by decide +kernel
theorem dX3_ahead_47 : decode cX3_ahead 47 = .ok (.pop, 1) := by decide +kernel
theorem dX3_ahead_48 : decode cX3_ahead 48 = .ok (.aload_n 0, 1) := by decide +kernel
theorem dX3_ahead_49 : decode cX3_ahead 49 = .ok (.getfield 19, 3) := by decide +kernel
theorem dX3_ahead_52 : decode cX3_ahead 52 = .ok (.iload_n 1, 1) := by decide +kernel
theorem dX3_ahead_53 : decode cX3_ahead 53 = .ok (.iconst 1, 1) := by decide +kernel
theorem dX3_ahead_54 : decode cX3_ahead 54 = .ok (.invokevirtual 98, 3) := by decide +kernel
theorem dX3_ahead_57 : decode cX3_ahead 57 = .ok (.ireturn, 1) := by decide +kernel
theorem dX3_loud_0 : decode cX3_loud 0 = .ok (.iload_n 1, 1) := by decide +kernel
theorem dX3_loud_1 : decode cX3_loud 1 = .ok (.invokestatic 40, 3) := by decide +kernel
theorem dX3_loud_4 : decode cX3_loud 4 = .ok (.ifCond .eq 13, 3) := by decide +kernel
theorem dX3_loud_7 : decode cX3_loud 7 = .ok (.iload_n 2, 1) := by decide +kernel
theorem dX3_loud_8 : decode cX3_loud 8 = .ok (.iconst 0, 1) := by decide +kernel
theorem dX3_loud_9 : decode cX3_loud 9 = .ok (.bipush 100, 2) := by decide +kernel
theorem dX3_loud_11 : decode cX3_loud 11 = .ok (.invokestatic 44, 3) := by decide +kernel
theorem dX3_loud_14 : decode cX3_loud 14 = .ok (.ifCond .ne 10, 3) := by decide +kernel
theorem dX3_loud_17 : decode cX3_loud 17 = .ok (.aload_n 0, 1) := by decide +kernel
theorem dX3_loud_18 : decode cX3_loud 18 = .ok (.ldc 48, 2) := by decide +kernel
theorem dX3_loud_20 : decode cX3_loud 20 = .ok (.invokevirtual 49, 3) := by decide +kernel
theorem dX3_loud_23 : decode cX3_loud 23 = .ok (.ireturn, 1) := by decide +kernel
theorem dX3_loud_24 : decode cX3_loud 24 = .ok (.aload_n 0, 1) := by decide +kernel
theorem dX3_loud_25 : decode cX3_loud 25 = .ok (.getfield 19, 3) := by decide +kernel
theorem dX3_loud_28 : decode cX3_loud 28 = .ok (.aload_n 0, 1) := by decide +kernel
theorem dX3_loud_29 : decode cX3_loud 29 = .ok (.getfield 10, 3) := by decide +kernel
theorem dX3_loud_32 : decode cX3_loud 32 = .ok (.invokevirtual 143, 3) := by decide +kernel
theorem dX3_loud_35 : decode cX3_loud 35 = .ok (.aload_n 0, 1) := by decide +kernel
theorem dX3_loud_36 : decode cX3_loud 36 = .ok (.getfield 19, 3) := by decide +kernel
theorem dX3_loud_39 : decode cX3_loud 39 = .ok (.iload_n 2, 1) := by decide +kernel
theorem dX3_loud_40 : decode cX3_loud 40 = .ok (.invokevirtual 122, 3) := by decide +kernel
theorem dX3_loud_43 : decode cX3_loud 43 = .ok (.pop, 1) := by decide +kernel
theorem dX3_loud_44 : decode cX3_loud 44 = .ok (.aload_n 0, 1) := by decide +kernel
theorem dX3_loud_45 : decode cX3_loud 45 = .ok (.getfield 19, 3) := by decide +kernel
theorem dX3_loud_48 : decode cX3_loud 48 = .ok (.iload_n 1, 1) := by decide +kernel
theorem dX3_loud_49 : decode cX3_loud 49 = .ok (.invokevirtual 56, 3) := by decide +kernel
theorem dX3_loud_52 : decode cX3_loud 52 = .ok (.ireturn, 1) := by decide +kernel
theorem dX3_heard_0 : decode cX3_heard 0 = .ok (.iload_n 1, 1) := by decide +kernel
theorem dX3_heard_1 : decode cX3_heard 1 = .ok (.invokestatic 40, 3) := by decide +kernel
theorem dX3_heard_4 : decode cX3_heard 4 = .ok (.ifCond .ne 10, 3) := by decide +kernel
theorem dX3_heard_7 : decode cX3_heard 7 = .ok (.aload_n 0, 1) := by decide +kernel
theorem dX3_heard_8 : decode cX3_heard 8 = .ok (.ldc 48, 2) := by decide +kernel
theorem dX3_heard_10 : decode cX3_heard 10 = .ok (.invokevirtual 49, 3) := by decide +kernel
theorem dX3_heard_13 : decode cX3_heard 13 = .ok (.ireturn, 1) := by decide +kernel
theorem dX3_heard_14 : decode cX3_heard 14 = .ok (.aload_n 0, 1) := by decide +kernel
theorem dX3_heard_15 : decode cX3_heard 15 = .ok (.getfield 19, 3) := by decide +kernel
theorem dX3_heard_18 : decode cX3_heard 18 = .ok (.aload_n 0, 1) := by decide +kernel
theorem dX3_heard_19 : decode cX3_heard 19 = .ok (.getfield 10, 3) := by decide +kernel
theorem dX3_heard_22 : decode cX3_heard 22 = .ok (.invokevirtual 143, 3) := by decide +kernel
theorem dX3_heard_25 : decode cX3_heard 25 = .ok (.iconst 0, 1) := by decide +kernel
theorem dX3_heard_26 : decode cX3_heard 26 = .ok (.istore_n 2, 1) := by decide +kernel
theorem dX3_heard_27 : decode cX3_heard 27 = .ok (.iload_n 2, 1) := by decide +kernel
theorem dX3_heard_28 : decode cX3_heard 28 = .ok (.bipush 100, 2) := by decide +kernel
theorem dX3_heard_30 : decode cX3_heard 30 = .ok (.if_icmp .gt 31, 3) := by decide +kernel
theorem dX3_heard_33 : decode cX3_heard 33 = .ok (.aload_n 0, 1) := by decide +kernel
theorem dX3_heard_34 : decode cX3_heard 34 = .ok (.getfield 19, 3) := by decide +kernel
theorem dX3_heard_37 : decode cX3_heard 37 = .ok (.iload_n 1, 1) := by decide +kernel
theorem dX3_heard_38 : decode cX3_heard 38 = .ok (.invokevirtual 59, 3) := by decide +kernel
theorem dX3_heard_41 : decode cX3_heard 41 = .ok (.ifCond .eq 5, 3) := by decide +kernel
theorem dX3_heard_44 : decode cX3_heard 44 = .ok (.iload_n 2, 1) := by decide +kernel
theorem dX3_heard_45 : decode cX3_heard 45 = .ok (.ireturn, 1) := by decide +kernel
theorem dX3_heard_46 : decode cX3_heard 46 = .ok (.aload_n 0, 1) := by decide +kernel
theorem dX3_heard_47 : decode cX3_heard 47 = .ok (.getfield 19, 3) := by decide +kernel
theorem dX3_heard_50 : decode cX3_heard 50 = .ok (.iconst 1, 1) := by decide +kernel
theorem dX3_heard_51 : decode cX3_heard 51 = .ok (.invokevirtual 122, 3) := by decide +kernel
theorem dX3_heard_54 : decode cX3_heard 54 = .ok (.pop, 1) := by decide +kernel
theorem dX3_heard_55 : decode cX3_heard 55 = .ok (.iinc 2 1, 3) := by decide +kernel
theorem dX3_heard_58 : decode cX3_heard 58 = .ok (.goto (-31), 3) := by decide +kernel
theorem dX3_heard_61 : decode cX3_heard 61 = .ok (.aload_n 0, 1) := by decide +kernel
theorem dX3_heard_62 : decode cX3_heard 62 = .ok (.ldc 138, 2) := by decide +kernel
theorem dX3_heard_64 : decode cX3_heard 64 = .ok (.invokevirtual 49, 3) := by decide +kernel
theorem dX3_heard_67 : decode cX3_heard 67 = .ok (.ireturn, 1) := by decide +kernel
theorem dX3_still_0 : decode cX3_still 0 = .ok (.aload_n 0, 1) := by decide +kernel
theorem dX3_still_1 : decode cX3_still 1 = .ok (.getfield 19, 3) := by decide +kernel
theorem dX3_still_4 : decode cX3_still 4 = .ok (.aload_n 0, 1) := by decide +kernel
theorem dX3_still_5 : decode cX3_still 5 = .ok (.getfield 10, 3) := by decide +kernel
theorem dX3_still_8 : decode cX3_still 8 = .ok (.invokevirtual 143, 3) := by decide +kernel
theorem dX3_still_11 : decode cX3_still 11 = .ok (.aload_n 0, 1) := by decide +kernel
theorem dX3_still_12 : decode cX3_still 12 = .ok (.getfield 19, 3) := by decide +kernel
theorem dX3_still_15 : decode cX3_still 15 = .ok (.bipush 101, 2) := by decide +kernel
theorem dX3_still_17 : decode cX3_still 17 = .ok (.invokevirtual 122, 3) := by decide +kernel
theorem dX3_still_20 : decode cX3_still 20 = .ok (.istore_n 1, 1) := by decide +kernel
theorem dX3_still_21 : decode cX3_still 21 = .ok (.iload_n 1, 1) := by decide +kernel
theorem dX3_still_22 : decode cX3_still 22 = .ok (.bipush 100, 2) := by decide +kernel
theorem dX3_still_24 : decode cX3_still 24 = .ok (.if_icmp .le 12, 3) := by decide +kernel
theorem dX3_still_27 : decode cX3_still 27 = .ok (.aload_n 0, 1) := by decide +kernel
theorem dX3_still_28 : decode cX3_still 28 = .ok (.ldc 138, 2) := by decide +kernel
theorem dX3_still_30 : decode cX3_still 30 = .ok (.invokevirtual 49, 3) := by decide +kernel
theorem dX3_still_33 : decode cX3_still 33 = .ok (.goto 4, 3) := by decide +kernel
theorem dX3_still_36 : decode cX3_still 36 = .ok (.iload_n 1, 1) := by decide +kernel
theorem dX3_still_37 : decode cX3_still 37 = .ok (.ireturn, 1) := by decide +kernel
theorem dX3_harbour_0 : decode cX3_harbour 0 = .ok (.aload_n 0, 1) := by decide +kernel
theorem dX3_harbour_1 : decode cX3_harbour 1 = .ok (.getfield 10, 3) := by decide +kernel
theorem dX3_harbour_4 : decode cX3_harbour 4 = .ok (.iload_n 1, 1) := by decide +kernel
theorem dX3_harbour_5 : decode cX3_harbour 5 = .ok (.invokevirtual 89, 3) := by decide +kernel
theorem dX3_harbour_8 : decode cX3_harbour 8 = .ok (.ifCond .ne 10, 3) := by decide +kernel
theorem dX3_harbour_11 : decode cX3_harbour 11 = .ok (.aload_n 0, 1) := by decide +kernel
theorem dX3_harbour_12 : decode cX3_harbour 12 = .ok (.ldc 48, 2) := by decide +kernel
theorem dX3_harbour_14 : decode cX3_harbour 14 = .ok (.invokevirtual 49, 3) := by decide +kernel
theorem dX3_harbour_17 : decode cX3_harbour 17 = .ok (.ireturn, 1) := by decide +kernel
theorem dX3_harbour_18 : decode cX3_harbour 18 = .ok (.aload_n 0, 1) := by decide +kernel
theorem dX3_harbour_19 : decode cX3_harbour 19 = .ok (.getfield 19, 3) := by decide +kernel
theorem dX3_harbour_22 : decode cX3_harbour 22 = .ok (.aload_n 0, 1) := by decide +kernel
theorem dX3_harbour_23 : decode cX3_harbour 23 = .ok (.getfield 10, 3) := by decide +kernel
theorem dX3_harbour_26 : decode cX3_harbour 26 = .ok (.invokevirtual 143, 3) := by decide +kernel
theorem dX3_harbour_29 : decode cX3_harbour 29 = .ok (.aload_n 0, 1) := by decide +kernel
theorem dX3_harbour_30 : decode cX3_harbour 30 = .ok (.getfield 19, 3) := by decide +kernel
theorem dX3_harbour_33 : decode cX3_harbour 33 = .ok (.iload_n 1, 1) := by decide +kernel
theorem dX3_harbour_34 : decode cX3_harbour 34 = .ok (.invokevirtual 147, 3) := by decide +kernel
theorem dX3_harbour_37 : decode cX3_harbour 37 = .ok (.istore_n 2, 1) := by decide +kernel
theorem dX3_harbour_38 : decode cX3_harbour 38 = .ok (.iload_n 2, 1) := by decide +kernel
theorem dX3_harbour_39 : decode cX3_harbour 39 = .ok (.bipush 100, 2) := by decide +kernel
theorem dX3_harbour_41 : decode cX3_harbour 41 = .ok (.if_icmp .le 12, 3) := by decide +kernel
theorem dX3_harbour_44 : decode cX3_harbour 44 = .ok (.aload_n 0, 1) := by decide +kernel
theorem dX3_harbour_45 : decode cX3_harbour 45 = .ok (.ldc 138, 2) := by decide +kernel
theorem dX3_harbour_47 : decode cX3_harbour 47 = .ok (.invokevirtual 49, 3) := by decide +kernel
theorem dX3_harbour_50 : decode cX3_harbour 50 = .ok (.goto 4, 3) := by decide +kernel
theorem dX3_harbour_53 : decode cX3_harbour 53 = .ok (.iload_n 2, 1) := by decide +kernel
theorem dX3_harbour_54 : decode cX3_harbour 54 = .ok (.ireturn, 1) := by decide +kernel
theorem dX3_loudest_0 : decode cX3_loudest 0 = .ok (.iload_n 1, 1) := by decide +kernel
theorem dX3_loudest_1 : decode cX3_loudest 1 = .ok (.invokestatic 40, 3) := by decide +kernel
theorem dX3_loudest_4 : decode cX3_loudest 4 = .ok (.ifCond .eq 13, 3) := by decide +kernel
theorem dX3_loudest_7 : decode cX3_loudest 7 = .ok (.iload_n 2, 1) := by decide +kernel
theorem dX3_loudest_8 : decode cX3_loudest 8 = .ok (.iconst 0, 1) := by decide +kernel
theorem dX3_loudest_9 : decode cX3_loudest 9 = .ok (.bipush 100, 2) := by decide +kernel
theorem dX3_loudest_11 : decode cX3_loudest 11 = .ok (.invokestatic 44, 3) := by decide +kernel
theorem dX3_loudest_14 : decode cX3_loudest 14 = .ok (.ifCond .ne 10, 3) := by decide +kernel
theorem dX3_loudest_17 : decode cX3_loudest 17 = .ok (.aload_n 0, 1) := by decide +kernel
theorem dX3_loudest_18 : decode cX3_loudest 18 = .ok (.ldc 48, 2) := by decide +kernel
theorem dX3_loudest_20 : decode cX3_loudest 20 = .ok (.invokevirtual 49, 3) := by decide +kernel
theorem dX3_loudest_23 : decode cX3_loudest 23 = .ok (.ireturn, 1) := by decide +kernel
theorem dX3_loudest_24 : decode cX3_loudest 24 = .ok (.aload_n 0, 1) := by decide +kernel
theorem dX3_loudest_25 : decode cX3_loudest 25 = .ok (.getfield 19, 3) := by decide +kernel
theorem dX3_loudest_28 : decode cX3_loudest 28 = .ok (.aload_n 0, 1) := by decide +kernel
theorem dX3_loudest_29 : decode cX3_loudest 29 = .ok (.getfield 10, 3) := by decide +kernel
theorem dX3_loudest_32 : decode cX3_loudest 32 = .ok (.invokevirtual 143, 3) := by decide +kernel
theorem dX3_loudest_35 : decode cX3_loudest 35 = .ok (.aload_n 0, 1) := by decide +kernel
theorem dX3_loudest_36 : decode cX3_loudest 36 = .ok (.getfield 19, 3) := by decide +kernel
theorem dX3_loudest_39 : decode cX3_loudest 39 = .ok (.iload_n 1, 1) := by decide +kernel
theorem dX3_loudest_40 : decode cX3_loudest 40 = .ok (.invokevirtual 56, 3) := by decide +kernel
theorem dX3_loudest_43 : decode cX3_loudest 43 = .ok (.istore_n 3, 1) := by decide +kernel
theorem dX3_loudest_44 : decode cX3_loudest 44 = .ok (.iconst 0, 1) := by decide +kernel
theorem dX3_loudest_45 : decode cX3_loudest 45 = .ok (.istore 4, 2) := by decide +kernel
theorem dX3_loudest_47 : decode cX3_loudest 47 = .ok (.iload 4, 2) := by decide +kernel
theorem dX3_loudest_49 : decode cX3_loudest 49 = .ok (.iload_n 2, 1) := by decide +kernel
theorem dX3_loudest_50 : decode cX3_loudest 50 = .ok (.if_icmp .ge 31, 3) := by decide +kernel
theorem dX3_loudest_53 : decode cX3_loudest 53 = .ok (.aload_n 0, 1) := by decide +kernel
theorem dX3_loudest_54 : decode cX3_loudest 54 = .ok (.getfield 19, 3) := by decide +kernel
theorem dX3_loudest_57 : decode cX3_loudest 57 = .ok (.iconst 1, 1) := by decide +kernel
theorem dX3_loudest_58 : decode cX3_loudest 58 = .ok (.invokevirtual 122, 3) := by decide +kernel
theorem dX3_loudest_61 : decode cX3_loudest 61 = .ok (.pop, 1) := by decide +kernel
theorem dX3_loudest_62 : decode cX3_loudest 62 = .ok (.iload_n 3, 1) := by decide +kernel
theorem dX3_loudest_63 : decode cX3_loudest 63 = .ok (.aload_n 0, 1) := by decide +kernel
theorem dX3_loudest_64 : decode cX3_loudest 64 = .ok (.getfield 19, 3) := by decide +kernel
theorem dX3_loudest_67 : decode cX3_loudest 67 = .ok (.iload_n 1, 1) := by decide +kernel
theorem dX3_loudest_68 : decode cX3_loudest 68 = .ok (.invokevirtual 56, 3) := by decide +kernel
theorem dX3_loudest_71 : decode cX3_loudest 71 = .ok (.invokestatic 150, 3) := by decide +kernel
theorem dX3_loudest_74 : decode cX3_loudest 74 = .ok (.istore_n 3, 1) := by decide +kernel
theorem dX3_loudest_75 : decode cX3_loudest 75 = .ok (.iinc 4 1, 3) := by decide +kernel
theorem dX3_loudest_78 : decode cX3_loudest 78 = .ok (.goto (-31), 3) := by decide +kernel
theorem dX3_loudest_81 : decode cX3_loudest 81 = .ok (.iload_n 3, 1) := by decide +kernel
theorem dX3_loudest_82 : decode cX3_loudest 82 = .ok (.ireturn, 1) := by decide +kernel
theorem dX3_overtakes_0 : decode cX3_overtakes 0 = .ok (.aload_n 0, 1) := by decide +kernel
theorem dX3_overtakes_1 : decode cX3_overtakes 1 = .ok (.getfield 10, 3) := by decide +kernel
theorem dX3_overtakes_4 : decode cX3_overtakes 4 = .ok (.iload_n 1, 1) := by decide +kernel
theorem dX3_overtakes_5 : decode cX3_overtakes 5 = .ok (.invokevirtual 89, 3) := by decide +kernel
theorem dX3_overtakes_8 : decode cX3_overtakes 8 = .ok (.ifCond .eq 19, 3) := by decide +kernel
theorem dX3_overtakes_11 : decode cX3_overtakes 11 = .ok (.aload_n 0, 1) := by decide +kernel
theorem dX3_overtakes_12 : decode cX3_overtakes 12 = .ok (.getfield 10, 3) := by decide +kernel
theorem dX3_overtakes_15 : decode cX3_overtakes 15 = .ok (.iload_n 2, 1) := by decide +kernel
theorem dX3_overtakes_16 : decode cX3_overtakes 16 = .ok (.invokevirtual 89, 3) := by decide +kernel
theorem dX3_overtakes_19 : decode cX3_overtakes 19 = .ok (.ifCond .eq 8, 3) := by decide +kernel
theorem dX3_overtakes_22 : decode cX3_overtakes 22 = .ok (.iload_n 1, 1) := by decide +kernel
theorem dX3_overtakes_23 : decode cX3_overtakes 23 = .ok (.iload_n 2, 1) := by decide +kernel
theorem dX3_overtakes_24 : decode cX3_overtakes 24 = .ok (.if_icmp .ne 10, 3) := by decide +kernel
theorem dX3_overtakes_27 : decode cX3_overtakes 27 = .ok (.aload_n 0, 1) := by decide +kernel
theorem dX3_overtakes_28 : decode cX3_overtakes 28 = .ok (.ldc 48, 2) := by decide +kernel
theorem dX3_overtakes_30 : decode cX3_overtakes 30 = .ok (.invokevirtual 49, 3) := by decide +kernel
theorem dX3_overtakes_33 : decode cX3_overtakes 33 = .ok (.ireturn, 1) := by decide +kernel
theorem dX3_overtakes_34 : decode cX3_overtakes 34 = .ok (.aload_n 0, 1) := by decide +kernel
theorem dX3_overtakes_35 : decode cX3_overtakes 35 = .ok (.getfield 19, 3) := by decide +kernel
theorem dX3_overtakes_38 : decode cX3_overtakes 38 = .ok (.aload_n 0, 1) := by decide +kernel
theorem dX3_overtakes_39 : decode cX3_overtakes 39 = .ok (.getfield 10, 3) := by decide +kernel
theorem dX3_overtakes_42 : decode cX3_overtakes 42 = .ok (.invokevirtual 143, 3) := by decide +kernel
theorem dX3_overtakes_45 : decode cX3_overtakes 45 = .ok (.iconst 0, 1) := by decide +kernel
theorem dX3_overtakes_46 : decode cX3_overtakes 46 = .ok (.istore_n 3, 1) := by decide +kernel
theorem dX3_overtakes_47 : decode cX3_overtakes 47 = .ok (.iload_n 3, 1) := by decide +kernel
theorem dX3_overtakes_48 : decode cX3_overtakes 48 = .ok (.bipush 100, 2) := by decide +kernel
theorem dX3_overtakes_50 : decode cX3_overtakes 50 = .ok (.if_icmp .gt 39, 3) := by decide +kernel
theorem dX3_overtakes_53 : decode cX3_overtakes 53 = .ok (.aload_n 0, 1) := by decide +kernel
theorem dX3_overtakes_54 : decode cX3_overtakes 54 = .ok (.getfield 19, 3) := by decide +kernel
theorem dX3_overtakes_57 : decode cX3_overtakes 57 = .ok (.iload_n 1, 1) := by decide +kernel
theorem dX3_overtakes_58 : decode cX3_overtakes 58 = .ok (.invokevirtual 155, 3) := by decide +kernel
theorem dX3_overtakes_61 : decode cX3_overtakes 61 = .ok (.aload_n 0, 1) := by decide +kernel
theorem dX3_overtakes_62 : decode cX3_overtakes 62 = .ok (.getfield 19, 3) := by decide +kernel
theorem dX3_overtakes_65 : decode cX3_overtakes 65 = .ok (.iload_n 2, 1) := by decide +kernel
theorem dX3_overtakes_66 : decode cX3_overtakes 66 = .ok (.invokevirtual 155, 3) := by decide +kernel
theorem dX3_overtakes_69 : decode cX3_overtakes 69 = .ok (.if_icmp .ge 5, 3) := by decide +kernel
theorem dX3_overtakes_72 : decode cX3_overtakes 72 = .ok (.iload_n 3, 1) := by decide +kernel
theorem dX3_overtakes_73 : decode cX3_overtakes 73 = .ok (.ireturn, 1) := by decide +kernel
theorem dX3_overtakes_74 : decode cX3_overtakes 74 = .ok (.aload_n 0, 1) := by decide +kernel
theorem dX3_overtakes_75 : decode cX3_overtakes 75 = .ok (.getfield 19, 3) := by decide +kernel
theorem dX3_overtakes_78 : decode cX3_overtakes 78 = .ok (.iconst 1, 1) := by decide +kernel
theorem dX3_overtakes_79 : decode cX3_overtakes 79 = .ok (.invokevirtual 122, 3) := by decide +kernel
theorem dX3_overtakes_82 : decode cX3_overtakes 82 = .ok (.pop, 1) := by decide +kernel
theorem dX3_overtakes_83 : decode cX3_overtakes 83 = .ok (.iinc 3 1, 3) := by decide +kernel
theorem dX3_overtakes_86 : decode cX3_overtakes 86 = .ok (.goto (-39), 3) := by decide +kernel
theorem dX3_overtakes_89 : decode cX3_overtakes 89 = .ok (.aload_n 0, 1) := by decide +kernel
theorem dX3_overtakes_90 : decode cX3_overtakes 90 = .ok (.ldc 138, 2) := by decide +kernel
theorem dX3_overtakes_92 : decode cX3_overtakes 92 = .ok (.invokevirtual 49, 3) := by decide +kernel
theorem dX3_overtakes_95 : decode cX3_overtakes 95 = .ok (.ireturn, 1) := by decide +kernel
theorem dX3_kindFor_0 : decode cX3_kindFor 0 = .ok (.aload_n 0, 1) := by decide +kernel
theorem dX3_kindFor_1 : decode cX3_kindFor 1 = .ok (.getfield 10, 3) := by decide +kernel
theorem dX3_kindFor_4 : decode cX3_kindFor 4 = .ok (.iload_n 1, 1) := by decide +kernel
theorem dX3_kindFor_5 : decode cX3_kindFor 5 = .ok (.invokevirtual 89, 3) := by decide +kernel
theorem dX3_kindFor_8 : decode cX3_kindFor 8 = .ok (.ifCond .ne 10, 3) := by decide +kernel
theorem dX3_kindFor_11 : decode cX3_kindFor 11 = .ok (.aload_n 0, 1) := by decide +kernel
theorem dX3_kindFor_12 : decode cX3_kindFor 12 = .ok (.ldc 48, 2) := by decide +kernel
theorem dX3_kindFor_14 : decode cX3_kindFor 14 = .ok (.invokevirtual 49, 3) := by decide +kernel
theorem dX3_kindFor_17 : decode cX3_kindFor 17 = .ok (.ireturn, 1) := by decide +kernel
theorem dX3_kindFor_18 : decode cX3_kindFor 18 = .ok (.ldc 138, 2) := by decide +kernel
theorem dX3_kindFor_20 : decode cX3_kindFor 20 = .ok (.istore_n 2, 1) := by decide +kernel
theorem dX3_kindFor_21 : decode cX3_kindFor 21 = .ok (.bipush 101, 2) := by decide +kernel
theorem dX3_kindFor_23 : decode cX3_kindFor 23 = .ok (.istore_n 3, 1) := by decide +kernel
theorem dX3_kindFor_24 : decode cX3_kindFor 24 = .ok (.iconst 0, 1) := by decide +kernel
theorem dX3_kindFor_25 : decode cX3_kindFor 25 = .ok (.istore 4, 2) := by decide +kernel
theorem dX3_kindFor_27 : decode cX3_kindFor 27 = .ok (.iload 4, 2) := by decide +kernel
theorem dX3_kindFor_29 : decode cX3_kindFor 29 = .ok (.bipush 7, 2) := by decide +kernel
theorem dX3_kindFor_31 : decode cX3_kindFor 31 = .ok (.if_icmp .ge 53, 3) := by decide +kernel
theorem dX3_kindFor_34 : decode cX3_kindFor 34 = .ok (.aload_n 0, 1) := by decide +kernel
theorem dX3_kindFor_35 : decode cX3_kindFor 35 = .ok (.getfield 19, 3) := by decide +kernel
theorem dX3_kindFor_38 : decode cX3_kindFor 38 = .ok (.aload_n 0, 1) := by decide +kernel
theorem dX3_kindFor_39 : decode cX3_kindFor 39 = .ok (.getfield 10, 3) := by decide +kernel
theorem dX3_kindFor_42 : decode cX3_kindFor 42 = .ok (.invokevirtual 143, 3) := by decide +kernel
theorem dX3_kindFor_45 : decode cX3_kindFor 45 = .ok (.aload_n 0, 1) := by decide +kernel
theorem dX3_kindFor_46 : decode cX3_kindFor 46 = .ok (.getfield 19, 3) := by decide +kernel
theorem dX3_kindFor_49 : decode cX3_kindFor 49 = .ok (.iload_n 1, 1) := by decide +kernel
theorem dX3_kindFor_50 : decode cX3_kindFor 50 = .ok (.iconst 0, 1) := by decide +kernel
theorem dX3_kindFor_51 : decode cX3_kindFor 51 = .ok (.iload 4, 2) := by decide +kernel
theorem dX3_kindFor_53 : decode cX3_kindFor 53 = .ok (.invokevirtual 104, 3) := by decide +kernel
theorem dX3_kindFor_56 : decode cX3_kindFor 56 = .ok (.aload_n 0, 1) := by decide +kernel
theorem dX3_kindFor_57 : decode cX3_kindFor 57 = .ok (.getfield 19, 3) := by decide +kernel
theorem dX3_kindFor_60 : decode cX3_kindFor 60 = .ok (.iload_n 1, 1) := by decide +kernel
theorem dX3_kindFor_61 : decode cX3_kindFor 61 = .ok (.invokevirtual 147, 3) := by decide +kernel
theorem dX3_kindFor_64 : decode cX3_kindFor 64 = .ok (.istore 5, 2) := by decide +kernel
theorem dX3_kindFor_66 : decode cX3_kindFor 66 = .ok (.iload 5, 2) := by decide +kernel
theorem dX3_kindFor_68 : decode cX3_kindFor 68 = .ok (.iload_n 3, 1) := by decide +kernel
theorem dX3_kindFor_69 : decode cX3_kindFor 69 = .ok (.if_icmp .ge 9, 3) := by decide +kernel
theorem dX3_kindFor_72 : decode cX3_kindFor 72 = .ok (.iload 5, 2) := by decide +kernel
theorem dX3_kindFor_74 : decode cX3_kindFor 74 = .ok (.istore_n 3, 1) := by decide +kernel
theorem dX3_kindFor_75 : decode cX3_kindFor 75 = .ok (.iload 4, 2) := by decide +kernel
theorem dX3_kindFor_77 : decode cX3_kindFor 77 = .ok (.istore_n 2, 1) := by decide +kernel
theorem dX3_kindFor_78 : decode cX3_kindFor 78 = .ok (.iinc 4 1, 3) := by decide +kernel
theorem dX3_kindFor_81 : decode cX3_kindFor 81 = .ok (.goto (-54), 3) := by decide +kernel
theorem dX3_kindFor_84 : decode cX3_kindFor 84 = .ok (.iload_n 2, 1) := by decide +kernel
theorem dX3_kindFor_85 : decode cX3_kindFor 85 = .ok (.ldc 138, 2) := by decide +kernel
theorem dX3_kindFor_87 : decode cX3_kindFor 87 = .ok (.if_icmp .ne 12, 3) := by decide +kernel
theorem dX3_kindFor_90 : decode cX3_kindFor 90 = .ok (.aload_n 0, 1) := by decide +kernel
theorem dX3_kindFor_91 : decode cX3_kindFor 91 = .ok (.ldc 138, 2) := by decide +kernel
theorem dX3_kindFor_93 : decode cX3_kindFor 93 = .ok (.invokevirtual 49, 3) := by decide +kernel
theorem dX3_kindFor_96 : decode cX3_kindFor 96 = .ok (.goto 4, 3) := by decide +kernel
theorem dX3_kindFor_99 : decode cX3_kindFor 99 = .ok (.iload_n 2, 1) := by decide +kernel
theorem dX3_kindFor_100 : decode cX3_kindFor 100 = .ok (.ireturn, 1) := by decide +kernel
theorem dX3_goesBy_0 : decode cX3_goesBy 0 = .ok (.aload_n 0, 1) := by decide +kernel
theorem dX3_goesBy_1 : decode cX3_goesBy 1 = .ok (.getfield 10, 3) := by decide +kernel
theorem dX3_goesBy_4 : decode cX3_goesBy 4 = .ok (.iload_n 1, 1) := by decide +kernel
theorem dX3_goesBy_5 : decode cX3_goesBy 5 = .ok (.invokevirtual 89, 3) := by decide +kernel
theorem dX3_goesBy_8 : decode cX3_goesBy 8 = .ok (.ifCond .ne 10, 3) := by decide +kernel
theorem dX3_goesBy_11 : decode cX3_goesBy 11 = .ok (.aload_n 0, 1) := by decide +kernel
theorem dX3_goesBy_12 : decode cX3_goesBy 12 = .ok (.ldc 48, 2) := by decide +kernel
theorem dX3_goesBy_14 : decode cX3_goesBy 14 = .ok (.invokevirtual 49, 3) := by decide +kernel
theorem dX3_goesBy_17 : decode cX3_goesBy 17 = .ok (.ireturn, 1) := by decide +kernel
theorem dX3_goesBy_18 : decode cX3_goesBy 18 = .ok (.aload_n 0, 1) := by decide +kernel
theorem dX3_goesBy_19 : decode cX3_goesBy 19 = .ok (.getfield 19, 3) := by decide +kernel
theorem dX3_goesBy_22 : decode cX3_goesBy 22 = .ok (.aload_n 0, 1) := by decide +kernel
theorem dX3_goesBy_23 : decode cX3_goesBy 23 = .ok (.getfield 10, 3) := by decide +kernel
theorem dX3_goesBy_26 : decode cX3_goesBy 26 = .ok (.invokevirtual 143, 3) := by decide +kernel
theorem dX3_goesBy_29 : decode cX3_goesBy 29 = .ok (.aload_n 0, 1) := by decide +kernel
theorem dX3_goesBy_30 : decode cX3_goesBy 30 = .ok (.getfield 19, 3) := by decide +kernel
theorem dX3_goesBy_33 : decode cX3_goesBy 33 = .ok (.iload_n 1, 1) := by decide +kernel
theorem dX3_goesBy_34 : decode cX3_goesBy 34 = .ok (.bipush 100, 2) := by decide +kernel
theorem dX3_goesBy_36 : decode cX3_goesBy 36 = .ok (.invokevirtual 158, 3) := by decide +kernel
theorem dX3_goesBy_39 : decode cX3_goesBy 39 = .ok (.ireturn, 1) := by decide +kernel
theorem dX3_where_0 : decode cX3_where 0 = .ok (.aload_n 0, 1) := by decide +kernel
theorem dX3_where_1 : decode cX3_where 1 = .ok (.getfield 10, 3) := by decide +kernel
theorem dX3_where_4 : decode cX3_where 4 = .ok (.iload_n 1, 1) := by decide +kernel
theorem dX3_where_5 : decode cX3_where 5 = .ok (.invokevirtual 89, 3) := by decide +kernel
theorem dX3_where_8 : decode cX3_where 8 = .ok (.ifCond .eq 17, 3) := by decide +kernel
theorem dX3_where_11 : decode cX3_where 11 = .ok (.iload_n 2, 1) := by decide +kernel
theorem dX3_where_12 : decode cX3_where 12 = .ok (.invokestatic 107, 3) := by decide +kernel
theorem dX3_where_15 : decode cX3_where 15 = .ok (.ifCond .eq 10, 3) := by decide +kernel
theorem dX3_where_18 : decode cX3_where 18 = .ok (.iload_n 3, 1) := by decide +kernel
theorem dX3_where_19 : decode cX3_where 19 = .ok (.invokestatic 107, 3) := by decide +kernel
theorem dX3_where_22 : decode cX3_where 22 = .ok (.ifCond .ne 10, 3) := by decide +kernel
theorem dX3_where_25 : decode cX3_where 25 = .ok (.aload_n 0, 1) := by decide +kernel
theorem dX3_where_26 : decode cX3_where 26 = .ok (.ldc 48, 2) := by decide +kernel
theorem dX3_where_28 : decode cX3_where 28 = .ok (.invokevirtual 49, 3) := by decide +kernel
theorem dX3_where_31 : decode cX3_where 31 = .ok (.ireturn, 1) := by decide +kernel
theorem dX3_where_32 : decode cX3_where 32 = .ok (.aload_n 0, 1) := by decide +kernel
theorem dX3_where_33 : decode cX3_where 33 = .ok (.iload_n 1, 1) := by decide +kernel
theorem dX3_where_34 : decode cX3_where 34 = .ok (.iload_n 2, 1) := by decide +kernel
theorem dX3_where_35 : decode cX3_where 35 = .ok (.iload_n 3, 1) := by decide +kernel
theorem dX3_where_36 : decode cX3_where 36 = .ok (.invokevirtual 161, 3) := by decide +kernel
theorem dX3_where_39 : decode cX3_where 39 = .ok (.istore 4, 2) := by decide +kernel
theorem dX3_where_41 : decode cX3_where 41 = .ok (.ldc 138, 2) := by decide +kernel
theorem dX3_where_43 : decode cX3_where 43 = .ok (.istore 5, 2) := by decide +kernel
theorem dX3_where_45 : decode cX3_where 45 = .ok (.iconst (-1), 1) := by decide +kernel
theorem dX3_where_46 : decode cX3_where 46 = .ok (.istore 6, 2) := by decide +kernel
theorem dX3_where_48 : decode cX3_where 48 = .ok (.iconst 0, 1) := by decide +kernel
theorem dX3_where_49 : decode cX3_where 49 = .ok (.istore 7, 2) := by decide +kernel
theorem dX3_where_51 : decode cX3_where 51 = .ok (.iload 7, 2) := by decide +kernel
theorem dX3_where_53 : decode cX3_where 53 = .ok (.bipush 16, 2) := by decide +kernel
theorem dX3_where_55 : decode cX3_where 55 = .ok (.if_icmp .ge 50, 3) := by decide +kernel
theorem dX3_where_58 : decode cX3_where 58 = .ok (.iload 4, 2) := by decide +kernel
theorem dX3_where_60 : decode cX3_where 60 = .ok (.iload 7, 2) := by decide +kernel
theorem dX3_where_62 : decode cX3_where 62 = .ok (.invokestatic 164, 3) := by decide +kernel
theorem dX3_where_65 : decode cX3_where 65 = .ok (.ifCond .eq 34, 3) := by decide +kernel
theorem dX3_where_68 : decode cX3_where 68 = .ok (.aload_n 0, 1) := by decide +kernel
theorem dX3_where_69 : decode cX3_where 69 = .ok (.getfield 10, 3) := by decide +kernel
theorem dX3_where_72 : decode cX3_where 72 = .ok (.iload 7, 2) := by decide +kernel
theorem dX3_where_74 : decode cX3_where 74 = .ok (.iconst 0, 1) := by decide +kernel
theorem dX3_where_75 : decode cX3_where 75 = .ok (.invokevirtual 65, 3) := by decide +kernel
theorem dX3_where_78 : decode cX3_where 78 = .ok (.iload 6, 2) := by decide +kernel
theorem dX3_where_80 : decode cX3_where 80 = .ok (.if_icmp .le 19, 3) := by decide +kernel
theorem dX3_where_83 : decode cX3_where 83 = .ok (.aload_n 0, 1) := by decide +kernel
theorem dX3_where_84 : decode cX3_where 84 = .ok (.getfield 10, 3) := by decide +kernel
theorem dX3_where_87 : decode cX3_where 87 = .ok (.iload 7, 2) := by decide +kernel
theorem dX3_where_89 : decode cX3_where 89 = .ok (.iconst 0, 1) := by decide +kernel
theorem dX3_where_90 : decode cX3_where 90 = .ok (.invokevirtual 65, 3) := by decide +kernel
theorem dX3_where_93 : decode cX3_where 93 = .ok (.istore 6, 2) := by decide +kernel
theorem dX3_where_95 : decode cX3_where 95 = .ok (.iload 7, 2) := by decide +kernel
theorem dX3_where_97 : decode cX3_where 97 = .ok (.istore 5, 2) := by decide +kernel
theorem dX3_where_99 : decode cX3_where 99 = .ok (.iinc 7 1, 3) := by decide +kernel
theorem dX3_where_102 : decode cX3_where 102 = .ok (.goto (-51), 3) := by decide +kernel
theorem dX3_where_105 : decode cX3_where 105 = .ok (.iload 5, 2) := by decide +kernel
theorem dX3_where_107 : decode cX3_where 107 = .ok (.ldc 138, 2) := by decide +kernel
theorem dX3_where_109 : decode cX3_where 109 = .ok (.if_icmp .ne 12, 3) := by decide +kernel
theorem dX3_where_112 : decode cX3_where 112 = .ok (.aload_n 0, 1) := by decide +kernel
theorem dX3_where_113 : decode cX3_where 113 = .ok (.ldc 138, 2) := by decide +kernel
theorem dX3_where_115 : decode cX3_where 115 = .ok (.invokevirtual 49, 3) := by decide +kernel
theorem dX3_where_118 : decode cX3_where 118 = .ok (.goto 5, 3) := by decide +kernel
theorem dX3_where_121 : decode cX3_where 121 = .ok (.iload 5, 2) := by decide +kernel
theorem dX3_where_123 : decode cX3_where 123 = .ok (.ireturn, 1) := by decide +kernel
theorem dX3_places_0 : decode cX3_places 0 = .ok (.aload_n 0, 1) := by decide +kernel
theorem dX3_places_1 : decode cX3_places 1 = .ok (.getfield 10, 3) := by decide +kernel
theorem dX3_places_4 : decode cX3_places 4 = .ok (.iload_n 1, 1) := by decide +kernel
theorem dX3_places_5 : decode cX3_places 5 = .ok (.invokevirtual 89, 3) := by decide +kernel
theorem dX3_places_8 : decode cX3_places 8 = .ok (.ifCond .eq 17, 3) := by decide +kernel
theorem dX3_places_11 : decode cX3_places 11 = .ok (.iload_n 2, 1) := by decide +kernel
theorem dX3_places_12 : decode cX3_places 12 = .ok (.invokestatic 107, 3) := by decide +kernel
theorem dX3_places_15 : decode cX3_places 15 = .ok (.ifCond .eq 10, 3) := by decide +kernel
theorem dX3_places_18 : decode cX3_places 18 = .ok (.iload_n 3, 1) := by decide +kernel
theorem dX3_places_19 : decode cX3_places 19 = .ok (.invokestatic 107, 3) := by decide +kernel
theorem dX3_places_22 : decode cX3_places 22 = .ok (.ifCond .ne 10, 3) := by decide +kernel
theorem dX3_places_25 : decode cX3_places 25 = .ok (.aload_n 0, 1) := by decide +kernel
theorem dX3_places_26 : decode cX3_places 26 = .ok (.ldc 48, 2) := by decide +kernel
theorem dX3_places_28 : decode cX3_places 28 = .ok (.invokevirtual 49, 3) := by decide +kernel
theorem dX3_places_31 : decode cX3_places 31 = .ok (.ireturn, 1) := by decide +kernel
theorem dX3_places_32 : decode cX3_places 32 = .ok (.aload_n 0, 1) := by decide +kernel
theorem dX3_places_33 : decode cX3_places 33 = .ok (.iload_n 1, 1) := by decide +kernel
theorem dX3_places_34 : decode cX3_places 34 = .ok (.iload_n 2, 1) := by decide +kernel
theorem dX3_places_35 : decode cX3_places 35 = .ok (.iload_n 3, 1) := by decide +kernel
theorem dX3_places_36 : decode cX3_places 36 = .ok (.invokevirtual 161, 3) := by decide +kernel
theorem dX3_places_39 : decode cX3_places 39 = .ok (.invokestatic 167, 3) := by decide +kernel
theorem dX3_places_42 : decode cX3_places 42 = .ok (.ireturn, 1) := by decide +kernel
theorem dX3_goodPlaces_0 : decode cX3_goodPlaces 0 = .ok (.iconst 0, 1) := by decide +kernel
theorem dX3_goodPlaces_1 : decode cX3_goodPlaces 1 = .ok (.istore 4, 2) := by decide +kernel
theorem dX3_goodPlaces_3 : decode cX3_goodPlaces 3 = .ok (.iconst 0, 1) := by decide +kernel
theorem dX3_goodPlaces_4 : decode cX3_goodPlaces 4 = .ok (.istore 5, 2) := by decide +kernel
theorem dX3_goodPlaces_6 : decode cX3_goodPlaces 6 = .ok (.iload 5, 2) := by decide +kernel
theorem dX3_goodPlaces_8 : decode cX3_goodPlaces 8 = .ok (.bipush 16, 2) := by decide +kernel
theorem dX3_goodPlaces_10 : decode cX3_goodPlaces 10 = .ok (.if_icmp .ge 67, 3) := by decide +kernel
theorem dX3_goodPlaces_13 : decode cX3_goodPlaces 13 = .ok (.aload_n 0, 1) := by decide +kernel
theorem dX3_goodPlaces_14 : decode cX3_goodPlaces 14 = .ok (.getfield 19, 3) := by decide +kernel
theorem dX3_goodPlaces_17 : decode cX3_goodPlaces 17 = .ok (.aload_n 0, 1) := by decide +kernel
theorem dX3_goodPlaces_18 : decode cX3_goodPlaces 18 = .ok (.getfield 10, 3) := by decide +kernel
theorem dX3_goodPlaces_21 : decode cX3_goodPlaces 21 = .ok (.invokevirtual 143, 3) := by decide +kernel
theorem dX3_goodPlaces_24 : decode cX3_goodPlaces 24 = .ok (.aload_n 0, 1) := by decide +kernel
theorem dX3_goodPlaces_25 : decode cX3_goodPlaces 25 = .ok (.getfield 19, 3) := by decide +kernel
theorem dX3_goodPlaces_28 : decode cX3_goodPlaces 28 = .ok (.iload_n 1, 1) := by decide +kernel
theorem dX3_goodPlaces_29 : decode cX3_goodPlaces 29 = .ok (.iconst 1, 1) := by decide +kernel
theorem dX3_goodPlaces_30 : decode cX3_goodPlaces 30 = .ok (.iload 5, 2) := by decide +kernel
theorem dX3_goodPlaces_32 : decode cX3_goodPlaces 32 = .ok (.invokevirtual 104, 3) := by decide +kernel
theorem dX3_goodPlaces_35 : decode cX3_goodPlaces 35 = .ok (.aload_n 0, 1) := by decide +kernel
theorem dX3_goodPlaces_36 : decode cX3_goodPlaces 36 = .ok (.getfield 19, 3) := by decide +kernel
theorem dX3_goodPlaces_39 : decode cX3_goodPlaces 39 = .ok (.iload_n 1, 1) := by decide +kernel
theorem dX3_goodPlaces_40 : decode cX3_goodPlaces 40 = .ok (.bipush 100, 2) := by decide +kernel
theorem dX3_goodPlaces_42 : decode cX3_goodPlaces 42 = .ok (.invokevirtual 158, 3) := by decide +kernel
theorem dX3_goodPlaces_45 : decode cX3_goodPlaces 45 = .ok (.istore 6, 2) := by decide +kernel
theorem dX3_goodPlaces_47 : decode cX3_goodPlaces 47 = .ok (.iload 6, 2) := by decide +kernel
theorem dX3_goodPlaces_49 : decode cX3_goodPlaces 49 = .ok (.iload_n 2, 1) := by decide +kernel
theorem dX3_goodPlaces_50 : decode cX3_goodPlaces 50 = .ok (.iand, 1) := by decide +kernel
theorem dX3_goodPlaces_51 : decode cX3_goodPlaces 51 = .ok (.iload_n 2, 1) := by decide +kernel
theorem dX3_goodPlaces_52 : decode cX3_goodPlaces 52 = .ok (.if_icmp .ne 19, 3) := by decide +kernel
theorem dX3_goodPlaces_55 : decode cX3_goodPlaces 55 = .ok (.iload 6, 2) := by decide +kernel
theorem dX3_goodPlaces_57 : decode cX3_goodPlaces 57 = .ok (.iload_n 3, 1) := by decide +kernel
theorem dX3_goodPlaces_58 : decode cX3_goodPlaces 58 = .ok (.iand, 1) := by decide +kernel
theorem dX3_goodPlaces_59 : decode cX3_goodPlaces 59 = .ok (.ifCond .ne 12, 3) := by decide +kernel
theorem dX3_goodPlaces_62 : decode cX3_goodPlaces 62 = .ok (.iload 4, 2) := by decide +kernel
theorem dX3_goodPlaces_64 : decode cX3_goodPlaces 64 = .ok (.iconst 1, 1) := by decide +kernel
theorem dX3_goodPlaces_65 : decode cX3_goodPlaces 65 = .ok (.iload 5, 2) := by decide +kernel
theorem dX3_goodPlaces_67 : decode cX3_goodPlaces 67 = .ok (.ishl, 1) := by decide +kernel
theorem dX3_goodPlaces_68 : decode cX3_goodPlaces 68 = .ok (.ior, 1) := by decide +kernel
theorem dX3_goodPlaces_69 : decode cX3_goodPlaces 69 = .ok (.istore 4, 2) := by decide +kernel
theorem dX3_goodPlaces_71 : decode cX3_goodPlaces 71 = .ok (.iinc 5 1, 3) := by decide +kernel
theorem dX3_goodPlaces_74 : decode cX3_goodPlaces 74 = .ok (.goto (-68), 3) := by decide +kernel
theorem dX3_goodPlaces_77 : decode cX3_goodPlaces 77 = .ok (.iload 4, 2) := by decide +kernel
theorem dX3_goodPlaces_79 : decode cX3_goodPlaces 79 = .ok (.ireturn, 1) := by decide +kernel
theorem dX3_weightFor_0 : decode cX3_weightFor 0 = .ok (.aload_n 0, 1) := by decide +kernel
theorem dX3_weightFor_1 : decode cX3_weightFor 1 = .ok (.getfield 10, 3) := by decide +kernel
theorem dX3_weightFor_4 : decode cX3_weightFor 4 = .ok (.iload_n 1, 1) := by decide +kernel
theorem dX3_weightFor_5 : decode cX3_weightFor 5 = .ok (.invokevirtual 89, 3) := by decide +kernel
theorem dX3_weightFor_8 : decode cX3_weightFor 8 = .ok (.ifCond .eq 20, 3) := by decide +kernel
theorem dX3_weightFor_11 : decode cX3_weightFor 11 = .ok (.iload_n 2, 1) := by decide +kernel
theorem dX3_weightFor_12 : decode cX3_weightFor 12 = .ok (.invokestatic 40, 3) := by decide +kernel
theorem dX3_weightFor_15 : decode cX3_weightFor 15 = .ok (.ifCond .eq 13, 3) := by decide +kernel
theorem dX3_weightFor_18 : decode cX3_weightFor 18 = .ok (.iload_n 3, 1) := by decide +kernel
theorem dX3_weightFor_19 : decode cX3_weightFor 19 = .ok (.iconst 0, 1) := by decide +kernel
theorem dX3_weightFor_20 : decode cX3_weightFor 20 = .ok (.bipush 40, 2) := by decide +kernel
theorem dX3_weightFor_22 : decode cX3_weightFor 22 = .ok (.invokestatic 44, 3) := by decide +kernel
theorem dX3_weightFor_25 : decode cX3_weightFor 25 = .ok (.ifCond .ne 10, 3) := by decide +kernel
theorem dX3_weightFor_28 : decode cX3_weightFor 28 = .ok (.aload_n 0, 1) := by decide +kernel
theorem dX3_weightFor_29 : decode cX3_weightFor 29 = .ok (.ldc 48, 2) := by decide +kernel
theorem dX3_weightFor_31 : decode cX3_weightFor 31 = .ok (.invokevirtual 49, 3) := by decide +kernel
theorem dX3_weightFor_34 : decode cX3_weightFor 34 = .ok (.ireturn, 1) := by decide +kernel
theorem dX3_weightFor_35 : decode cX3_weightFor 35 = .ok (.aload_n 0, 1) := by decide +kernel
theorem dX3_weightFor_36 : decode cX3_weightFor 36 = .ok (.getfield 19, 3) := by decide +kernel
theorem dX3_weightFor_39 : decode cX3_weightFor 39 = .ok (.aload_n 0, 1) := by decide +kernel
theorem dX3_weightFor_40 : decode cX3_weightFor 40 = .ok (.getfield 10, 3) := by decide +kernel
theorem dX3_weightFor_43 : decode cX3_weightFor 43 = .ok (.invokevirtual 143, 3) := by decide +kernel
theorem dX3_weightFor_46 : decode cX3_weightFor 46 = .ok (.aload_n 0, 1) := by decide +kernel
theorem dX3_weightFor_47 : decode cX3_weightFor 47 = .ok (.getfield 19, 3) := by decide +kernel
theorem dX3_weightFor_50 : decode cX3_weightFor 50 = .ok (.iload_n 3, 1) := by decide +kernel
theorem dX3_weightFor_51 : decode cX3_weightFor 51 = .ok (.invokevirtual 122, 3) := by decide +kernel
theorem dX3_weightFor_54 : decode cX3_weightFor 54 = .ok (.pop, 1) := by decide +kernel
theorem dX3_weightFor_55 : decode cX3_weightFor 55 = .ok (.aload_n 0, 1) := by decide +kernel
theorem dX3_weightFor_56 : decode cX3_weightFor 56 = .ok (.getfield 19, 3) := by decide +kernel
theorem dX3_weightFor_59 : decode cX3_weightFor 59 = .ok (.iload_n 2, 1) := by decide +kernel
theorem dX3_weightFor_60 : decode cX3_weightFor 60 = .ok (.invokevirtual 56, 3) := by decide +kernel
theorem dX3_weightFor_63 : decode cX3_weightFor 63 = .ok (.aload_n 0, 1) := by decide +kernel
theorem dX3_weightFor_64 : decode cX3_weightFor 64 = .ok (.getfield 19, 3) := by decide +kernel
theorem dX3_weightFor_67 : decode cX3_weightFor 67 = .ok (.iload_n 1, 1) := by decide +kernel
theorem dX3_weightFor_68 : decode cX3_weightFor 68 = .ok (.iload_n 2, 1) := by decide +kernel
theorem dX3_weightFor_69 : decode cX3_weightFor 69 = .ok (.invokevirtual 172, 3) := by decide +kernel
theorem dX3_weightFor_72 : decode cX3_weightFor 72 = .ok (.isub, 1) := by decide +kernel
theorem dX3_weightFor_73 : decode cX3_weightFor 73 = .ok (.istore 4, 2) := by decide +kernel
theorem dX3_weightFor_75 : decode cX3_weightFor 75 = .ok (.aload_n 0, 1) := by decide +kernel
theorem dX3_weightFor_76 : decode cX3_weightFor 76 = .ok (.getfield 10, 3) := by decide +kernel
theorem dX3_weightFor_79 : decode cX3_weightFor 79 = .ok (.iload_n 2, 1) := by decide +kernel
theorem dX3_weightFor_80 : decode cX3_weightFor 80 = .ok (.iconst 4, 1) := by decide +kernel
theorem dX3_weightFor_81 : decode cX3_weightFor 81 = .ok (.invokevirtual 65, 3) := by decide +kernel
theorem dX3_weightFor_84 : decode cX3_weightFor 84 = .ok (.iload 4, 2) := by decide +kernel
theorem dX3_weightFor_86 : decode cX3_weightFor 86 = .ok (.isub, 1) := by decide +kernel
theorem dX3_weightFor_87 : decode cX3_weightFor 87 = .ok (.istore 5, 2) := by decide +kernel
theorem dX3_weightFor_89 : decode cX3_weightFor 89 = .ok (.iconst 1, 1) := by decide +kernel
theorem dX3_weightFor_90 : decode cX3_weightFor 90 = .ok (.istore 6, 2) := by decide +kernel
theorem dX3_weightFor_92 : decode cX3_weightFor 92 = .ok (.iload 6, 2) := by decide +kernel
theorem dX3_weightFor_94 : decode cX3_weightFor 94 = .ok (.sipush 999, 3) := by decide +kernel
theorem dX3_weightFor_97 : decode cX3_weightFor 97 = .ok (.if_icmp .gt 65, 3) := by decide +kernel
theorem dX3_weightFor_100 : decode cX3_weightFor 100 = .ok (.aload_n 0, 1) := by decide +kernel
theorem dX3_weightFor_101 : decode cX3_weightFor 101 = .ok (.getfield 19, 3) := by decide +kernel
theorem dX3_weightFor_104 : decode cX3_weightFor 104 = .ok (.iload_n 1, 1) := by decide +kernel
theorem dX3_weightFor_105 : decode cX3_weightFor 105 = .ok (.iconst 1, 1) := by decide +kernel
theorem dX3_weightFor_106 : decode cX3_weightFor 106 = .ok (.aload_n 0, 1) := by decide +kernel
theorem dX3_weightFor_107 : decode cX3_weightFor 107 = .ok (.getfield 10, 3) := by decide +kernel
theorem dX3_weightFor_110 : decode cX3_weightFor 110 = .ok (.iload_n 1, 1) := by decide +kernel
theorem dX3_weightFor_111 : decode cX3_weightFor 111 = .ok (.iconst 1, 1) := by decide +kernel
theorem dX3_weightFor_112 : decode cX3_weightFor 112 = .ok (.invokevirtual 98, 3) := by decide +kernel
theorem dX3_weightFor_115 : decode cX3_weightFor 115 = .ok (.invokevirtual 104, 3) := by decide +kernel
theorem dX3_weightFor_118 : decode cX3_weightFor 118 = .ok (.aload_n 0, 1) := by decide +kernel
theorem dX3_weightFor_119 : decode cX3_weightFor 119 = .ok (.getfield 19, 3) := by decide +kernel
theorem dX3_weightFor_122 : decode cX3_weightFor 122 = .ok (.iload_n 1, 1) := by decide +kernel
theorem dX3_weightFor_123 : decode cX3_weightFor 123 = .ok (.iconst 2, 1) := by decide +kernel
theorem dX3_weightFor_124 : decode cX3_weightFor 124 = .ok (.iload 6, 2) := by decide +kernel
theorem dX3_weightFor_126 : decode cX3_weightFor 126 = .ok (.invokevirtual 104, 3) := by decide +kernel
theorem dX3_weightFor_129 : decode cX3_weightFor 129 = .ok (.aload_n 0, 1) := by decide +kernel
theorem dX3_weightFor_130 : decode cX3_weightFor 130 = .ok (.getfield 19, 3) := by decide +kernel
theorem dX3_weightFor_133 : decode cX3_weightFor 133 = .ok (.iload_n 1, 1) := by decide +kernel
theorem dX3_weightFor_134 : decode cX3_weightFor 134 = .ok (.iload_n 3, 1) := by decide +kernel
theorem dX3_weightFor_135 : decode cX3_weightFor 135 = .ok (.invokevirtual 158, 3) := by decide +kernel
theorem dX3_weightFor_138 : decode cX3_weightFor 138 = .ok (.pop, 1) := by decide +kernel
theorem dX3_weightFor_139 : decode cX3_weightFor 139 = .ok (.aload_n 0, 1) := by decide +kernel
theorem dX3_weightFor_140 : decode cX3_weightFor 140 = .ok (.getfield 19, 3) := by decide +kernel
theorem dX3_weightFor_143 : decode cX3_weightFor 143 = .ok (.iload_n 1, 1) := by decide +kernel
theorem dX3_weightFor_144 : decode cX3_weightFor 144 = .ok (.iload_n 2, 1) := by decide +kernel
theorem dX3_weightFor_145 : decode cX3_weightFor 145 = .ok (.invokevirtual 172, 3) := by decide +kernel
theorem dX3_weightFor_148 : decode cX3_weightFor 148 = .ok (.iload 5, 2) := by decide +kernel
theorem dX3_weightFor_150 : decode cX3_weightFor 150 = .ok (.if_icmp .lt 6, 3) := by decide +kernel
theorem dX3_weightFor_153 : decode cX3_weightFor 153 = .ok (.iload 6, 2) := by decide +kernel
theorem dX3_weightFor_155 : decode cX3_weightFor 155 = .ok (.ireturn, 1) := by decide +kernel
theorem dX3_weightFor_156 : decode cX3_weightFor 156 = .ok (.iinc 6 1, 3) := by decide +kernel
theorem dX3_weightFor_159 : decode cX3_weightFor 159 = .ok (.goto (-67), 3) := by decide +kernel
theorem dX3_weightFor_162 : decode cX3_weightFor 162 = .ok (.aload_n 0, 1) := by decide +kernel
theorem dX3_weightFor_163 : decode cX3_weightFor 163 = .ok (.ldc 138, 2) := by decide +kernel
theorem dX3_weightFor_165 : decode cX3_weightFor 165 = .ok (.invokevirtual 49, 3) := by decide +kernel
theorem dX3_weightFor_168 : decode cX3_weightFor 168 = .ok (.ireturn, 1) := by decide +kernel
theorem dX3_sand_0 : decode cX3_sand 0 = .ok (.iload_n 1, 1) := by decide +kernel
theorem dX3_sand_1 : decode cX3_sand 1 = .ok (.invokestatic 40, 3) := by decide +kernel
theorem dX3_sand_4 : decode cX3_sand 4 = .ok (.ifCond .eq 24, 3) := by decide +kernel
theorem dX3_sand_7 : decode cX3_sand 7 = .ok (.iload_n 2, 1) := by decide +kernel
theorem dX3_sand_8 : decode cX3_sand 8 = .ok (.iconst 0, 1) := by decide +kernel
theorem dX3_sand_9 : decode cX3_sand 9 = .ok (.sipush 9999, 3) := by decide +kernel
theorem dX3_sand_12 : decode cX3_sand 12 = .ok (.invokestatic 44, 3) := by decide +kernel
theorem dX3_sand_15 : decode cX3_sand 15 = .ok (.ifCond .eq 13, 3) := by decide +kernel
theorem dX3_sand_18 : decode cX3_sand 18 = .ok (.iload_n 3, 1) := by decide +kernel
theorem dX3_sand_19 : decode cX3_sand 19 = .ok (.iconst 0, 1) := by decide +kernel
theorem dX3_sand_20 : decode cX3_sand 20 = .ok (.bipush 40, 2) := by decide +kernel
theorem dX3_sand_22 : decode cX3_sand 22 = .ok (.invokestatic 44, 3) := by decide +kernel
theorem dX3_sand_25 : decode cX3_sand 25 = .ok (.ifCond .ne 10, 3) := by decide +kernel
theorem dX3_sand_28 : decode cX3_sand 28 = .ok (.aload_n 0, 1) := by decide +kernel
theorem dX3_sand_29 : decode cX3_sand 29 = .ok (.ldc 48, 2) := by decide +kernel
theorem dX3_sand_31 : decode cX3_sand 31 = .ok (.invokevirtual 49, 3) := by decide +kernel
theorem dX3_sand_34 : decode cX3_sand 34 = .ok (.ireturn, 1) := by decide +kernel
theorem dX3_sand_35 : decode cX3_sand 35 = .ok (.aload_n 0, 1) := by decide +kernel
theorem dX3_sand_36 : decode cX3_sand 36 = .ok (.iload_n 1, 1) := by decide +kernel
theorem dX3_sand_37 : decode cX3_sand 37 = .ok (.iload_n 2, 1) := by decide +kernel
theorem dX3_sand_38 : decode cX3_sand 38 = .ok (.iload_n 3, 1) := by decide +kernel
theorem dX3_sand_39 : decode cX3_sand 39 = .ok (.invokevirtual 175, 3) := by decide +kernel
theorem dX3_sand_42 : decode cX3_sand 42 = .ok (.istore 4, 2) := by decide +kernel
theorem dX3_sand_44 : decode cX3_sand 44 = .ok (.iload 4, 2) := by decide +kernel
theorem dX3_sand_46 : decode cX3_sand 46 = .ok (.ifCond .ge 12, 3) := by decide +kernel
theorem dX3_sand_49 : decode cX3_sand 49 = .ok (.aload_n 0, 1) := by decide +kernel
theorem dX3_sand_50 : decode cX3_sand 50 = .ok (.ldc 138, 2) := by decide +kernel
theorem dX3_sand_52 : decode cX3_sand 52 = .ok (.invokevirtual 49, 3) := by decide +kernel
theorem dX3_sand_55 : decode cX3_sand 55 = .ok (.goto 5, 3) := by decide +kernel
theorem dX3_sand_58 : decode cX3_sand 58 = .ok (.iload 4, 2) := by decide +kernel
theorem dX3_sand_60 : decode cX3_sand 60 = .ok (.ireturn, 1) := by decide +kernel
theorem dX3_costs_0 : decode cX3_costs 0 = .ok (.iload_n 1, 1) := by decide +kernel
theorem dX3_costs_1 : decode cX3_costs 1 = .ok (.invokestatic 40, 3) := by decide +kernel
theorem dX3_costs_4 : decode cX3_costs 4 = .ok (.ifCond .eq 24, 3) := by decide +kernel
theorem dX3_costs_7 : decode cX3_costs 7 = .ok (.iload_n 2, 1) := by decide +kernel
theorem dX3_costs_8 : decode cX3_costs 8 = .ok (.iconst 0, 1) := by decide +kernel
theorem dX3_costs_9 : decode cX3_costs 9 = .ok (.sipush 9999, 3) := by decide +kernel
theorem dX3_costs_12 : decode cX3_costs 12 = .ok (.invokestatic 44, 3) := by decide +kernel
theorem dX3_costs_15 : decode cX3_costs 15 = .ok (.ifCond .eq 13, 3) := by decide +kernel
theorem dX3_costs_18 : decode cX3_costs 18 = .ok (.iload_n 3, 1) := by decide +kernel
theorem dX3_costs_19 : decode cX3_costs 19 = .ok (.iconst 0, 1) := by decide +kernel
theorem dX3_costs_20 : decode cX3_costs 20 = .ok (.bipush 40, 2) := by decide +kernel
theorem dX3_costs_22 : decode cX3_costs 22 = .ok (.invokestatic 44, 3) := by decide +kernel
theorem dX3_costs_25 : decode cX3_costs 25 = .ok (.ifCond .ne 10, 3) := by decide +kernel
theorem dX3_costs_28 : decode cX3_costs 28 = .ok (.aload_n 0, 1) := by decide +kernel
theorem dX3_costs_29 : decode cX3_costs 29 = .ok (.ldc 48, 2) := by decide +kernel
theorem dX3_costs_31 : decode cX3_costs 31 = .ok (.invokevirtual 49, 3) := by decide +kernel
theorem dX3_costs_34 : decode cX3_costs 34 = .ok (.ireturn, 1) := by decide +kernel
theorem dX3_costs_35 : decode cX3_costs 35 = .ok (.aload_n 0, 1) := by decide +kernel
theorem dX3_costs_36 : decode cX3_costs 36 = .ok (.iload_n 1, 1) := by decide +kernel
theorem dX3_costs_37 : decode cX3_costs 37 = .ok (.iload_n 2, 1) := by decide +kernel
theorem dX3_costs_38 : decode cX3_costs 38 = .ok (.iload_n 3, 1) := by decide +kernel
theorem dX3_costs_39 : decode cX3_costs 39 = .ok (.invokevirtual 175, 3) := by decide +kernel
theorem dX3_costs_42 : decode cX3_costs 42 = .ok (.istore 4, 2) := by decide +kernel
theorem dX3_costs_44 : decode cX3_costs 44 = .ok (.iload 4, 2) := by decide +kernel
theorem dX3_costs_46 : decode cX3_costs 46 = .ok (.ifCond .ge 12, 3) := by decide +kernel
theorem dX3_costs_49 : decode cX3_costs 49 = .ok (.aload_n 0, 1) := by decide +kernel
theorem dX3_costs_50 : decode cX3_costs 50 = .ok (.ldc 138, 2) := by decide +kernel
theorem dX3_costs_52 : decode cX3_costs 52 = .ok (.invokevirtual 49, 3) := by decide +kernel
theorem dX3_costs_55 : decode cX3_costs 55 = .ok (.goto 12, 3) := by decide +kernel
theorem dX3_costs_58 : decode cX3_costs 58 = .ok (.aload_n 0, 1) := by decide +kernel
theorem dX3_costs_59 : decode cX3_costs 59 = .ok (.getfield 10, 3) := by decide +kernel
theorem dX3_costs_62 : decode cX3_costs 62 = .ok (.iload 4, 2) := by decide +kernel
theorem dX3_costs_64 : decode cX3_costs 64 = .ok (.invokevirtual 178, 3) := by decide +kernel
theorem dX3_costs_67 : decode cX3_costs 67 = .ok (.ireturn, 1) := by decide +kernel
theorem dX3_cheapestSand_0 : decode cX3_cheapestSand 0 = .ok (.iconst (-1), 1) := by decide +kernel
theorem dX3_cheapestSand_1 : decode cX3_cheapestSand 1 = .ok (.istore 4, 2) := by decide +kernel
theorem dX3_cheapestSand_3 : decode cX3_cheapestSand 3 = .ok (.ldc 181, 2) := by decide +kernel
theorem dX3_cheapestSand_5 : decode cX3_cheapestSand 5 = .ok (.istore 5, 2) := by decide +kernel
theorem dX3_cheapestSand_7 : decode cX3_cheapestSand 7 = .ok (.iconst 0, 1) := by decide +kernel
theorem dX3_cheapestSand_8 : decode cX3_cheapestSand 8 = .ok (.istore 6, 2) := by decide +kernel
theorem dX3_cheapestSand_10 : decode cX3_cheapestSand 10 = .ok (.iload 6, 2) := by decide +kernel
theorem dX3_cheapestSand_12 : decode cX3_cheapestSand 12 = .ok (.sipush 256, 3) := by decide +kernel
theorem dX3_cheapestSand_15 : decode cX3_cheapestSand 15 = .ok (.if_icmp .ge 79, 3) := by decide +kernel
theorem dX3_cheapestSand_18 : decode cX3_cheapestSand 18 = .ok (.aload_n 0, 1) := by decide +kernel
theorem dX3_cheapestSand_19 : decode cX3_cheapestSand 19 = .ok (.getfield 10, 3) := by decide +kernel
theorem dX3_cheapestSand_22 : decode cX3_cheapestSand 22 = .ok (.iload 6, 2) := by decide +kernel
theorem dX3_cheapestSand_24 : decode cX3_cheapestSand 24 = .ok (.invokevirtual 178, 3) := by decide +kernel
theorem dX3_cheapestSand_27 : decode cX3_cheapestSand 27 = .ok (.istore 7, 2) := by decide +kernel
theorem dX3_cheapestSand_29 : decode cX3_cheapestSand 29 = .ok (.iload 7, 2) := by decide +kernel
theorem dX3_cheapestSand_31 : decode cX3_cheapestSand 31 = .ok (.iload 5, 2) := by decide +kernel
theorem dX3_cheapestSand_33 : decode cX3_cheapestSand 33 = .ok (.if_icmp .lt 6, 3) := by decide +kernel
theorem dX3_cheapestSand_36 : decode cX3_cheapestSand 36 = .ok (.goto 52, 3) := by decide +kernel
theorem dX3_cheapestSand_39 : decode cX3_cheapestSand 39 = .ok (.aload_n 0, 1) := by decide +kernel
theorem dX3_cheapestSand_40 : decode cX3_cheapestSand 40 = .ok (.getfield 19, 3) := by decide +kernel
theorem dX3_cheapestSand_43 : decode cX3_cheapestSand 43 = .ok (.aload_n 0, 1) := by decide +kernel
theorem dX3_cheapestSand_44 : decode cX3_cheapestSand 44 = .ok (.getfield 10, 3) := by decide +kernel
theorem dX3_cheapestSand_47 : decode cX3_cheapestSand 47 = .ok (.invokevirtual 143, 3) := by decide +kernel
theorem dX3_cheapestSand_50 : decode cX3_cheapestSand 50 = .ok (.aload_n 0, 1) := by decide +kernel
theorem dX3_cheapestSand_51 : decode cX3_cheapestSand 51 = .ok (.getfield 19, 3) := by decide +kernel
theorem dX3_cheapestSand_54 : decode cX3_cheapestSand 54 = .ok (.iload 6, 2) := by decide +kernel
theorem dX3_cheapestSand_56 : decode cX3_cheapestSand 56 = .ok (.invokevirtual 182, 3) := by decide +kernel
theorem dX3_cheapestSand_59 : decode cX3_cheapestSand 59 = .ok (.aload_n 0, 1) := by decide +kernel
theorem dX3_cheapestSand_60 : decode cX3_cheapestSand 60 = .ok (.getfield 19, 3) := by decide +kernel
theorem dX3_cheapestSand_63 : decode cX3_cheapestSand 63 = .ok (.iload_n 3, 1) := by decide +kernel
theorem dX3_cheapestSand_64 : decode cX3_cheapestSand 64 = .ok (.invokevirtual 122, 3) := by decide +kernel
theorem dX3_cheapestSand_67 : decode cX3_cheapestSand 67 = .ok (.pop, 1) := by decide +kernel
theorem dX3_cheapestSand_68 : decode cX3_cheapestSand 68 = .ok (.aload_n 0, 1) := by decide +kernel
theorem dX3_cheapestSand_69 : decode cX3_cheapestSand 69 = .ok (.getfield 19, 3) := by decide +kernel
theorem dX3_cheapestSand_72 : decode cX3_cheapestSand 72 = .ok (.iload_n 1, 1) := by decide +kernel
theorem dX3_cheapestSand_73 : decode cX3_cheapestSand 73 = .ok (.invokevirtual 56, 3) := by decide +kernel
theorem dX3_cheapestSand_76 : decode cX3_cheapestSand 76 = .ok (.iload_n 2, 1) := by decide +kernel
theorem dX3_cheapestSand_77 : decode cX3_cheapestSand 77 = .ok (.if_icmp .gt 11, 3) := by decide +kernel
theorem dX3_cheapestSand_80 : decode cX3_cheapestSand 80 = .ok (.iload 6, 2) := by decide +kernel
theorem dX3_cheapestSand_82 : decode cX3_cheapestSand 82 = .ok (.istore 4, 2) := by decide +kernel
theorem dX3_cheapestSand_84 : decode cX3_cheapestSand 84 = .ok (.iload 7, 2) := by decide +kernel
theorem dX3_cheapestSand_86 : decode cX3_cheapestSand 86 = .ok (.istore 5, 2) := by decide +kernel
theorem dX3_cheapestSand_88 : decode cX3_cheapestSand 88 = .ok (.iinc 6 1, 3) := by decide +kernel
theorem dX3_cheapestSand_91 : decode cX3_cheapestSand 91 = .ok (.goto (-81), 3) := by decide +kernel
theorem dX3_cheapestSand_94 : decode cX3_cheapestSand 94 = .ok (.iload 4, 2) := by decide +kernel
theorem dX3_cheapestSand_96 : decode cX3_cheapestSand 96 = .ok (.ireturn, 1) := by decide +kernel
theorem dX3_aunt_0 : decode cX3_aunt 0 = .ok (.iload_n 1, 1) := by decide +kernel
theorem dX3_aunt_1 : decode cX3_aunt 1 = .ok (.iconst 0, 1) := by decide +kernel
theorem dX3_aunt_2 : decode cX3_aunt 2 = .ok (.bipush 40, 2) := by decide +kernel
theorem dX3_aunt_4 : decode cX3_aunt 4 = .ok (.invokestatic 44, 3) := by decide +kernel
theorem dX3_aunt_7 : decode cX3_aunt 7 = .ok (.ifCond .ne 10, 3) := by decide +kernel
theorem dX3_aunt_10 : decode cX3_aunt 10 = .ok (.aload_n 0, 1) := by decide +kernel
theorem dX3_aunt_11 : decode cX3_aunt 11 = .ok (.ldc 48, 2) := by decide +kernel
theorem dX3_aunt_13 : decode cX3_aunt 13 = .ok (.invokevirtual 49, 3) := by decide +kernel
theorem dX3_aunt_16 : decode cX3_aunt 16 = .ok (.ireturn, 1) := by decide +kernel
theorem dX3_aunt_17 : decode cX3_aunt 17 = .ok (.iconst 0, 1) := by decide +kernel
theorem dX3_aunt_18 : decode cX3_aunt 18 = .ok (.istore_n 2, 1) := by decide +kernel
theorem dX3_aunt_19 : decode cX3_aunt 19 = .ok (.ldc 181, 2) := by decide +kernel
theorem dX3_aunt_21 : decode cX3_aunt 21 = .ok (.istore_n 3, 1) := by decide +kernel
theorem dX3_aunt_22 : decode cX3_aunt 22 = .ok (.iconst 0, 1) := by decide +kernel
theorem dX3_aunt_23 : decode cX3_aunt 23 = .ok (.istore 4, 2) := by decide +kernel
theorem dX3_aunt_25 : decode cX3_aunt 25 = .ok (.iload 4, 2) := by decide +kernel
theorem dX3_aunt_27 : decode cX3_aunt 27 = .ok (.bipush 16, 2) := by decide +kernel
theorem dX3_aunt_29 : decode cX3_aunt 29 = .ok (.if_icmp .ge 68, 3) := by decide +kernel
theorem dX3_aunt_32 : decode cX3_aunt 32 = .ok (.aload_n 0, 1) := by decide +kernel
theorem dX3_aunt_33 : decode cX3_aunt 33 = .ok (.getfield 19, 3) := by decide +kernel
theorem dX3_aunt_36 : decode cX3_aunt 36 = .ok (.aload_n 0, 1) := by decide +kernel
theorem dX3_aunt_37 : decode cX3_aunt 37 = .ok (.getfield 10, 3) := by decide +kernel
theorem dX3_aunt_40 : decode cX3_aunt 40 = .ok (.invokevirtual 143, 3) := by decide +kernel
theorem dX3_aunt_43 : decode cX3_aunt 43 = .ok (.aload_n 0, 1) := by decide +kernel
theorem dX3_aunt_44 : decode cX3_aunt 44 = .ok (.getfield 19, 3) := by decide +kernel
theorem dX3_aunt_47 : decode cX3_aunt 47 = .ok (.dup, 1) := by decide +kernel
theorem dX3_aunt_48 : decode cX3_aunt 48 = .ok (.getfield 110, 3) := by decide +kernel
theorem dX3_aunt_51 : decode cX3_aunt 51 = .ok (.iconst 1, 1) := by decide +kernel
theorem dX3_aunt_52 : decode cX3_aunt 52 = .ok (.iload 4, 2) := by decide +kernel
theorem dX3_aunt_54 : decode cX3_aunt 54 = .ok (.ishl, 1) := by decide +kernel
theorem dX3_aunt_55 : decode cX3_aunt 55 = .ok (.ior, 1) := by decide +kernel
theorem dX3_aunt_56 : decode cX3_aunt 56 = .ok (.putfield 110, 3) := by decide +kernel
theorem dX3_aunt_59 : decode cX3_aunt 59 = .ok (.aload_n 0, 1) := by decide +kernel
theorem dX3_aunt_60 : decode cX3_aunt 60 = .ok (.getfield 19, 3) := by decide +kernel
theorem dX3_aunt_63 : decode cX3_aunt 63 = .ok (.iload_n 1, 1) := by decide +kernel
theorem dX3_aunt_64 : decode cX3_aunt 64 = .ok (.invokevirtual 122, 3) := by decide +kernel
theorem dX3_aunt_67 : decode cX3_aunt 67 = .ok (.pop, 1) := by decide +kernel
theorem dX3_aunt_68 : decode cX3_aunt 68 = .ok (.aload_n 0, 1) := by decide +kernel
theorem dX3_aunt_69 : decode cX3_aunt 69 = .ok (.getfield 19, 3) := by decide +kernel
theorem dX3_aunt_72 : decode cX3_aunt 72 = .ok (.bipush 15, 2) := by decide +kernel
theorem dX3_aunt_74 : decode cX3_aunt 74 = .ok (.invokevirtual 56, 3) := by decide +kernel
theorem dX3_aunt_77 : decode cX3_aunt 77 = .ok (.istore 5, 2) := by decide +kernel
theorem dX3_aunt_79 : decode cX3_aunt 79 = .ok (.iload 5, 2) := by decide +kernel
theorem dX3_aunt_81 : decode cX3_aunt 81 = .ok (.iload_n 3, 1) := by decide +kernel
theorem dX3_aunt_82 : decode cX3_aunt 82 = .ok (.if_icmp .ge 9, 3) := by decide +kernel
theorem dX3_aunt_85 : decode cX3_aunt 85 = .ok (.iload 5, 2) := by decide +kernel
theorem dX3_aunt_87 : decode cX3_aunt 87 = .ok (.istore_n 3, 1) := by decide +kernel
theorem dX3_aunt_88 : decode cX3_aunt 88 = .ok (.iload 4, 2) := by decide +kernel
theorem dX3_aunt_90 : decode cX3_aunt 90 = .ok (.istore_n 2, 1) := by decide +kernel
theorem dX3_aunt_91 : decode cX3_aunt 91 = .ok (.iinc 4 1, 3) := by decide +kernel
theorem dX3_aunt_94 : decode cX3_aunt 94 = .ok (.goto (-69), 3) := by decide +kernel
theorem dX3_aunt_97 : decode cX3_aunt 97 = .ok (.iload_n 2, 1) := by decide +kernel
theorem dX3_aunt_98 : decode cX3_aunt 98 = .ok (.ireturn, 1) := by decide +kernel
theorem dX3_fits_0 : decode cX3_fits 0 = .ok (.aload_n 0, 1) := by decide +kernel
theorem dX3_fits_1 : decode cX3_fits 1 = .ok (.iload_n 1, 1) := by decide +kernel
theorem dX3_fits_2 : decode cX3_fits 2 = .ok (.iload_n 2, 1) := by decide +kernel
theorem dX3_fits_3 : decode cX3_fits 3 = .ok (.invokevirtual 185, 3) := by decide +kernel
theorem dX3_fits_6 : decode cX3_fits 6 = .ok (.istore_n 3, 1) := by decide +kernel
theorem dX3_fits_7 : decode cX3_fits 7 = .ok (.iload_n 3, 1) := by decide +kernel
theorem dX3_fits_8 : decode cX3_fits 8 = .ok (.ifCond .eq 9, 3) := by decide +kernel
theorem dX3_fits_11 : decode cX3_fits 11 = .ok (.aload_n 0, 1) := by decide +kernel
theorem dX3_fits_12 : decode cX3_fits 12 = .ok (.iload_n 3, 1) := by decide +kernel
theorem dX3_fits_13 : decode cX3_fits 13 = .ok (.invokevirtual 49, 3) := by decide +kernel
theorem dX3_fits_16 : decode cX3_fits 16 = .ok (.ireturn, 1) := by decide +kernel
theorem dX3_fits_17 : decode cX3_fits 17 = .ok (.iconst 0, 1) := by decide +kernel
theorem dX3_fits_18 : decode cX3_fits 18 = .ok (.istore 4, 2) := by decide +kernel
theorem dX3_fits_20 : decode cX3_fits 20 = .ok (.iconst 0, 1) := by decide +kernel
theorem dX3_fits_21 : decode cX3_fits 21 = .ok (.istore 5, 2) := by decide +kernel
theorem dX3_fits_23 : decode cX3_fits 23 = .ok (.iload 5, 2) := by decide +kernel
theorem dX3_fits_25 : decode cX3_fits 25 = .ok (.bipush 112, 2) := by decide +kernel
theorem dX3_fits_27 : decode cX3_fits 27 = .ok (.if_icmp .ge 23, 3) := by decide +kernel
theorem dX3_fits_30 : decode cX3_fits 30 = .ok (.aload_n 0, 1) := by decide +kernel
theorem dX3_fits_31 : decode cX3_fits 31 = .ok (.iload_n 1, 1) := by decide +kernel
theorem dX3_fits_32 : decode cX3_fits 32 = .ok (.iload 5, 2) := by decide +kernel
theorem dX3_fits_34 : decode cX3_fits 34 = .ok (.iload_n 2, 1) := by decide +kernel
theorem dX3_fits_35 : decode cX3_fits 35 = .ok (.invokevirtual 188, 3) := by decide +kernel
theorem dX3_fits_38 : decode cX3_fits 38 = .ok (.ifCond .eq 6, 3) := by decide +kernel
theorem dX3_fits_41 : decode cX3_fits 41 = .ok (.iinc 4 1, 3) := by decide +kernel
theorem dX3_fits_44 : decode cX3_fits 44 = .ok (.iinc 5 1, 3) := by decide +kernel
theorem dX3_fits_47 : decode cX3_fits 47 = .ok (.goto (-24), 3) := by decide +kernel
theorem dX3_fits_50 : decode cX3_fits 50 = .ok (.iload 4, 2) := by decide +kernel
theorem dX3_fits_52 : decode cX3_fits 52 = .ok (.ireturn, 1) := by decide +kernel
theorem dX3_said_0 : decode cX3_said 0 = .ok (.aload_n 0, 1) := by decide +kernel
theorem dX3_said_1 : decode cX3_said 1 = .ok (.iload_n 1, 1) := by decide +kernel
theorem dX3_said_2 : decode cX3_said 2 = .ok (.iload_n 2, 1) := by decide +kernel
theorem dX3_said_3 : decode cX3_said 3 = .ok (.invokevirtual 185, 3) := by decide +kernel
theorem dX3_said_6 : decode cX3_said 6 = .ok (.istore_n 3, 1) := by decide +kernel
theorem dX3_said_7 : decode cX3_said 7 = .ok (.iload_n 3, 1) := by decide +kernel
theorem dX3_said_8 : decode cX3_said 8 = .ok (.ifCond .eq 9, 3) := by decide +kernel
theorem dX3_said_11 : decode cX3_said 11 = .ok (.aload_n 0, 1) := by decide +kernel
theorem dX3_said_12 : decode cX3_said 12 = .ok (.iload_n 3, 1) := by decide +kernel
theorem dX3_said_13 : decode cX3_said 13 = .ok (.invokevirtual 49, 3) := by decide +kernel
theorem dX3_said_16 : decode cX3_said 16 = .ok (.ireturn, 1) := by decide +kernel
theorem dX3_said_17 : decode cX3_said 17 = .ok (.iconst 0, 1) := by decide +kernel
theorem dX3_said_18 : decode cX3_said 18 = .ok (.istore 4, 2) := by decide +kernel
theorem dX3_said_20 : decode cX3_said 20 = .ok (.iload 4, 2) := by decide +kernel
theorem dX3_said_22 : decode cX3_said 22 = .ok (.bipush 112, 2) := by decide +kernel
theorem dX3_said_24 : decode cX3_said 24 = .ok (.if_icmp .ge 23, 3) := by decide +kernel
theorem dX3_said_27 : decode cX3_said 27 = .ok (.aload_n 0, 1) := by decide +kernel
theorem dX3_said_28 : decode cX3_said 28 = .ok (.iload_n 1, 1) := by decide +kernel
theorem dX3_said_29 : decode cX3_said 29 = .ok (.iload 4, 2) := by decide +kernel
theorem dX3_said_31 : decode cX3_said 31 = .ok (.iload_n 2, 1) := by decide +kernel
theorem dX3_said_32 : decode cX3_said 32 = .ok (.invokevirtual 188, 3) := by decide +kernel
theorem dX3_said_35 : decode cX3_said 35 = .ok (.ifCond .eq 6, 3) := by decide +kernel
theorem dX3_said_38 : decode cX3_said 38 = .ok (.iload 4, 2) := by decide +kernel
theorem dX3_said_40 : decode cX3_said 40 = .ok (.ireturn, 1) := by decide +kernel
theorem dX3_said_41 : decode cX3_said 41 = .ok (.iinc 4 1, 3) := by decide +kernel
theorem dX3_said_44 : decode cX3_said 44 = .ok (.goto (-24), 3) := by decide +kernel
theorem dX3_said_47 : decode cX3_said 47 = .ok (.aload_n 0, 1) := by decide +kernel
theorem dX3_said_48 : decode cX3_said 48 = .ok (.ldc 138, 2) := by decide +kernel
theorem dX3_said_50 : decode cX3_said 50 = .ok (.invokevirtual 49, 3) := by decide +kernel
theorem dX3_said_53 : decode cX3_said 53 = .ok (.ireturn, 1) := by decide +kernel
theorem dX3_whyNotHeard_0 : decode cX3_whyNotHeard 0 = .ok (.aload_n 0, 1) := by decide +kernel
theorem dX3_whyNotHeard_1 : decode cX3_whyNotHeard 1 = .ok (.iload_n 1, 1) := by decide +kernel
theorem dX3_whyNotHeard_2 : decode cX3_whyNotHeard 2 = .ok (.invokevirtual 191, 3) := by decide +kernel
theorem dX3_whyNotHeard_5 : decode cX3_whyNotHeard 5 = .ok (.astore_n 3, 1) := by decide +kernel
theorem dX3_whyNotHeard_6 : decode cX3_whyNotHeard 6 = .ok (.aload_n 3, 1) := by decide +kernel
theorem dX3_whyNotHeard_7 : decode cX3_whyNotHeard 7 = .ok (.ifnonnull 6, 3) := by decide +kernel
theorem dX3_whyNotHeard_10 : decode cX3_whyNotHeard 10 = .ok (.ldc 48, 2) := by decide +kernel
theorem dX3_whyNotHeard_12 : decode cX3_whyNotHeard 12 = .ok (.ireturn, 1) := by decide +kernel
theorem dX3_whyNotHeard_13 : decode cX3_whyNotHeard 13 = .ok (.aload_n 3, 1) := by decide +kernel
theorem dX3_whyNotHeard_14 : decode cX3_whyNotHeard 14 = .ok (.invokevirtual 195, 3) := by decide +kernel
theorem dX3_whyNotHeard_17 : decode cX3_whyNotHeard 17 = .ok (.ifCond .eq 6, 3) := by decide +kernel
theorem dX3_whyNotHeard_20 : decode cX3_whyNotHeard 20 = .ok (.ldc 198, 2) := by decide +kernel
theorem dX3_whyNotHeard_22 : decode cX3_whyNotHeard 22 = .ok (.ireturn, 1) := by decide +kernel
theorem dX3_whyNotHeard_23 : decode cX3_whyNotHeard 23 = .ok (.iload_n 2, 1) := by decide +kernel
theorem dX3_whyNotHeard_24 : decode cX3_whyNotHeard 24 = .ok (.iconst 1, 1) := by decide +kernel
theorem dX3_whyNotHeard_25 : decode cX3_whyNotHeard 25 = .ok (.sipush 999, 3) := by decide +kernel
theorem dX3_whyNotHeard_28 : decode cX3_whyNotHeard 28 = .ok (.invokestatic 44, 3) := by decide +kernel
theorem dX3_whyNotHeard_31 : decode cX3_whyNotHeard 31 = .ok (.ifCond .ne 6, 3) := by decide +kernel
theorem dX3_whyNotHeard_34 : decode cX3_whyNotHeard 34 = .ok (.ldc 48, 2) := by decide +kernel
theorem dX3_whyNotHeard_36 : decode cX3_whyNotHeard 36 = .ok (.ireturn, 1) := by decide +kernel
theorem dX3_whyNotHeard_37 : decode cX3_whyNotHeard 37 = .ok (.aload_n 0, 1) := by decide +kernel
theorem dX3_whyNotHeard_38 : decode cX3_whyNotHeard 38 = .ok (.getfield 10, 3) := by decide +kernel
theorem dX3_whyNotHeard_41 : decode cX3_whyNotHeard 41 = .ok (.invokevirtual 80, 3) := by decide +kernel
theorem dX3_whyNotHeard_44 : decode cX3_whyNotHeard 44 = .ok (.ifCond .eq 8, 3) := by decide +kernel
theorem dX3_whyNotHeard_47 : decode cX3_whyNotHeard 47 = .ok (.ldc 121, 2) := by decide +kernel
theorem dX3_whyNotHeard_49 : decode cX3_whyNotHeard 49 = .ok (.goto 4, 3) := by decide +kernel
theorem dX3_whyNotHeard_52 : decode cX3_whyNotHeard 52 = .ok (.iconst 0, 1) := by decide +kernel
theorem dX3_whyNotHeard_53 : decode cX3_whyNotHeard 53 = .ok (.ireturn, 1) := by decide +kernel
theorem dX3_pairFits_0 : decode cX3_pairFits 0 = .ok (.aload_n 0, 1) := by decide +kernel
theorem dX3_pairFits_1 : decode cX3_pairFits 1 = .ok (.iload_n 1, 1) := by decide +kernel
theorem dX3_pairFits_2 : decode cX3_pairFits 2 = .ok (.invokevirtual 191, 3) := by decide +kernel
theorem dX3_pairFits_5 : decode cX3_pairFits 5 = .ok (.astore 4, 2) := by decide +kernel
theorem dX3_pairFits_7 : decode cX3_pairFits 7 = .ok (.aload 4, 2) := by decide +kernel
theorem dX3_pairFits_9 : decode cX3_pairFits 9 = .ok (.ifnonnull 5, 3) := by decide +kernel
theorem dX3_pairFits_12 : decode cX3_pairFits 12 = .ok (.iconst 0, 1) := by decide +kernel
theorem dX3_pairFits_13 : decode cX3_pairFits 13 = .ok (.ireturn, 1) := by decide +kernel
theorem dX3_pairFits_14 : decode cX3_pairFits 14 = .ok (.aload_n 0, 1) := by decide +kernel
theorem dX3_pairFits_15 : decode cX3_pairFits 15 = .ok (.getfield 19, 3) := by decide +kernel
theorem dX3_pairFits_18 : decode cX3_pairFits 18 = .ok (.aload_n 0, 1) := by decide +kernel
theorem dX3_pairFits_19 : decode cX3_pairFits 19 = .ok (.getfield 10, 3) := by decide +kernel
theorem dX3_pairFits_22 : decode cX3_pairFits 22 = .ok (.invokevirtual 143, 3) := by decide +kernel
theorem dX3_pairFits_25 : decode cX3_pairFits 25 = .ok (.aload_n 0, 1) := by decide +kernel
theorem dX3_pairFits_26 : decode cX3_pairFits 26 = .ok (.getfield 19, 3) := by decide +kernel
theorem dX3_pairFits_29 : decode cX3_pairFits 29 = .ok (.iload_n 2, 1) := by decide +kernel
theorem dX3_pairFits_30 : decode cX3_pairFits 30 = .ok (.bipush 16, 2) := by decide +kernel
theorem dX3_pairFits_32 : decode cX3_pairFits 32 = .ok (.idiv, 1) := by decide +kernel
theorem dX3_pairFits_33 : decode cX3_pairFits 33 = .ok (.iload_n 2, 1) := by decide +kernel
theorem dX3_pairFits_34 : decode cX3_pairFits 34 = .ok (.bipush 16, 2) := by decide +kernel
theorem dX3_pairFits_36 : decode cX3_pairFits 36 = .ok (.irem, 1) := by decide +kernel
theorem dX3_pairFits_37 : decode cX3_pairFits 37 = .ok (.iload_n 3, 1) := by decide +kernel
theorem dX3_pairFits_38 : decode cX3_pairFits 38 = .ok (.invokevirtual 85, 3) := by decide +kernel
theorem dX3_pairFits_41 : decode cX3_pairFits 41 = .ok (.pop, 1) := by decide +kernel
theorem dX3_pairFits_42 : decode cX3_pairFits 42 = .ok (.iconst 0, 1) := by decide +kernel
theorem dX3_pairFits_43 : decode cX3_pairFits 43 = .ok (.istore 5, 2) := by decide +kernel
theorem dX3_pairFits_45 : decode cX3_pairFits 45 = .ok (.iload 5, 2) := by decide +kernel
theorem dX3_pairFits_47 : decode cX3_pairFits 47 = .ok (.aload 4, 2) := by decide +kernel
theorem dX3_pairFits_49 : decode cX3_pairFits 49 = .ok (.getfield 199, 3) := by decide +kernel
theorem dX3_pairFits_52 : decode cX3_pairFits 52 = .ok (.if_icmp .ge 49, 3) := by decide +kernel
theorem dX3_pairFits_55 : decode cX3_pairFits 55 = .ok (.aload_n 0, 1) := by decide +kernel
theorem dX3_pairFits_56 : decode cX3_pairFits 56 = .ok (.getfield 19, 3) := by decide +kernel
theorem dX3_pairFits_59 : decode cX3_pairFits 59 = .ok (.iconst 1, 1) := by decide +kernel
theorem dX3_pairFits_60 : decode cX3_pairFits 60 = .ok (.invokevirtual 122, 3) := by decide +kernel
theorem dX3_pairFits_63 : decode cX3_pairFits 63 = .ok (.pop, 1) := by decide +kernel
theorem dX3_pairFits_64 : decode cX3_pairFits 64 = .ok (.aload 4, 2) := by decide +kernel
theorem dX3_pairFits_66 : decode cX3_pairFits 66 = .ok (.iload 5, 2) := by decide +kernel
theorem dX3_pairFits_68 : decode cX3_pairFits 68 = .ok (.invokevirtual 202, 3) := by decide +kernel
theorem dX3_pairFits_71 : decode cX3_pairFits 71 = .ok (.istore 6, 2) := by decide +kernel
theorem dX3_pairFits_73 : decode cX3_pairFits 73 = .ok (.iload 6, 2) := by decide +kernel
theorem dX3_pairFits_75 : decode cX3_pairFits 75 = .ok (.iconst (-1), 1) := by decide +kernel
theorem dX3_pairFits_76 : decode cX3_pairFits 76 = .ok (.if_icmp .eq 19, 3) := by decide +kernel
theorem dX3_pairFits_79 : decode cX3_pairFits 79 = .ok (.iload 6, 2) := by decide +kernel
theorem dX3_pairFits_81 : decode cX3_pairFits 81 = .ok (.aload_n 0, 1) := by decide +kernel
theorem dX3_pairFits_82 : decode cX3_pairFits 82 = .ok (.getfield 19, 3) := by decide +kernel
theorem dX3_pairFits_85 : decode cX3_pairFits 85 = .ok (.bipush 15, 2) := by decide +kernel
theorem dX3_pairFits_87 : decode cX3_pairFits 87 = .ok (.invokevirtual 56, 3) := by decide +kernel
theorem dX3_pairFits_90 : decode cX3_pairFits 90 = .ok (.if_icmp .eq 5, 3) := by decide +kernel
theorem dX3_pairFits_93 : decode cX3_pairFits 93 = .ok (.iconst 0, 1) := by decide +kernel
theorem dX3_pairFits_94 : decode cX3_pairFits 94 = .ok (.ireturn, 1) := by decide +kernel
theorem dX3_pairFits_95 : decode cX3_pairFits 95 = .ok (.iinc 5 1, 3) := by decide +kernel
theorem dX3_pairFits_98 : decode cX3_pairFits 98 = .ok (.goto (-53), 3) := by decide +kernel
theorem dX3_pairFits_101 : decode cX3_pairFits 101 = .ok (.iconst 1, 1) := by decide +kernel
theorem dX3_pairFits_102 : decode cX3_pairFits 102 = .ok (.ireturn, 1) := by decide +kernel
theorem dX3_dearest_0 : decode cX3_dearest 0 = .ok (.iconst 0, 1) := by decide +kernel
theorem dX3_dearest_1 : decode cX3_dearest 1 = .ok (.istore_n 1, 1) := by decide +kernel
theorem dX3_dearest_2 : decode cX3_dearest 2 = .ok (.iconst 1, 1) := by decide +kernel
theorem dX3_dearest_3 : decode cX3_dearest 3 = .ok (.istore_n 2, 1) := by decide +kernel
theorem dX3_dearest_4 : decode cX3_dearest 4 = .ok (.iload_n 2, 1) := by decide +kernel
theorem dX3_dearest_5 : decode cX3_dearest 5 = .ok (.bipush 16, 2) := by decide +kernel
theorem dX3_dearest_7 : decode cX3_dearest 7 = .ok (.if_icmp .ge 30, 3) := by decide +kernel
theorem dX3_dearest_10 : decode cX3_dearest 10 = .ok (.aload_n 0, 1) := by decide +kernel
theorem dX3_dearest_11 : decode cX3_dearest 11 = .ok (.getfield 10, 3) := by decide +kernel
theorem dX3_dearest_14 : decode cX3_dearest 14 = .ok (.iload_n 2, 1) := by decide +kernel
theorem dX3_dearest_15 : decode cX3_dearest 15 = .ok (.invokevirtual 62, 3) := by decide +kernel
theorem dX3_dearest_18 : decode cX3_dearest 18 = .ok (.aload_n 0, 1) := by decide +kernel
theorem dX3_dearest_19 : decode cX3_dearest 19 = .ok (.getfield 10, 3) := by decide +kernel
theorem dX3_dearest_22 : decode cX3_dearest 22 = .ok (.iload_n 1, 1) := by decide +kernel
theorem dX3_dearest_23 : decode cX3_dearest 23 = .ok (.invokevirtual 62, 3) := by decide +kernel
theorem dX3_dearest_26 : decode cX3_dearest 26 = .ok (.if_icmp .le 5, 3) := by decide +kernel
theorem dX3_dearest_29 : decode cX3_dearest 29 = .ok (.iload_n 2, 1) := by decide +kernel
theorem dX3_dearest_30 : decode cX3_dearest 30 = .ok (.istore_n 1, 1) := by decide +kernel
theorem dX3_dearest_31 : decode cX3_dearest 31 = .ok (.iinc 2 1, 3) := by decide +kernel
theorem dX3_dearest_34 : decode cX3_dearest 34 = .ok (.goto (-30), 3) := by decide +kernel
theorem dX3_dearest_37 : decode cX3_dearest 37 = .ok (.iload_n 1, 1) := by decide +kernel
theorem dX3_dearest_38 : decode cX3_dearest 38 = .ok (.ireturn, 1) := by decide +kernel
theorem dX3_rents_0 : decode cX3_rents 0 = .ok (.iconst 0, 1) := by decide +kernel
theorem dX3_rents_1 : decode cX3_rents 1 = .ok (.istore_n 1, 1) := by decide +kernel
theorem dX3_rents_2 : decode cX3_rents 2 = .ok (.iconst 0, 1) := by decide +kernel
theorem dX3_rents_3 : decode cX3_rents 3 = .ok (.istore_n 2, 1) := by decide +kernel
theorem dX3_rents_4 : decode cX3_rents 4 = .ok (.iload_n 2, 1) := by decide +kernel
theorem dX3_rents_5 : decode cX3_rents 5 = .ok (.bipush 16, 2) := by decide +kernel
theorem dX3_rents_7 : decode cX3_rents 7 = .ok (.if_icmp .ge 20, 3) := by decide +kernel
theorem dX3_rents_10 : decode cX3_rents 10 = .ok (.iload_n 1, 1) := by decide +kernel
theorem dX3_rents_11 : decode cX3_rents 11 = .ok (.aload_n 0, 1) := by decide +kernel
theorem dX3_rents_12 : decode cX3_rents 12 = .ok (.getfield 10, 3) := by decide +kernel
theorem dX3_rents_15 : decode cX3_rents 15 = .ok (.iload_n 2, 1) := by decide +kernel
theorem dX3_rents_16 : decode cX3_rents 16 = .ok (.invokevirtual 62, 3) := by decide +kernel
theorem dX3_rents_19 : decode cX3_rents 19 = .ok (.iadd, 1) := by decide +kernel
theorem dX3_rents_20 : decode cX3_rents 20 = .ok (.istore_n 1, 1) := by decide +kernel
theorem dX3_rents_21 : decode cX3_rents 21 = .ok (.iinc 2 1, 3) := by decide +kernel
theorem dX3_rents_24 : decode cX3_rents 24 = .ok (.goto (-20), 3) := by decide +kernel
theorem dX3_rents_27 : decode cX3_rents 27 = .ok (.iload_n 1, 1) := by decide +kernel
theorem dX3_rents_28 : decode cX3_rents 28 = .ok (.ireturn, 1) := by decide +kernel
theorem dX3_frosts_0 : decode cX3_frosts 0 = .ok (.iload_n 1, 1) := by decide +kernel
theorem dX3_frosts_1 : decode cX3_frosts 1 = .ok (.iconst 1, 1) := by decide +kernel
theorem dX3_frosts_2 : decode cX3_frosts 2 = .ok (.bipush 20, 2) := by decide +kernel
theorem dX3_frosts_4 : decode cX3_frosts 4 = .ok (.invokestatic 44, 3) := by decide +kernel
theorem dX3_frosts_7 : decode cX3_frosts 7 = .ok (.ifCond .ne 10, 3) := by decide +kernel
theorem dX3_frosts_10 : decode cX3_frosts 10 = .ok (.aload_n 0, 1) := by decide +kernel
theorem dX3_frosts_11 : decode cX3_frosts 11 = .ok (.ldc 48, 2) := by decide +kernel
theorem dX3_frosts_13 : decode cX3_frosts 13 = .ok (.invokevirtual 49, 3) := by decide +kernel
theorem dX3_frosts_16 : decode cX3_frosts 16 = .ok (.ireturn, 1) := by decide +kernel
theorem dX3_frosts_17 : decode cX3_frosts 17 = .ok (.aload_n 0, 1) := by decide +kernel
theorem dX3_frosts_18 : decode cX3_frosts 18 = .ok (.getfield 10, 3) := by decide +kernel
theorem dX3_frosts_21 : decode cX3_frosts 21 = .ok (.getfield 117, 3) := by decide +kernel
theorem dX3_frosts_24 : decode cX3_frosts 24 = .ok (.iload_n 1, 1) := by decide +kernel
theorem dX3_frosts_25 : decode cX3_frosts 25 = .ok (.iadd, 1) := by decide +kernel
theorem dX3_frosts_26 : decode cX3_frosts 26 = .ok (.ldc 120, 2) := by decide +kernel
theorem dX3_frosts_28 : decode cX3_frosts 28 = .ok (.if_icmp .le 10, 3) := by decide +kernel
theorem dX3_frosts_31 : decode cX3_frosts 31 = .ok (.aload_n 0, 1) := by decide +kernel
theorem dX3_frosts_32 : decode cX3_frosts 32 = .ok (.ldc 121, 2) := by decide +kernel
theorem dX3_frosts_34 : decode cX3_frosts 34 = .ok (.invokevirtual 49, 3) := by decide +kernel
theorem dX3_frosts_37 : decode cX3_frosts 37 = .ok (.ireturn, 1) := by decide +kernel
theorem dX3_frosts_38 : decode cX3_frosts 38 = .ok (.iconst 0, 1) := by decide +kernel
theorem dX3_frosts_39 : decode cX3_frosts 39 = .ok (.istore_n 2, 1) := by decide +kernel
theorem dX3_frosts_40 : decode cX3_frosts 40 = .ok (.iconst 0, 1) := by decide +kernel
theorem dX3_frosts_41 : decode cX3_frosts 41 = .ok (.istore_n 3, 1) := by decide +kernel
theorem dX3_frosts_42 : decode cX3_frosts 42 = .ok (.iload_n 3, 1) := by decide +kernel
theorem dX3_frosts_43 : decode cX3_frosts 43 = .ok (.iload_n 1, 1) := by decide +kernel
theorem dX3_frosts_44 : decode cX3_frosts 44 = .ok (.if_icmp .ge 49, 3) := by decide +kernel
theorem dX3_frosts_47 : decode cX3_frosts 47 = .ok (.aload_n 0, 1) := by decide +kernel
theorem dX3_frosts_48 : decode cX3_frosts 48 = .ok (.getfield 10, 3) := by decide +kernel
theorem dX3_frosts_51 : decode cX3_frosts 51 = .ok (.aload_n 0, 1) := by decide +kernel
theorem dX3_frosts_52 : decode cX3_frosts 52 = .ok (.getfield 10, 3) := by decide +kernel
theorem dX3_frosts_55 : decode cX3_frosts 55 = .ok (.invokevirtual 205, 3) := by decide +kernel
theorem dX3_frosts_58 : decode cX3_frosts 58 = .ok (.iconst 2, 1) := by decide +kernel
theorem dX3_frosts_59 : decode cX3_frosts 59 = .ok (.irem, 1) := by decide +kernel
theorem dX3_frosts_60 : decode cX3_frosts 60 = .ok (.putfield 114, 3) := by decide +kernel
theorem dX3_frosts_63 : decode cX3_frosts 63 = .ok (.aload_n 0, 1) := by decide +kernel
theorem dX3_frosts_64 : decode cX3_frosts 64 = .ok (.getfield 10, 3) := by decide +kernel
theorem dX3_frosts_67 : decode cX3_frosts 67 = .ok (.iconst 1, 1) := by decide +kernel
theorem dX3_frosts_68 : decode cX3_frosts 68 = .ok (.invokevirtual 122, 3) := by decide +kernel
theorem dX3_frosts_71 : decode cX3_frosts 71 = .ok (.pop, 1) := by decide +kernel
theorem dX3_frosts_72 : decode cX3_frosts 72 = .ok (.aload_n 0, 1) := by decide +kernel
theorem dX3_frosts_73 : decode cX3_frosts 73 = .ok (.getfield 10, 3) := by decide +kernel
theorem dX3_frosts_76 : decode cX3_frosts 76 = .ok (.bipush 15, 2) := by decide +kernel
theorem dX3_frosts_78 : decode cX3_frosts 78 = .ok (.invokevirtual 59, 3) := by decide +kernel
theorem dX3_frosts_81 : decode cX3_frosts 81 = .ok (.ifCond .eq 6, 3) := by decide +kernel
theorem dX3_frosts_84 : decode cX3_frosts 84 = .ok (.iinc 2 1, 3) := by decide +kernel
theorem dX3_frosts_87 : decode cX3_frosts 87 = .ok (.iinc 3 1, 3) := by decide +kernel
theorem dX3_frosts_90 : decode cX3_frosts 90 = .ok (.goto (-48), 3) := by decide +kernel
theorem dX3_frosts_93 : decode cX3_frosts 93 = .ok (.iload_n 2, 1) := by decide +kernel
theorem dX3_frosts_94 : decode cX3_frosts 94 = .ok (.ireturn, 1) := by decide +kernel
theorem dX3_odds_0 : decode cX3_odds 0 = .ok (.iload_n 1, 1) := by decide +kernel
theorem dX3_odds_1 : decode cX3_odds 1 = .ok (.iconst 0, 1) := by decide +kernel
theorem dX3_odds_2 : decode cX3_odds 2 = .ok (.bipush 18, 2) := by decide +kernel
theorem dX3_odds_4 : decode cX3_odds 4 = .ok (.invokestatic 44, 3) := by decide +kernel
theorem dX3_odds_7 : decode cX3_odds 7 = .ok (.ifCond .eq 22, 3) := by decide +kernel
theorem dX3_odds_10 : decode cX3_odds 10 = .ok (.iload_n 2, 1) := by decide +kernel
theorem dX3_odds_11 : decode cX3_odds 11 = .ok (.iconst 0, 1) := by decide +kernel
theorem dX3_odds_12 : decode cX3_odds 12 = .ok (.bipush 10, 2) := by decide +kernel
theorem dX3_odds_14 : decode cX3_odds 14 = .ok (.invokestatic 44, 3) := by decide +kernel
theorem dX3_odds_17 : decode cX3_odds 17 = .ok (.ifCond .eq 12, 3) := by decide +kernel
theorem dX3_odds_20 : decode cX3_odds 20 = .ok (.iload_n 3, 1) := by decide +kernel
theorem dX3_odds_21 : decode cX3_odds 21 = .ok (.iconst 0, 1) := by decide +kernel
theorem dX3_odds_22 : decode cX3_odds 22 = .ok (.iconst 1, 1) := by decide +kernel
theorem dX3_odds_23 : decode cX3_odds 23 = .ok (.invokestatic 44, 3) := by decide +kernel
theorem dX3_odds_26 : decode cX3_odds 26 = .ok (.ifCond .ne 11, 3) := by decide +kernel
theorem dX3_odds_29 : decode cX3_odds 29 = .ok (.aload_n 0, 1) := by decide +kernel
theorem dX3_odds_30 : decode cX3_odds 30 = .ok (.ldc 48, 2) := by decide +kernel
theorem dX3_odds_32 : decode cX3_odds 32 = .ok (.invokevirtual 49, 3) := by decide +kernel
theorem dX3_odds_35 : decode cX3_odds 35 = .ok (.i2l, 1) := by decide +kernel
theorem dX3_odds_36 : decode cX3_odds 36 = .ok (.lreturn, 1) := by decide +kernel
theorem dX3_odds_37 : decode cX3_odds 37 = .ok (.iload_n 3, 1) := by decide +kernel
theorem dX3_odds_38 : decode cX3_odds 38 = .ok (.ifCond .ne 10, 3) := by decide +kernel
theorem dX3_odds_41 : decode cX3_odds 41 = .ok (.bipush 10, 2) := by decide +kernel
theorem dX3_odds_43 : decode cX3_odds 43 = .ok (.iload_n 2, 1) := by decide +kernel
theorem dX3_odds_44 : decode cX3_odds 44 = .ok (.isub, 1) := by decide +kernel
theorem dX3_odds_45 : decode cX3_odds 45 = .ok (.goto 5, 3) := by decide +kernel
theorem dX3_odds_48 : decode cX3_odds 48 = .ok (.bipush 10, 2) := by decide +kernel
theorem dX3_odds_50 : decode cX3_odds 50 = .ok (.istore 4, 2) := by decide +kernel
theorem dX3_odds_52 : decode cX3_odds 52 = .ok (.bipush 10, 2) := by decide +kernel
theorem dX3_odds_54 : decode cX3_odds 54 = .ok (.iload_n 2, 1) := by decide +kernel
theorem dX3_odds_55 : decode cX3_odds 55 = .ok (.isub, 1) := by decide +kernel
theorem dX3_odds_56 : decode cX3_odds 56 = .ok (.invokestatic 208, 3) := by decide +kernel
theorem dX3_odds_59 : decode cX3_odds 59 = .ok (.istore 5, 2) := by decide +kernel
theorem dX3_odds_61 : decode cX3_odds 61 = .ok (.iload 5, 2) := by decide +kernel
theorem dX3_odds_63 : decode cX3_odds 63 = .ok (.iconst 1, 1) := by decide +kernel
theorem dX3_odds_64 : decode cX3_odds 64 = .ok (.if_icmp .le 11, 3) := by decide +kernel
theorem dX3_odds_67 : decode cX3_odds 67 = .ok (.iload 4, 2) := by decide +kernel
theorem dX3_odds_69 : decode cX3_odds 69 = .ok (.iload 5, 2) := by decide +kernel
theorem dX3_odds_71 : decode cX3_odds 71 = .ok (.idiv, 1) := by decide +kernel
theorem dX3_odds_72 : decode cX3_odds 72 = .ok (.goto 5, 3) := by decide +kernel
theorem dX3_odds_75 : decode cX3_odds 75 = .ok (.iload 4, 2) := by decide +kernel
theorem dX3_odds_77 : decode cX3_odds 77 = .ok (.istore 6, 2) := by decide +kernel
theorem dX3_odds_79 : decode cX3_odds 79 = .ok (.lconst 1, 1) := by decide +kernel
theorem dX3_odds_80 : decode cX3_odds 80 = .ok (.lstore 7, 2) := by decide +kernel
theorem dX3_odds_82 : decode cX3_odds 82 = .ok (.iconst 0, 1) := by decide +kernel
theorem dX3_odds_83 : decode cX3_odds 83 = .ok (.istore 9, 2) := by decide +kernel
theorem dX3_odds_85 : decode cX3_odds 85 = .ok (.iload 9, 2) := by decide +kernel
theorem dX3_odds_87 : decode cX3_odds 87 = .ok (.iload_n 1, 1) := by decide +kernel
theorem dX3_odds_88 : decode cX3_odds 88 = .ok (.if_icmp .ge 17, 3) := by decide +kernel
theorem dX3_odds_91 : decode cX3_odds 91 = .ok (.lload 7, 2) := by decide +kernel
theorem dX3_odds_93 : decode cX3_odds 93 = .ok (.iload 6, 2) := by decide +kernel
theorem dX3_odds_95 : decode cX3_odds 95 = .ok (.i2l, 1) := by decide +kernel
theorem dX3_odds_96 : decode cX3_odds 96 = .ok (.lmul, 1) := by decide +kernel
theorem dX3_odds_97 : decode cX3_odds 97 = .ok (.lstore 7, 2) := by decide +kernel
theorem dX3_odds_99 : decode cX3_odds 99 = .ok (.iinc 9 1, 3) := by decide +kernel
theorem dX3_odds_102 : decode cX3_odds 102 = .ok (.goto (-17), 3) := by decide +kernel
theorem dX3_odds_105 : decode cX3_odds 105 = .ok (.lload 7, 2) := by decide +kernel
theorem dX3_odds_107 : decode cX3_odds 107 = .ok (.lreturn, 1) := by decide +kernel
theorem dX3_commonWithTen_0 : decode cX3_commonWithTen 0 = .ok (.bipush 10, 2) := by decide +kernel
theorem dX3_commonWithTen_2 : decode cX3_commonWithTen 2 = .ok (.istore_n 1, 1) := by decide +kernel
theorem dX3_commonWithTen_3 : decode cX3_commonWithTen 3 = .ok (.iload_n 1, 1) := by decide +kernel
theorem dX3_commonWithTen_4 : decode cX3_commonWithTen 4 = .ok (.iconst 1, 1) := by decide +kernel
theorem dX3_commonWithTen_5 : decode cX3_commonWithTen 5 = .ok (.if_icmp .le 24, 3) := by decide +kernel
theorem dX3_commonWithTen_8 : decode cX3_commonWithTen 8 = .ok (.iload_n 0, 1) := by decide +kernel
theorem dX3_commonWithTen_9 : decode cX3_commonWithTen 9 = .ok (.iload_n 1, 1) := by decide +kernel
theorem dX3_commonWithTen_10 : decode cX3_commonWithTen 10 = .ok (.irem, 1) := by decide +kernel
theorem dX3_commonWithTen_11 : decode cX3_commonWithTen 11 = .ok (.ifCond .ne 12, 3) := by decide +kernel
theorem dX3_commonWithTen_14 : decode cX3_commonWithTen 14 = .ok (.bipush 10, 2) := by decide +kernel
theorem dX3_commonWithTen_16 : decode cX3_commonWithTen 16 = .ok (.iload_n 1, 1) := by decide +kernel
theorem dX3_commonWithTen_17 : decode cX3_commonWithTen 17 = .ok (.irem, 1) := by decide +kernel
theorem dX3_commonWithTen_18 : decode cX3_commonWithTen 18 = .ok (.ifCond .ne 5, 3) := by decide +kernel
theorem dX3_commonWithTen_21 : decode cX3_commonWithTen 21 = .ok (.iload_n 1, 1) := by decide +kernel
theorem dX3_commonWithTen_22 : decode cX3_commonWithTen 22 = .ok (.ireturn, 1) := by decide +kernel
theorem dX3_commonWithTen_23 : decode cX3_commonWithTen 23 = .ok (.iinc 1 (-1), 3) := by decide +kernel
theorem dX3_commonWithTen_26 : decode cX3_commonWithTen 26 = .ok (.goto (-23), 3) := by decide +kernel
theorem dX3_commonWithTen_29 : decode cX3_commonWithTen 29 = .ok (.iconst 1, 1) := by decide +kernel
theorem dX3_commonWithTen_30 : decode cX3_commonWithTen 30 = .ok (.ireturn, 1) := by decide +kernel
theorem dX3_seed_0 : decode cX3_seed 0 = .ok (.aload_n 0, 1) := by decide +kernel
theorem dX3_seed_1 : decode cX3_seed 1 = .ok (.getfield 10, 3) := by decide +kernel
theorem dX3_seed_4 : decode cX3_seed 4 = .ok (.getfield 211, 3) := by decide +kernel
theorem dX3_seed_7 : decode cX3_seed 7 = .ok (.istore_n 2, 1) := by decide +kernel
theorem dX3_seed_8 : decode cX3_seed 8 = .ok (.aload_n 0, 1) := by decide +kernel
theorem dX3_seed_9 : decode cX3_seed 9 = .ok (.getfield 10, 3) := by decide +kernel
theorem dX3_seed_12 : decode cX3_seed 12 = .ok (.iload_n 1, 1) := by decide +kernel
theorem dX3_seed_13 : decode cX3_seed 13 = .ok (.putfield 211, 3) := by decide +kernel
theorem dX3_seed_16 : decode cX3_seed 16 = .ok (.iload_n 2, 1) := by decide +kernel
theorem dX3_seed_17 : decode cX3_seed 17 = .ok (.ireturn, 1) := by decide +kernel
theorem dX3_feed_0 : decode cX3_feed 0 = .ok (.iload_n 2, 1) := by decide +kernel
theorem dX3_feed_1 : decode cX3_feed 1 = .ok (.iconst 1, 1) := by decide +kernel
theorem dX3_feed_2 : decode cX3_feed 2 = .ok (.iconst 4, 1) := by decide +kernel
theorem dX3_feed_3 : decode cX3_feed 3 = .ok (.invokestatic 44, 3) := by decide +kernel
theorem dX3_feed_6 : decode cX3_feed 6 = .ok (.ifCond .ne 10, 3) := by decide +kernel
theorem dX3_feed_9 : decode cX3_feed 9 = .ok (.aload_n 0, 1) := by decide +kernel
theorem dX3_feed_10 : decode cX3_feed 10 = .ok (.ldc 48, 2) := by decide +kernel
theorem dX3_feed_12 : decode cX3_feed 12 = .ok (.invokevirtual 49, 3) := by decide +kernel
theorem dX3_feed_15 : decode cX3_feed 15 = .ok (.ireturn, 1) := by decide +kernel
theorem dX3_feed_16 : decode cX3_feed 16 = .ok (.aload_n 0, 1) := by decide +kernel
theorem dX3_feed_17 : decode cX3_feed 17 = .ok (.getfield 25, 3) := by decide +kernel
theorem dX3_feed_20 : decode cX3_feed 20 = .ok (.getfield 214, 3) := by decide +kernel
theorem dX3_feed_23 : decode cX3_feed 23 = .ok (.iload_n 2, 1) := by decide +kernel
theorem dX3_feed_24 : decode cX3_feed 24 = .ok (.iadd, 1) := by decide +kernel
theorem dX3_feed_25 : decode cX3_feed 25 = .ok (.bipush 120, 2) := by decide +kernel
theorem dX3_feed_27 : decode cX3_feed 27 = .ok (.if_icmp .le 10, 3) := by decide +kernel
theorem dX3_feed_30 : decode cX3_feed 30 = .ok (.aload_n 0, 1) := by decide +kernel
theorem dX3_feed_31 : decode cX3_feed 31 = .ok (.ldc 84, 2) := by decide +kernel
theorem dX3_feed_33 : decode cX3_feed 33 = .ok (.invokevirtual 49, 3) := by decide +kernel
theorem dX3_feed_36 : decode cX3_feed 36 = .ok (.ireturn, 1) := by decide +kernel
theorem dX3_feed_37 : decode cX3_feed 37 = .ok (.iload_n 2, 1) := by decide +kernel
theorem dX3_feed_38 : decode cX3_feed 38 = .ok (.iconst 1, 1) := by decide +kernel
theorem dX3_feed_39 : decode cX3_feed 39 = .ok (.isub, 1) := by decide +kernel
theorem dX3_feed_40 : decode cX3_feed 40 = .ok (.istore_n 3, 1) := by decide +kernel
theorem dX3_feed_41 : decode cX3_feed 41 = .ok (.iload_n 3, 1) := by decide +kernel
theorem dX3_feed_42 : decode cX3_feed 42 = .ok (.ifCond .lt 26, 3) := by decide +kernel
theorem dX3_feed_45 : decode cX3_feed 45 = .ok (.aload_n 0, 1) := by decide +kernel
theorem dX3_feed_46 : decode cX3_feed 46 = .ok (.getfield 25, 3) := by decide +kernel
theorem dX3_feed_49 : decode cX3_feed 49 = .ok (.iload_n 1, 1) := by decide +kernel
theorem dX3_feed_50 : decode cX3_feed 50 = .ok (.bipush 8, 2) := by decide +kernel
theorem dX3_feed_52 : decode cX3_feed 52 = .ok (.iload_n 3, 1) := by decide +kernel
theorem dX3_feed_53 : decode cX3_feed 53 = .ok (.imul, 1) := by decide +kernel
theorem dX3_feed_54 : decode cX3_feed 54 = .ok (.iushr, 1) := by decide +kernel
theorem dX3_feed_55 : decode cX3_feed 55 = .ok (.sipush 255, 3) := by decide +kernel
theorem dX3_feed_58 : decode cX3_feed 58 = .ok (.iand, 1) := by decide +kernel
theorem dX3_feed_59 : decode cX3_feed 59 = .ok (.invokevirtual 215, 3) := by decide +kernel
theorem dX3_feed_62 : decode cX3_feed 62 = .ok (.iinc 3 (-1), 3) := by decide +kernel
theorem dX3_feed_65 : decode cX3_feed 65 = .ok (.goto (-24), 3) := by decide +kernel
theorem dX3_feed_68 : decode cX3_feed 68 = .ok (.aload_n 0, 1) := by decide +kernel
theorem dX3_feed_69 : decode cX3_feed 69 = .ok (.getfield 25, 3) := by decide +kernel
theorem dX3_feed_72 : decode cX3_feed 72 = .ok (.getfield 214, 3) := by decide +kernel
theorem dX3_feed_75 : decode cX3_feed 75 = .ok (.ireturn, 1) := by decide +kernel
theorem dX3_wipe_0 : decode cX3_wipe 0 = .ok (.aload_n 0, 1) := by decide +kernel
theorem dX3_wipe_1 : decode cX3_wipe 1 = .ok (.getfield 25, 3) := by decide +kernel
theorem dX3_wipe_4 : decode cX3_wipe 4 = .ok (.getfield 214, 3) := by decide +kernel
theorem dX3_wipe_7 : decode cX3_wipe 7 = .ok (.istore_n 1, 1) := by decide +kernel
theorem dX3_wipe_8 : decode cX3_wipe 8 = .ok (.aload_n 0, 1) := by decide +kernel
theorem dX3_wipe_9 : decode cX3_wipe 9 = .ok (.getfield 25, 3) := by decide +kernel
theorem dX3_wipe_12 : decode cX3_wipe 12 = .ok (.invokevirtual 218, 3) := by decide +kernel
theorem dX3_wipe_15 : decode cX3_wipe 15 = .ok (.iload_n 1, 1) := by decide +kernel
theorem dX3_wipe_16 : decode cX3_wipe 16 = .ok (.ireturn, 1) := by decide +kernel
theorem dX3_text_0 : decode cX3_text 0 = .ok (.aload_n 0, 1) := by decide +kernel
theorem dX3_text_1 : decode cX3_text 1 = .ok (.getfield 19, 3) := by decide +kernel
theorem dX3_text_4 : decode cX3_text 4 = .ok (.aload_n 0, 1) := by decide +kernel
theorem dX3_text_5 : decode cX3_text 5 = .ok (.getfield 10, 3) := by decide +kernel
theorem dX3_text_8 : decode cX3_text 8 = .ok (.invokevirtual 143, 3) := by decide +kernel
theorem dX3_text_11 : decode cX3_text 11 = .ok (.aload_n 0, 1) := by decide +kernel
theorem dX3_text_12 : decode cX3_text 12 = .ok (.getfield 25, 3) := by decide +kernel
theorem dX3_text_15 : decode cX3_text 15 = .ok (.aload_n 0, 1) := by decide +kernel
theorem dX3_text_16 : decode cX3_text 16 = .ok (.getfield 19, 3) := by decide +kernel
theorem dX3_text_19 : decode cX3_text 19 = .ok (.invokevirtual 221, 3) := by decide +kernel
theorem dX3_text_22 : decode cX3_text 22 = .ok (.istore_n 1, 1) := by decide +kernel
theorem dX3_text_23 : decode cX3_text 23 = .ok (.aload_n 0, 1) := by decide +kernel
theorem dX3_text_24 : decode cX3_text 24 = .ok (.getfield 25, 3) := by decide +kernel
theorem dX3_text_27 : decode cX3_text 27 = .ok (.invokevirtual 218, 3) := by decide +kernel
theorem dX3_text_30 : decode cX3_text 30 = .ok (.iload_n 1, 1) := by decide +kernel
theorem dX3_text_31 : decode cX3_text 31 = .ok (.ifCond .lt 14, 3) := by decide +kernel
theorem dX3_text_34 : decode cX3_text 34 = .ok (.aload_n 0, 1) := by decide +kernel
theorem dX3_text_35 : decode cX3_text 35 = .ok (.getfield 10, 3) := by decide +kernel
theorem dX3_text_38 : decode cX3_text 38 = .ok (.aload_n 0, 1) := by decide +kernel
theorem dX3_text_39 : decode cX3_text 39 = .ok (.getfield 19, 3) := by decide +kernel
theorem dX3_text_42 : decode cX3_text 42 = .ok (.invokevirtual 143, 3) := by decide +kernel
theorem dX3_text_45 : decode cX3_text 45 = .ok (.iload_n 1, 1) := by decide +kernel
theorem dX3_text_46 : decode cX3_text 46 = .ok (.ireturn, 1) := by decide +kernel
theorem dX3_hold_0 : decode cX3_hold 0 = .ok (.iload_n 1, 1) := by decide +kernel
theorem dX3_hold_1 : decode cX3_hold 1 = .ok (.iconst 0, 1) := by decide +kernel
theorem dX3_hold_2 : decode cX3_hold 2 = .ok (.bipush 9, 2) := by decide +kernel
theorem dX3_hold_4 : decode cX3_hold 4 = .ok (.invokestatic 44, 3) := by decide +kernel
theorem dX3_hold_7 : decode cX3_hold 7 = .ok (.ifCond .eq 19, 3) := by decide +kernel
theorem dX3_hold_10 : decode cX3_hold 10 = .ok (.iload_n 2, 1) := by decide +kernel
theorem dX3_hold_11 : decode cX3_hold 11 = .ok (.iconst (-1), 1) := by decide +kernel
theorem dX3_hold_12 : decode cX3_hold 12 = .ok (.if_icmp .eq 21, 3) := by decide +kernel
theorem dX3_hold_15 : decode cX3_hold 15 = .ok (.aload_n 0, 1) := by decide +kernel
theorem dX3_hold_16 : decode cX3_hold 16 = .ok (.getfield 10, 3) := by decide +kernel
theorem dX3_hold_19 : decode cX3_hold 19 = .ok (.iload_n 2, 1) := by decide +kernel
theorem dX3_hold_20 : decode cX3_hold 20 = .ok (.invokevirtual 89, 3) := by decide +kernel
theorem dX3_hold_23 : decode cX3_hold 23 = .ok (.ifCond .ne 10, 3) := by decide +kernel
theorem dX3_hold_26 : decode cX3_hold 26 = .ok (.aload_n 0, 1) := by decide +kernel
theorem dX3_hold_27 : decode cX3_hold 27 = .ok (.ldc 48, 2) := by decide +kernel
theorem dX3_hold_29 : decode cX3_hold 29 = .ok (.invokevirtual 49, 3) := by decide +kernel
theorem dX3_hold_32 : decode cX3_hold 32 = .ok (.ireturn, 1) := by decide +kernel
theorem dX3_hold_33 : decode cX3_hold 33 = .ok (.aload_n 0, 1) := by decide +kernel
theorem dX3_hold_34 : decode cX3_hold 34 = .ok (.getfield 10, 3) := by decide +kernel
theorem dX3_hold_37 : decode cX3_hold 37 = .ok (.iload_n 1, 1) := by decide +kernel
theorem dX3_hold_38 : decode cX3_hold 38 = .ok (.iload_n 2, 1) := by decide +kernel
theorem dX3_hold_39 : decode cX3_hold 39 = .ok (.invokevirtual 225, 3) := by decide +kernel
theorem dX3_hold_42 : decode cX3_hold 42 = .ok (.iconst 1, 1) := by decide +kernel
theorem dX3_hold_43 : decode cX3_hold 43 = .ok (.ireturn, 1) := by decide +kernel
theorem dX3_as_0 : decode cX3_as 0 = .ok (.iload_n 1, 1) := by decide +kernel
theorem dX3_as_1 : decode cX3_as 1 = .ok (.iconst 0, 1) := by decide +kernel
theorem dX3_as_2 : decode cX3_as 2 = .ok (.bipush 9, 2) := by decide +kernel
theorem dX3_as_4 : decode cX3_as 4 = .ok (.invokestatic 44, 3) := by decide +kernel
theorem dX3_as_7 : decode cX3_as 7 = .ok (.ifCond .eq 10, 3) := by decide +kernel
theorem dX3_as_10 : decode cX3_as 10 = .ok (.iload_n 2, 1) := by decide +kernel
theorem dX3_as_11 : decode cX3_as 11 = .ok (.invokestatic 77, 3) := by decide +kernel
theorem dX3_as_14 : decode cX3_as 14 = .ok (.ifCond .ne 10, 3) := by decide +kernel
theorem dX3_as_17 : decode cX3_as 17 = .ok (.aload_n 0, 1) := by decide +kernel
theorem dX3_as_18 : decode cX3_as 18 = .ok (.ldc 48, 2) := by decide +kernel
theorem dX3_as_20 : decode cX3_as 20 = .ok (.invokevirtual 49, 3) := by decide +kernel
theorem dX3_as_23 : decode cX3_as 23 = .ok (.ireturn, 1) := by decide +kernel
theorem dX3_as_24 : decode cX3_as 24 = .ok (.aload_n 0, 1) := by decide +kernel
theorem dX3_as_25 : decode cX3_as 25 = .ok (.getfield 10, 3) := by decide +kernel
theorem dX3_as_28 : decode cX3_as 28 = .ok (.iload_n 1, 1) := by decide +kernel
theorem dX3_as_29 : decode cX3_as 29 = .ok (.invokevirtual 229, 3) := by decide +kernel
theorem dX3_as_32 : decode cX3_as 32 = .ok (.istore_n 3, 1) := by decide +kernel
theorem dX3_as_33 : decode cX3_as 33 = .ok (.iload_n 3, 1) := by decide +kernel
theorem dX3_as_34 : decode cX3_as 34 = .ok (.ifCond .ge 10, 3) := by decide +kernel
theorem dX3_as_37 : decode cX3_as 37 = .ok (.aload_n 0, 1) := by decide +kernel
theorem dX3_as_38 : decode cX3_as 38 = .ok (.ldc 198, 2) := by decide +kernel
theorem dX3_as_40 : decode cX3_as 40 = .ok (.invokevirtual 49, 3) := by decide +kernel
theorem dX3_as_43 : decode cX3_as 43 = .ok (.ireturn, 1) := by decide +kernel
theorem dX3_as_44 : decode cX3_as 44 = .ok (.aload_n 0, 1) := by decide +kernel
theorem dX3_as_45 : decode cX3_as 45 = .ok (.getfield 10, 3) := by decide +kernel
theorem dX3_as_48 : decode cX3_as 48 = .ok (.iload_n 3, 1) := by decide +kernel
theorem dX3_as_49 : decode cX3_as 49 = .ok (.iconst 0, 1) := by decide +kernel
theorem dX3_as_50 : decode cX3_as 50 = .ok (.invokevirtual 98, 3) := by decide +kernel
theorem dX3_as_53 : decode cX3_as 53 = .ok (.iload_n 2, 1) := by decide +kernel
theorem dX3_as_54 : decode cX3_as 54 = .ok (.invokestatic 232, 3) := by decide +kernel
theorem dX3_as_57 : decode cX3_as 57 = .ok (.ifCond .eq 7, 3) := by decide +kernel
theorem dX3_as_60 : decode cX3_as 60 = .ok (.iload_n 3, 1) := by decide +kernel
theorem dX3_as_61 : decode cX3_as 61 = .ok (.goto 9, 3) := by decide +kernel
theorem dX3_as_64 : decode cX3_as 64 = .ok (.aload_n 0, 1) := by decide +kernel
theorem dX3_as_65 : decode cX3_as 65 = .ok (.ldc 235, 2) := by decide +kernel
theorem dX3_as_67 : decode cX3_as 67 = .ok (.invokevirtual 49, 3) := by decide +kernel
theorem dX3_as_70 : decode cX3_as 70 = .ok (.ireturn, 1) := by decide +kernel
theorem dX3_sheet_0 : decode cX3_sheet 0 = .ok (.aload_n 0, 1) := by decide +kernel
theorem dX3_sheet_1 : decode cX3_sheet 1 = .ok (.iload_n 1, 1) := by decide +kernel
theorem dX3_sheet_2 : decode cX3_sheet 2 = .ok (.invokevirtual 191, 3) := by decide +kernel
theorem dX3_sheet_5 : decode cX3_sheet 5 = .ok (.astore 4, 2) := by decide +kernel
theorem dX3_sheet_7 : decode cX3_sheet 7 = .ok (.aload 4, 2) := by decide +kernel
theorem dX3_sheet_9 : decode cX3_sheet 9 = .ok (.ifnull 25, 3) := by decide +kernel
theorem dX3_sheet_12 : decode cX3_sheet 12 = .ok (.iload_n 2, 1) := by decide +kernel
theorem dX3_sheet_13 : decode cX3_sheet 13 = .ok (.ifCond .eq 28, 3) := by decide +kernel
theorem dX3_sheet_16 : decode cX3_sheet 16 = .ok (.iload_n 2, 1) := by decide +kernel
theorem dX3_sheet_17 : decode cX3_sheet 17 = .ok (.bipush 8, 2) := by decide +kernel
theorem dX3_sheet_19 : decode cX3_sheet 19 = .ok (.if_icmp .eq 22, 3) := by decide +kernel
theorem dX3_sheet_22 : decode cX3_sheet 22 = .ok (.iload_n 2, 1) := by decide +kernel
theorem dX3_sheet_23 : decode cX3_sheet 23 = .ok (.bipush 16, 2) := by decide +kernel
theorem dX3_sheet_25 : decode cX3_sheet 25 = .ok (.if_icmp .eq 16, 3) := by decide +kernel
theorem dX3_sheet_28 : decode cX3_sheet 28 = .ok (.iload_n 2, 1) := by decide +kernel
theorem dX3_sheet_29 : decode cX3_sheet 29 = .ok (.bipush 32, 2) := by decide +kernel
theorem dX3_sheet_31 : decode cX3_sheet 31 = .ok (.if_icmp .eq 10, 3) := by decide +kernel
theorem dX3_sheet_34 : decode cX3_sheet 34 = .ok (.aload_n 0, 1) := by decide +kernel
theorem dX3_sheet_35 : decode cX3_sheet 35 = .ok (.ldc 48, 2) := by decide +kernel
theorem dX3_sheet_37 : decode cX3_sheet 37 = .ok (.invokevirtual 49, 3) := by decide +kernel
theorem dX3_sheet_40 : decode cX3_sheet 40 = .ok (.ireturn, 1) := by decide +kernel
theorem dX3_sheet_41 : decode cX3_sheet 41 = .ok (.iload_n 3, 1) := by decide +kernel
theorem dX3_sheet_42 : decode cX3_sheet 42 = .ok (.ifCond .ge 10, 3) := by decide +kernel
theorem dX3_sheet_45 : decode cX3_sheet 45 = .ok (.aload_n 0, 1) := by decide +kernel
theorem dX3_sheet_46 : decode cX3_sheet 46 = .ok (.ldc 236, 2) := by decide +kernel
theorem dX3_sheet_48 : decode cX3_sheet 48 = .ok (.invokevirtual 49, 3) := by decide +kernel
theorem dX3_sheet_51 : decode cX3_sheet 51 = .ok (.ireturn, 1) := by decide +kernel
theorem dX3_sheet_52 : decode cX3_sheet 52 = .ok (.iload_n 3, 1) := by decide +kernel
theorem dX3_sheet_53 : decode cX3_sheet 53 = .ok (.bipush 40, 2) := by decide +kernel
theorem dX3_sheet_55 : decode cX3_sheet 55 = .ok (.if_icmp .le 10, 3) := by decide +kernel
theorem dX3_sheet_58 : decode cX3_sheet 58 = .ok (.aload_n 0, 1) := by decide +kernel
theorem dX3_sheet_59 : decode cX3_sheet 59 = .ok (.ldc 48, 2) := by decide +kernel
theorem dX3_sheet_61 : decode cX3_sheet 61 = .ok (.invokevirtual 49, 3) := by decide +kernel
theorem dX3_sheet_64 : decode cX3_sheet 64 = .ok (.ireturn, 1) := by decide +kernel
theorem dX3_sheet_65 : decode cX3_sheet 65 = .ok (.aload 4, 2) := by decide +kernel
theorem dX3_sheet_67 : decode cX3_sheet 67 = .ok (.iload_n 2, 1) := by decide +kernel
theorem dX3_sheet_68 : decode cX3_sheet 68 = .ok (.iload_n 2, 1) := by decide +kernel
theorem dX3_sheet_69 : decode cX3_sheet 69 = .ok (.ifCond .ne 7, 3) := by decide +kernel
theorem dX3_sheet_72 : decode cX3_sheet 72 = .ok (.iconst 0, 1) := by decide +kernel
theorem dX3_sheet_73 : decode cX3_sheet 73 = .ok (.goto 4, 3) := by decide +kernel
theorem dX3_sheet_76 : decode cX3_sheet 76 = .ok (.iload_n 3, 1) := by decide +kernel
theorem dX3_sheet_77 : decode cX3_sheet 77 = .ok (.invokevirtual 237, 3) := by decide +kernel
theorem dX3_sheet_80 : decode cX3_sheet 80 = .ok (.aload 4, 2) := by decide +kernel
theorem dX3_sheet_82 : decode cX3_sheet 82 = .ok (.getfield 199, 3) := by decide +kernel
theorem dX3_sheet_85 : decode cX3_sheet 85 = .ok (.ireturn, 1) := by decide +kernel
theorem dX3_write_0 : decode cX3_write 0 = .ok (.aload_n 0, 1) := by decide +kernel
theorem dX3_write_1 : decode cX3_write 1 = .ok (.iload_n 1, 1) := by decide +kernel
theorem dX3_write_2 : decode cX3_write 2 = .ok (.invokevirtual 191, 3) := by decide +kernel
theorem dX3_write_5 : decode cX3_write 5 = .ok (.astore 4, 2) := by decide +kernel
theorem dX3_write_7 : decode cX3_write 7 = .ok (.aload 4, 2) := by decide +kernel
theorem dX3_write_9 : decode cX3_write 9 = .ok (.ifnonnull 10, 3) := by decide +kernel
theorem dX3_write_12 : decode cX3_write 12 = .ok (.aload_n 0, 1) := by decide +kernel
theorem dX3_write_13 : decode cX3_write 13 = .ok (.ldc 48, 2) := by decide +kernel
theorem dX3_write_15 : decode cX3_write 15 = .ok (.invokevirtual 49, 3) := by decide +kernel
theorem dX3_write_18 : decode cX3_write 18 = .ok (.ireturn, 1) := by decide +kernel
theorem dX3_write_19 : decode cX3_write 19 = .ok (.aload 4, 2) := by decide +kernel
theorem dX3_write_21 : decode cX3_write 21 = .ok (.invokevirtual 195, 3) := by decide +kernel
theorem dX3_write_24 : decode cX3_write 24 = .ok (.ifCond .eq 10, 3) := by decide +kernel
theorem dX3_write_27 : decode cX3_write 27 = .ok (.aload_n 0, 1) := by decide +kernel
theorem dX3_write_28 : decode cX3_write 28 = .ok (.ldc 198, 2) := by decide +kernel
theorem dX3_write_30 : decode cX3_write 30 = .ok (.invokevirtual 49, 3) := by decide +kernel
theorem dX3_write_33 : decode cX3_write 33 = .ok (.ireturn, 1) := by decide +kernel
theorem dX3_write_34 : decode cX3_write 34 = .ok (.iload_n 2, 1) := by decide +kernel
theorem dX3_write_35 : decode cX3_write 35 = .ok (.iconst 0, 1) := by decide +kernel
theorem dX3_write_36 : decode cX3_write 36 = .ok (.aload 4, 2) := by decide +kernel
theorem dX3_write_38 : decode cX3_write 38 = .ok (.getfield 199, 3) := by decide +kernel
theorem dX3_write_41 : decode cX3_write 41 = .ok (.iconst 1, 1) := by decide +kernel
theorem dX3_write_42 : decode cX3_write 42 = .ok (.isub, 1) := by decide +kernel
theorem dX3_write_43 : decode cX3_write 43 = .ok (.invokestatic 44, 3) := by decide +kernel
theorem dX3_write_46 : decode cX3_write 46 = .ok (.ifCond .ne 10, 3) := by decide +kernel
theorem dX3_write_49 : decode cX3_write 49 = .ok (.aload_n 0, 1) := by decide +kernel
theorem dX3_write_50 : decode cX3_write 50 = .ok (.ldc 48, 2) := by decide +kernel
theorem dX3_write_52 : decode cX3_write 52 = .ok (.invokevirtual 49, 3) := by decide +kernel
theorem dX3_write_55 : decode cX3_write 55 = .ok (.ireturn, 1) := by decide +kernel
theorem dX3_write_56 : decode cX3_write 56 = .ok (.aload 4, 2) := by decide +kernel
theorem dX3_write_58 : decode cX3_write 58 = .ok (.iload_n 2, 1) := by decide +kernel
theorem dX3_write_59 : decode cX3_write 59 = .ok (.iload_n 3, 1) := by decide +kernel
theorem dX3_write_60 : decode cX3_write 60 = .ok (.invokevirtual 240, 3) := by decide +kernel
theorem dX3_write_63 : decode cX3_write 63 = .ok (.iconst 1, 1) := by decide +kernel
theorem dX3_write_64 : decode cX3_write 64 = .ok (.ireturn, 1) := by decide +kernel
theorem dX3_copy_0 : decode cX3_copy 0 = .ok (.aload_n 0, 1) := by decide +kernel
theorem dX3_copy_1 : decode cX3_copy 1 = .ok (.iload_n 1, 1) := by decide +kernel
theorem dX3_copy_2 : decode cX3_copy 2 = .ok (.invokevirtual 191, 3) := by decide +kernel
theorem dX3_copy_5 : decode cX3_copy 5 = .ok (.astore 6, 2) := by decide +kernel
theorem dX3_copy_7 : decode cX3_copy 7 = .ok (.aload_n 0, 1) := by decide +kernel
theorem dX3_copy_8 : decode cX3_copy 8 = .ok (.iload_n 3, 1) := by decide +kernel
theorem dX3_copy_9 : decode cX3_copy 9 = .ok (.invokevirtual 191, 3) := by decide +kernel
theorem dX3_copy_12 : decode cX3_copy 12 = .ok (.astore 7, 2) := by decide +kernel
theorem dX3_copy_14 : decode cX3_copy 14 = .ok (.aload 6, 2) := by decide +kernel
theorem dX3_copy_16 : decode cX3_copy 16 = .ok (.ifnull 8, 3) := by decide +kernel
theorem dX3_copy_19 : decode cX3_copy 19 = .ok (.aload 7, 2) := by decide +kernel
theorem dX3_copy_21 : decode cX3_copy 21 = .ok (.ifnonnull 10, 3) := by decide +kernel
theorem dX3_copy_24 : decode cX3_copy 24 = .ok (.aload_n 0, 1) := by decide +kernel
theorem dX3_copy_25 : decode cX3_copy 25 = .ok (.ldc 48, 2) := by decide +kernel
theorem dX3_copy_27 : decode cX3_copy 27 = .ok (.invokevirtual 49, 3) := by decide +kernel
theorem dX3_copy_30 : decode cX3_copy 30 = .ok (.ireturn, 1) := by decide +kernel
theorem dX3_copy_31 : decode cX3_copy 31 = .ok (.aload 6, 2) := by decide +kernel
theorem dX3_copy_33 : decode cX3_copy 33 = .ok (.invokevirtual 195, 3) := by decide +kernel
theorem dX3_copy_36 : decode cX3_copy 36 = .ok (.ifCond .ne 11, 3) := by decide +kernel
theorem dX3_copy_39 : decode cX3_copy 39 = .ok (.aload 7, 2) := by decide +kernel
theorem dX3_copy_41 : decode cX3_copy 41 = .ok (.invokevirtual 195, 3) := by decide +kernel
theorem dX3_copy_44 : decode cX3_copy 44 = .ok (.ifCond .eq 10, 3) := by decide +kernel
theorem dX3_copy_47 : decode cX3_copy 47 = .ok (.aload_n 0, 1) := by decide +kernel
theorem dX3_copy_48 : decode cX3_copy 48 = .ok (.ldc 198, 2) := by decide +kernel
theorem dX3_copy_50 : decode cX3_copy 50 = .ok (.invokevirtual 49, 3) := by decide +kernel
theorem dX3_copy_53 : decode cX3_copy 53 = .ok (.ireturn, 1) := by decide +kernel
theorem dX3_copy_54 : decode cX3_copy 54 = .ok (.aload 6, 2) := by decide +kernel
theorem dX3_copy_56 : decode cX3_copy 56 = .ok (.getfield 243, 3) := by decide +kernel
theorem dX3_copy_59 : decode cX3_copy 59 = .ok (.aload 7, 2) := by decide +kernel
theorem dX3_copy_61 : decode cX3_copy 61 = .ok (.getfield 243, 3) := by decide +kernel
theorem dX3_copy_64 : decode cX3_copy 64 = .ok (.if_icmp .eq 10, 3) := by decide +kernel
theorem dX3_copy_67 : decode cX3_copy 67 = .ok (.aload_n 0, 1) := by decide +kernel
theorem dX3_copy_68 : decode cX3_copy 68 = .ok (.ldc 235, 2) := by decide +kernel
theorem dX3_copy_70 : decode cX3_copy 70 = .ok (.invokevirtual 49, 3) := by decide +kernel
theorem dX3_copy_73 : decode cX3_copy 73 = .ok (.ireturn, 1) := by decide +kernel
theorem dX3_copy_74 : decode cX3_copy 74 = .ok (.aload 6, 2) := by decide +kernel
theorem dX3_copy_76 : decode cX3_copy 76 = .ok (.iload_n 2, 1) := by decide +kernel
theorem dX3_copy_77 : decode cX3_copy 77 = .ok (.iload 5, 2) := by decide +kernel
theorem dX3_copy_79 : decode cX3_copy 79 = .ok (.invokevirtual 246, 3) := by decide +kernel
theorem dX3_copy_82 : decode cX3_copy 82 = .ok (.ifCond .eq 15, 3) := by decide +kernel
theorem dX3_copy_85 : decode cX3_copy 85 = .ok (.aload 7, 2) := by decide +kernel
theorem dX3_copy_87 : decode cX3_copy 87 = .ok (.iload 4, 2) := by decide +kernel
theorem dX3_copy_89 : decode cX3_copy 89 = .ok (.iload 5, 2) := by decide +kernel
theorem dX3_copy_91 : decode cX3_copy 91 = .ok (.invokevirtual 246, 3) := by decide +kernel
theorem dX3_copy_94 : decode cX3_copy 94 = .ok (.ifCond .ne 10, 3) := by decide +kernel
theorem dX3_copy_97 : decode cX3_copy 97 = .ok (.aload_n 0, 1) := by decide +kernel
theorem dX3_copy_98 : decode cX3_copy 98 = .ok (.ldc 48, 2) := by decide +kernel
theorem dX3_copy_100 : decode cX3_copy 100 = .ok (.invokevirtual 49, 3) := by decide +kernel
theorem dX3_copy_103 : decode cX3_copy 103 = .ok (.ireturn, 1) := by decide +kernel
theorem dX3_copy_104 : decode cX3_copy 104 = .ok (.aload 6, 2) := by decide +kernel
theorem dX3_copy_106 : decode cX3_copy 106 = .ok (.getfield 249, 3) := by decide +kernel
theorem dX3_copy_109 : decode cX3_copy 109 = .ok (.iload_n 2, 1) := by decide +kernel
theorem dX3_copy_110 : decode cX3_copy 110 = .ok (.aload 7, 2) := by decide +kernel
theorem dX3_copy_112 : decode cX3_copy 112 = .ok (.getfield 249, 3) := by decide +kernel
theorem dX3_copy_115 : decode cX3_copy 115 = .ok (.iload 4, 2) := by decide +kernel
theorem dX3_copy_117 : decode cX3_copy 117 = .ok (.iload 5, 2) := by decide +kernel
theorem dX3_copy_119 : decode cX3_copy 119 = .ok (.invokestatic 252, 3) := by decide +kernel
theorem dX3_copy_122 : decode cX3_copy 122 = .ok (.iload 5, 2) := by decide +kernel
theorem dX3_copy_124 : decode cX3_copy 124 = .ok (.ireturn, 1) := by decide +kernel
theorem dX3_load_0 : decode cX3_load 0 = .ok (.aload_n 0, 1) := by decide +kernel
theorem dX3_load_1 : decode cX3_load 1 = .ok (.iload_n 1, 1) := by decide +kernel
theorem dX3_load_2 : decode cX3_load 2 = .ok (.invokevirtual 191, 3) := by decide +kernel
theorem dX3_load_5 : decode cX3_load 5 = .ok (.astore_n 2, 1) := by decide +kernel
theorem dX3_load_6 : decode cX3_load 6 = .ok (.aload_n 2, 1) := by decide +kernel
theorem dX3_load_7 : decode cX3_load 7 = .ok (.ifnonnull 10, 3) := by decide +kernel
theorem dX3_load_10 : decode cX3_load 10 = .ok (.aload_n 0, 1) := by decide +kernel
theorem dX3_load_11 : decode cX3_load 11 = .ok (.ldc 48, 2) := by decide +kernel
theorem dX3_load_13 : decode cX3_load 13 = .ok (.invokevirtual 49, 3) := by decide +kernel
theorem dX3_load_16 : decode cX3_load 16 = .ok (.ireturn, 1) := by decide +kernel
theorem dX3_load_17 : decode cX3_load 17 = .ok (.aload_n 2, 1) := by decide +kernel
theorem dX3_load_18 : decode cX3_load 18 = .ok (.invokevirtual 195, 3) := by decide +kernel
theorem dX3_load_21 : decode cX3_load 21 = .ok (.ifCond .eq 10, 3) := by decide +kernel
theorem dX3_load_24 : decode cX3_load 24 = .ok (.aload_n 0, 1) := by decide +kernel
theorem dX3_load_25 : decode cX3_load 25 = .ok (.ldc 198, 2) := by decide +kernel
theorem dX3_load_27 : decode cX3_load 27 = .ok (.invokevirtual 49, 3) := by decide +kernel
theorem dX3_load_30 : decode cX3_load 30 = .ok (.ireturn, 1) := by decide +kernel
theorem dX3_load_31 : decode cX3_load 31 = .ok (.iconst 0, 1) := by decide +kernel
theorem dX3_load_32 : decode cX3_load 32 = .ok (.istore_n 3, 1) := by decide +kernel
theorem dX3_load_33 : decode cX3_load 33 = .ok (.iconst 0, 1) := by decide +kernel
theorem dX3_load_34 : decode cX3_load 34 = .ok (.istore 4, 2) := by decide +kernel
theorem dX3_load_36 : decode cX3_load 36 = .ok (.iload 4, 2) := by decide +kernel
theorem dX3_load_38 : decode cX3_load 38 = .ok (.aload_n 2, 1) := by decide +kernel
theorem dX3_load_39 : decode cX3_load 39 = .ok (.getfield 199, 3) := by decide +kernel
theorem dX3_load_42 : decode cX3_load 42 = .ok (.if_icmp .ge 49, 3) := by decide +kernel
theorem dX3_load_45 : decode cX3_load 45 = .ok (.iload 4, 2) := by decide +kernel
theorem dX3_load_47 : decode cX3_load 47 = .ok (.invokestatic 40, 3) := by decide +kernel
theorem dX3_load_50 : decode cX3_load 50 = .ok (.ifCond .eq 41, 3) := by decide +kernel
theorem dX3_load_53 : decode cX3_load 53 = .ok (.iconst 0, 1) := by decide +kernel
theorem dX3_load_54 : decode cX3_load 54 = .ok (.aload_n 2, 1) := by decide +kernel
theorem dX3_load_55 : decode cX3_load 55 = .ok (.iload 4, 2) := by decide +kernel
theorem dX3_load_57 : decode cX3_load 57 = .ok (.invokevirtual 202, 3) := by decide +kernel
theorem dX3_load_60 : decode cX3_load 60 = .ok (.invokestatic 69, 3) := by decide +kernel
theorem dX3_load_63 : decode cX3_load 63 = .ok (.ifCond .eq 28, 3) := by decide +kernel
theorem dX3_load_66 : decode cX3_load 66 = .ok (.aload_n 0, 1) := by decide +kernel
theorem dX3_load_67 : decode cX3_load 67 = .ok (.getfield 10, 3) := by decide +kernel
theorem dX3_load_70 : decode cX3_load 70 = .ok (.iload 4, 2) := by decide +kernel
theorem dX3_load_72 : decode cX3_load 72 = .ok (.iconst 0, 1) := by decide +kernel
theorem dX3_load_73 : decode cX3_load 73 = .ok (.aload_n 2, 1) := by decide +kernel
theorem dX3_load_74 : decode cX3_load 74 = .ok (.iload 4, 2) := by decide +kernel
theorem dX3_load_76 : decode cX3_load 76 = .ok (.invokevirtual 202, 3) := by decide +kernel
theorem dX3_load_79 : decode cX3_load 79 = .ok (.invokevirtual 73, 3) := by decide +kernel
theorem dX3_load_82 : decode cX3_load 82 = .ok (.iinc 3 1, 3) := by decide +kernel
theorem dX3_load_85 : decode cX3_load 85 = .ok (.iinc 4 1, 3) := by decide +kernel
theorem dX3_load_88 : decode cX3_load 88 = .ok (.goto (-52), 3) := by decide +kernel
theorem dX3_load_91 : decode cX3_load 91 = .ok (.iload_n 3, 1) := by decide +kernel
theorem dX3_load_92 : decode cX3_load 92 = .ok (.ireturn, 1) := by decide +kernel
theorem dX3_judge_0 : decode cX3_judge 0 = .ok (.aload_n 0, 1) := by decide +kernel
theorem dX3_judge_1 : decode cX3_judge 1 = .ok (.iload_n 1, 1) := by decide +kernel
theorem dX3_judge_2 : decode cX3_judge 2 = .ok (.invokevirtual 191, 3) := by decide +kernel
theorem dX3_judge_5 : decode cX3_judge 5 = .ok (.astore_n 2, 1) := by decide +kernel
theorem dX3_judge_6 : decode cX3_judge 6 = .ok (.aload_n 2, 1) := by decide +kernel
theorem dX3_judge_7 : decode cX3_judge 7 = .ok (.ifnonnull 10, 3) := by decide +kernel
theorem dX3_judge_10 : decode cX3_judge 10 = .ok (.aload_n 0, 1) := by decide +kernel
theorem dX3_judge_11 : decode cX3_judge 11 = .ok (.ldc 48, 2) := by decide +kernel
theorem dX3_judge_13 : decode cX3_judge 13 = .ok (.invokevirtual 49, 3) := by decide +kernel
theorem dX3_judge_16 : decode cX3_judge 16 = .ok (.ireturn, 1) := by decide +kernel
theorem dX3_judge_17 : decode cX3_judge 17 = .ok (.aload_n 2, 1) := by decide +kernel
theorem dX3_judge_18 : decode cX3_judge 18 = .ok (.invokevirtual 195, 3) := by decide +kernel
theorem dX3_judge_21 : decode cX3_judge 21 = .ok (.ifCond .eq 10, 3) := by decide +kernel
theorem dX3_judge_24 : decode cX3_judge 24 = .ok (.aload_n 0, 1) := by decide +kernel
theorem dX3_judge_25 : decode cX3_judge 25 = .ok (.ldc 198, 2) := by decide +kernel
theorem dX3_judge_27 : decode cX3_judge 27 = .ok (.invokevirtual 49, 3) := by decide +kernel
theorem dX3_judge_30 : decode cX3_judge 30 = .ok (.ireturn, 1) := by decide +kernel
theorem dX3_judge_31 : decode cX3_judge 31 = .ok (.iconst 0, 1) := by decide +kernel
theorem dX3_judge_32 : decode cX3_judge 32 = .ok (.istore_n 3, 1) := by decide +kernel
theorem dX3_judge_33 : decode cX3_judge 33 = .ok (.iload_n 3, 1) := by decide +kernel
theorem dX3_judge_34 : decode cX3_judge 34 = .ok (.aload_n 2, 1) := by decide +kernel
theorem dX3_judge_35 : decode cX3_judge 35 = .ok (.getfield 199, 3) := by decide +kernel
theorem dX3_judge_38 : decode cX3_judge 38 = .ok (.if_icmp .ge 36, 3) := by decide +kernel
theorem dX3_judge_41 : decode cX3_judge 41 = .ok (.iload_n 3, 1) := by decide +kernel
theorem dX3_judge_42 : decode cX3_judge 42 = .ok (.invokestatic 40, 3) := by decide +kernel
theorem dX3_judge_45 : decode cX3_judge 45 = .ok (.ifCond .eq 19, 3) := by decide +kernel
theorem dX3_judge_48 : decode cX3_judge 48 = .ok (.aload_n 2, 1) := by decide +kernel
theorem dX3_judge_49 : decode cX3_judge 49 = .ok (.iload_n 3, 1) := by decide +kernel
theorem dX3_judge_50 : decode cX3_judge 50 = .ok (.invokevirtual 202, 3) := by decide +kernel
theorem dX3_judge_53 : decode cX3_judge 53 = .ok (.aload_n 0, 1) := by decide +kernel
theorem dX3_judge_54 : decode cX3_judge 54 = .ok (.getfield 10, 3) := by decide +kernel
theorem dX3_judge_57 : decode cX3_judge 57 = .ok (.iload_n 3, 1) := by decide +kernel
theorem dX3_judge_58 : decode cX3_judge 58 = .ok (.invokevirtual 56, 3) := by decide +kernel
theorem dX3_judge_61 : decode cX3_judge 61 = .ok (.if_icmp .eq 7, 3) := by decide +kernel
theorem dX3_judge_64 : decode cX3_judge 64 = .ok (.iconst 1, 1) := by decide +kernel
theorem dX3_judge_65 : decode cX3_judge 65 = .ok (.iload_n 3, 1) := by decide +kernel
theorem dX3_judge_66 : decode cX3_judge 66 = .ok (.iadd, 1) := by decide +kernel
theorem dX3_judge_67 : decode cX3_judge 67 = .ok (.ireturn, 1) := by decide +kernel
theorem dX3_judge_68 : decode cX3_judge 68 = .ok (.iinc 3 1, 3) := by decide +kernel
theorem dX3_judge_71 : decode cX3_judge 71 = .ok (.goto (-38), 3) := by decide +kernel
theorem dX3_judge_74 : decode cX3_judge 74 = .ok (.iconst 0, 1) := by decide +kernel
theorem dX3_judge_75 : decode cX3_judge 75 = .ok (.ireturn, 1) := by decide +kernel
theorem dX3_image_0 : decode cX3_image 0 = .ok (.aload_n 0, 1) := by decide +kernel
theorem dX3_image_1 : decode cX3_image 1 = .ok (.getfield 16, 3) := by decide +kernel
theorem dX3_image_4 : decode cX3_image 4 = .ok (.aload_n 0, 1) := by decide +kernel
theorem dX3_image_5 : decode cX3_image 5 = .ok (.getfield 10, 3) := by decide +kernel
theorem dX3_image_8 : decode cX3_image 8 = .ok (.invokevirtual 143, 3) := by decide +kernel
theorem dX3_image_11 : decode cX3_image 11 = .ok (.aload_n 0, 1) := by decide +kernel
theorem dX3_image_12 : decode cX3_image 12 = .ok (.iconst 1, 1) := by decide +kernel
theorem dX3_image_13 : decode cX3_image 13 = .ok (.putfield 258, 3) := by decide +kernel
theorem dX3_image_16 : decode cX3_image 16 = .ok (.iconst 1, 1) := by decide +kernel
theorem dX3_image_17 : decode cX3_image 17 = .ok (.ireturn, 1) := by decide +kernel
theorem dX3_undo_0 : decode cX3_undo 0 = .ok (.aload_n 0, 1) := by decide +kernel
theorem dX3_undo_1 : decode cX3_undo 1 = .ok (.getfield 258, 3) := by decide +kernel
theorem dX3_undo_4 : decode cX3_undo 4 = .ok (.ifCond .ne 10, 3) := by decide +kernel
theorem dX3_undo_7 : decode cX3_undo 7 = .ok (.aload_n 0, 1) := by decide +kernel
theorem dX3_undo_8 : decode cX3_undo 8 = .ok (.ldc 138, 2) := by decide +kernel
theorem dX3_undo_10 : decode cX3_undo 10 = .ok (.invokevirtual 49, 3) := by decide +kernel
theorem dX3_undo_13 : decode cX3_undo 13 = .ok (.ireturn, 1) := by decide +kernel
theorem dX3_undo_14 : decode cX3_undo 14 = .ok (.aload_n 0, 1) := by decide +kernel
theorem dX3_undo_15 : decode cX3_undo 15 = .ok (.getfield 10, 3) := by decide +kernel
theorem dX3_undo_18 : decode cX3_undo 18 = .ok (.aload_n 0, 1) := by decide +kernel
theorem dX3_undo_19 : decode cX3_undo 19 = .ok (.getfield 16, 3) := by decide +kernel
theorem dX3_undo_22 : decode cX3_undo 22 = .ok (.invokevirtual 143, 3) := by decide +kernel
theorem dX3_undo_25 : decode cX3_undo 25 = .ok (.aload_n 0, 1) := by decide +kernel
theorem dX3_undo_26 : decode cX3_undo 26 = .ok (.getfield 10, 3) := by decide +kernel
theorem dX3_undo_29 : decode cX3_undo 29 = .ok (.getfield 117, 3) := by decide +kernel
theorem dX3_undo_32 : decode cX3_undo 32 = .ok (.ireturn, 1) := by decide +kernel
theorem dX3_tear_0 : decode cX3_tear 0 = .ok (.aload_n 0, 1) := by decide +kernel
theorem dX3_tear_1 : decode cX3_tear 1 = .ok (.getfield 258, 3) := by decide +kernel
theorem dX3_tear_4 : decode cX3_tear 4 = .ok (.ifCond .eq 7, 3) := by decide +kernel
theorem dX3_tear_7 : decode cX3_tear 7 = .ok (.iconst 1, 1) := by decide +kernel
theorem dX3_tear_8 : decode cX3_tear 8 = .ok (.goto 4, 3) := by decide +kernel
theorem dX3_tear_11 : decode cX3_tear 11 = .ok (.iconst 0, 1) := by decide +kernel
theorem dX3_tear_12 : decode cX3_tear 12 = .ok (.istore_n 1, 1) := by decide +kernel
theorem dX3_tear_13 : decode cX3_tear 13 = .ok (.aload_n 0, 1) := by decide +kernel
theorem dX3_tear_14 : decode cX3_tear 14 = .ok (.iconst 0, 1) := by decide +kernel
theorem dX3_tear_15 : decode cX3_tear 15 = .ok (.putfield 258, 3) := by decide +kernel
theorem dX3_tear_18 : decode cX3_tear 18 = .ok (.iload_n 1, 1) := by decide +kernel
theorem dX3_tear_19 : decode cX3_tear 19 = .ok (.ireturn, 1) := by decide +kernel
theorem dX3_count_0 : decode cX3_count 0 = .ok (.iload_n 1, 1) := by decide +kernel
theorem dX3_count_1 : decode cX3_count 1 = .ok (.tableswitch 113 0 7 #[47, 55, 63, 73, 81, 89, 97, 105], 47) := by decide +kernel
theorem dX3_count_48 : decode cX3_count 48 = .ok (.aload_n 0, 1) := by decide +kernel
theorem dX3_count_49 : decode cX3_count 49 = .ok (.getfield 10, 3) := by decide +kernel
theorem dX3_count_52 : decode cX3_count 52 = .ok (.getfield 117, 3) := by decide +kernel
theorem dX3_count_55 : decode cX3_count 55 = .ok (.ireturn, 1) := by decide +kernel
theorem dX3_count_56 : decode cX3_count 56 = .ok (.aload_n 0, 1) := by decide +kernel
theorem dX3_count_57 : decode cX3_count 57 = .ok (.getfield 10, 3) := by decide +kernel
theorem dX3_count_60 : decode cX3_count 60 = .ok (.getfield 262, 3) := by decide +kernel
theorem dX3_count_63 : decode cX3_count 63 = .ok (.ireturn, 1) := by decide +kernel
theorem dX3_count_64 : decode cX3_count 64 = .ok (.aload_n 0, 1) := by decide +kernel
theorem dX3_count_65 : decode cX3_count 65 = .ok (.getfield 10, 3) := by decide +kernel
theorem dX3_count_68 : decode cX3_count 68 = .ok (.bipush 15, 2) := by decide +kernel
theorem dX3_count_70 : decode cX3_count 70 = .ok (.invokevirtual 135, 3) := by decide +kernel
theorem dX3_count_73 : decode cX3_count 73 = .ok (.ireturn, 1) := by decide +kernel
theorem dX3_count_74 : decode cX3_count 74 = .ok (.aload_n 0, 1) := by decide +kernel
theorem dX3_count_75 : decode cX3_count 75 = .ok (.getfield 10, 3) := by decide +kernel
theorem dX3_count_78 : decode cX3_count 78 = .ok (.invokevirtual 129, 3) := by decide +kernel
theorem dX3_count_81 : decode cX3_count 81 = .ok (.ireturn, 1) := by decide +kernel
theorem dX3_count_82 : decode cX3_count 82 = .ok (.aload_n 0, 1) := by decide +kernel
theorem dX3_count_83 : decode cX3_count 83 = .ok (.getfield 10, 3) := by decide +kernel
theorem dX3_count_86 : decode cX3_count 86 = .ok (.invokevirtual 265, 3) := by decide +kernel
theorem dX3_count_89 : decode cX3_count 89 = .ok (.ireturn, 1) := by decide +kernel
theorem dX3_count_90 : decode cX3_count 90 = .ok (.aload_n 0, 1) := by decide +kernel
theorem dX3_count_91 : decode cX3_count 91 = .ok (.getfield 25, 3) := by decide +kernel
theorem dX3_count_94 : decode cX3_count 94 = .ok (.getfield 214, 3) := by decide +kernel
theorem dX3_count_97 : decode cX3_count 97 = .ok (.ireturn, 1) := by decide +kernel
theorem dX3_count_98 : decode cX3_count 98 = .ok (.aload_n 0, 1) := by decide +kernel
theorem dX3_count_99 : decode cX3_count 99 = .ok (.getfield 10, 3) := by decide +kernel
theorem dX3_count_102 : decode cX3_count 102 = .ok (.getfield 211, 3) := by decide +kernel
theorem dX3_count_105 : decode cX3_count 105 = .ok (.ireturn, 1) := by decide +kernel
theorem dX3_count_106 : decode cX3_count 106 = .ok (.aload_n 0, 1) := by decide +kernel
theorem dX3_count_107 : decode cX3_count 107 = .ok (.getfield 10, 3) := by decide +kernel
theorem dX3_count_110 : decode cX3_count 110 = .ok (.invokevirtual 268, 3) := by decide +kernel
theorem dX3_count_113 : decode cX3_count 113 = .ok (.ireturn, 1) := by decide +kernel
theorem dX3_count_114 : decode cX3_count 114 = .ok (.aload_n 0, 1) := by decide +kernel
theorem dX3_count_115 : decode cX3_count 115 = .ok (.ldc 48, 2) := by decide +kernel
theorem dX3_count_117 : decode cX3_count 117 = .ok (.invokevirtual 49, 3) := by decide +kernel
theorem dX3_count_120 : decode cX3_count 120 = .ok (.ireturn, 1) := by decide +kernel
theorem dX3_status_0 : decode cX3_status 0 = .ok (.iload_n 1, 1) := by decide +kernel
theorem dX3_status_1 : decode cX3_status 1 = .ok (.iconst (-1), 1) := by decide +kernel
theorem dX3_status_2 : decode cX3_status 2 = .ok (.aload_n 0, 1) := by decide +kernel
theorem dX3_status_3 : decode cX3_status 3 = .ok (.getfield 36, 3) := by decide +kernel
theorem dX3_status_6 : decode cX3_status 6 = .ok (.arraylength, 1) := by decide +kernel
theorem dX3_status_7 : decode cX3_status 7 = .ok (.iconst 1, 1) := by decide +kernel
theorem dX3_status_8 : decode cX3_status 8 = .ok (.isub, 1) := by decide +kernel
theorem dX3_status_9 : decode cX3_status 9 = .ok (.invokestatic 44, 3) := by decide +kernel
theorem dX3_status_12 : decode cX3_status 12 = .ok (.ifCond .ne 10, 3) := by decide +kernel
theorem dX3_status_15 : decode cX3_status 15 = .ok (.aload_n 0, 1) := by decide +kernel
theorem dX3_status_16 : decode cX3_status 16 = .ok (.ldc 48, 2) := by decide +kernel
theorem dX3_status_18 : decode cX3_status 18 = .ok (.invokevirtual 49, 3) := by decide +kernel
theorem dX3_status_21 : decode cX3_status 21 = .ok (.ireturn, 1) := by decide +kernel
theorem dX3_status_22 : decode cX3_status 22 = .ok (.iconst 0, 1) := by decide +kernel
theorem dX3_status_23 : decode cX3_status 23 = .ok (.istore_n 2, 1) := by decide +kernel
theorem dX3_status_24 : decode cX3_status 24 = .ok (.iconst 0, 1) := by decide +kernel
theorem dX3_status_25 : decode cX3_status 25 = .ok (.istore_n 3, 1) := by decide +kernel
theorem dX3_status_26 : decode cX3_status 26 = .ok (.iload_n 3, 1) := by decide +kernel
theorem dX3_status_27 : decode cX3_status 27 = .ok (.aload_n 0, 1) := by decide +kernel
theorem dX3_status_28 : decode cX3_status 28 = .ok (.getfield 36, 3) := by decide +kernel
theorem dX3_status_31 : decode cX3_status 31 = .ok (.arraylength, 1) := by decide +kernel
theorem dX3_status_32 : decode cX3_status 32 = .ok (.if_icmp .ge 28, 3) := by decide +kernel
theorem dX3_status_35 : decode cX3_status 35 = .ok (.iload_n 1, 1) := by decide +kernel
theorem dX3_status_36 : decode cX3_status 36 = .ok (.iconst (-1), 1) := by decide +kernel
theorem dX3_status_37 : decode cX3_status 37 = .ok (.if_icmp .eq 8, 3) := by decide +kernel
theorem dX3_status_40 : decode cX3_status 40 = .ok (.iload_n 1, 1) := by decide +kernel
theorem dX3_status_41 : decode cX3_status 41 = .ok (.iload_n 3, 1) := by decide +kernel
theorem dX3_status_42 : decode cX3_status 42 = .ok (.if_icmp .ne 12, 3) := by decide +kernel
theorem dX3_status_45 : decode cX3_status 45 = .ok (.iload_n 2, 1) := by decide +kernel
theorem dX3_status_46 : decode cX3_status 46 = .ok (.aload_n 0, 1) := by decide +kernel
theorem dX3_status_47 : decode cX3_status 47 = .ok (.getfield 36, 3) := by decide +kernel
theorem dX3_status_50 : decode cX3_status 50 = .ok (.iload_n 3, 1) := by decide +kernel
theorem dX3_status_51 : decode cX3_status 51 = .ok (.iaload, 1) := by decide +kernel
theorem dX3_status_52 : decode cX3_status 52 = .ok (.iadd, 1) := by decide +kernel
theorem dX3_status_53 : decode cX3_status 53 = .ok (.istore_n 2, 1) := by decide +kernel
theorem dX3_status_54 : decode cX3_status 54 = .ok (.iinc 3 1, 3) := by decide +kernel
theorem dX3_status_57 : decode cX3_status 57 = .ok (.goto (-31), 3) := by decide +kernel
theorem dX3_status_60 : decode cX3_status 60 = .ok (.iload_n 2, 1) := by decide +kernel
theorem dX3_status_61 : decode cX3_status 61 = .ok (.ireturn, 1) := by decide +kernel
theorem dX3_finding_0 : decode cX3_finding 0 = .ok (.ldc 48, 2) := by decide +kernel
theorem dX3_finding_2 : decode cX3_finding 2 = .ok (.iload_n 1, 1) := by decide +kernel
theorem dX3_finding_3 : decode cX3_finding 3 = .ok (.isub, 1) := by decide +kernel
theorem dX3_finding_4 : decode cX3_finding 4 = .ok (.istore_n 2, 1) := by decide +kernel
theorem dX3_finding_5 : decode cX3_finding 5 = .ok (.iload_n 2, 1) := by decide +kernel
theorem dX3_finding_6 : decode cX3_finding 6 = .ok (.ifCond .lt 22, 3) := by decide +kernel
theorem dX3_finding_9 : decode cX3_finding 9 = .ok (.iload_n 2, 1) := by decide +kernel
theorem dX3_finding_10 : decode cX3_finding 10 = .ok (.aload_n 0, 1) := by decide +kernel
theorem dX3_finding_11 : decode cX3_finding 11 = .ok (.getfield 36, 3) := by decide +kernel
theorem dX3_finding_14 : decode cX3_finding 14 = .ok (.arraylength, 1) := by decide +kernel
theorem dX3_finding_15 : decode cX3_finding 15 = .ok (.if_icmp .ge 13, 3) := by decide +kernel
theorem dX3_finding_18 : decode cX3_finding 18 = .ok (.aload_n 0, 1) := by decide +kernel
theorem dX3_finding_19 : decode cX3_finding 19 = .ok (.getfield 36, 3) := by decide +kernel
theorem dX3_finding_22 : decode cX3_finding 22 = .ok (.iload_n 2, 1) := by decide +kernel
theorem dX3_finding_23 : decode cX3_finding 23 = .ok (.dup2, 1) := by decide +kernel
theorem dX3_finding_24 : decode cX3_finding 24 = .ok (.iaload, 1) := by decide +kernel
theorem dX3_finding_25 : decode cX3_finding 25 = .ok (.iconst 1, 1) := by decide +kernel
theorem dX3_finding_26 : decode cX3_finding 26 = .ok (.iadd, 1) := by decide +kernel
theorem dX3_finding_27 : decode cX3_finding 27 = .ok (.iastore, 1) := by decide +kernel
theorem dX3_finding_28 : decode cX3_finding 28 = .ok (.iload_n 1, 1) := by decide +kernel
theorem dX3_finding_29 : decode cX3_finding 29 = .ok (.ireturn, 1) := by decide +kernel
theorem dX3_sheetAt_0 : decode cX3_sheetAt 0 = .ok (.iload_n 1, 1) := by decide +kernel
theorem dX3_sheetAt_1 : decode cX3_sheetAt 1 = .ok (.ifCond .lt 21, 3) := by decide +kernel
theorem dX3_sheetAt_4 : decode cX3_sheetAt 4 = .ok (.iload_n 1, 1) := by decide +kernel
theorem dX3_sheetAt_5 : decode cX3_sheetAt 5 = .ok (.aload_n 0, 1) := by decide +kernel
theorem dX3_sheetAt_6 : decode cX3_sheetAt 6 = .ok (.getfield 31, 3) := by decide +kernel
theorem dX3_sheetAt_9 : decode cX3_sheetAt 9 = .ok (.arraylength, 1) := by decide +kernel
theorem dX3_sheetAt_10 : decode cX3_sheetAt 10 = .ok (.if_icmp .ge 12, 3) := by decide +kernel
theorem dX3_sheetAt_13 : decode cX3_sheetAt 13 = .ok (.aload_n 0, 1) := by decide +kernel
theorem dX3_sheetAt_14 : decode cX3_sheetAt 14 = .ok (.getfield 31, 3) := by decide +kernel
theorem dX3_sheetAt_17 : decode cX3_sheetAt 17 = .ok (.iload_n 1, 1) := by decide +kernel
theorem dX3_sheetAt_18 : decode cX3_sheetAt 18 = .ok (.aaload, 1) := by decide +kernel
theorem dX3_sheetAt_19 : decode cX3_sheetAt 19 = .ok (.goto 4, 3) := by decide +kernel
theorem dX3_sheetAt_22 : decode cX3_sheetAt 22 = .ok (.aconst_null, 1) := by decide +kernel
theorem dX3_sheetAt_23 : decode cX3_sheetAt 23 = .ok (.areturn, 1) := by decide +kernel
theorem dX3_isWithin_0 : decode cX3_isWithin 0 = .ok (.iload_n 0, 1) := by decide +kernel
theorem dX3_isWithin_1 : decode cX3_isWithin 1 = .ok (.iload_n 1, 1) := by decide +kernel
theorem dX3_isWithin_2 : decode cX3_isWithin 2 = .ok (.if_icmp .lt 12, 3) := by decide +kernel
theorem dX3_isWithin_5 : decode cX3_isWithin 5 = .ok (.iload_n 0, 1) := by decide +kernel
theorem dX3_isWithin_6 : decode cX3_isWithin 6 = .ok (.iload_n 2, 1) := by decide +kernel
theorem dX3_isWithin_7 : decode cX3_isWithin 7 = .ok (.if_icmp .gt 7, 3) := by decide +kernel
theorem dX3_isWithin_10 : decode cX3_isWithin 10 = .ok (.iconst 1, 1) := by decide +kernel
theorem dX3_isWithin_11 : decode cX3_isWithin 11 = .ok (.goto 4, 3) := by decide +kernel
theorem dX3_isWithin_14 : decode cX3_isWithin 14 = .ok (.iconst 0, 1) := by decide +kernel
theorem dX3_isWithin_15 : decode cX3_isWithin 15 = .ok (.ireturn, 1) := by decide +kernel
theorem dX3_isCorner_0 : decode cX3_isCorner 0 = .ok (.iload_n 0, 1) := by decide +kernel
theorem dX3_isCorner_1 : decode cX3_isCorner 1 = .ok (.iconst 0, 1) := by decide +kernel
theorem dX3_isCorner_2 : decode cX3_isCorner 2 = .ok (.bipush 15, 2) := by decide +kernel
theorem dX3_isCorner_4 : decode cX3_isCorner 4 = .ok (.invokestatic 44, 3) := by decide +kernel
theorem dX3_isCorner_7 : decode cX3_isCorner 7 = .ok (.ireturn, 1) := by decide +kernel
theorem dX3_isKind_0 : decode cX3_isKind 0 = .ok (.iload_n 0, 1) := by decide +kernel
theorem dX3_isKind_1 : decode cX3_isKind 1 = .ok (.iconst 0, 1) := by decide +kernel
theorem dX3_isKind_2 : decode cX3_isKind 2 = .ok (.bipush 6, 2) := by decide +kernel
theorem dX3_isKind_4 : decode cX3_isKind 4 = .ok (.invokestatic 44, 3) := by decide +kernel
theorem dX3_isKind_7 : decode cX3_isKind 7 = .ok (.ireturn, 1) := by decide +kernel
theorem dX3_isSet_0 : decode cX3_isSet 0 = .ok (.iload_n 0, 1) := by decide +kernel
theorem dX3_isSet_1 : decode cX3_isSet 1 = .ok (.iconst 0, 1) := by decide +kernel
theorem dX3_isSet_2 : decode cX3_isSet 2 = .ok (.ldc_w 271, 3) := by decide +kernel
theorem dX3_isSet_5 : decode cX3_isSet 5 = .ok (.invokestatic 44, 3) := by decide +kernel
theorem dX3_isSet_8 : decode cX3_isSet 8 = .ok (.ireturn, 1) := by decide +kernel
theorem dX3_isIn_0 : decode cX3_isIn 0 = .ok (.iload_n 0, 1) := by decide +kernel
theorem dX3_isIn_1 : decode cX3_isIn 1 = .ok (.iload_n 1, 1) := by decide +kernel
theorem dX3_isIn_2 : decode cX3_isIn 2 = .ok (.ishr, 1) := by decide +kernel
theorem dX3_isIn_3 : decode cX3_isIn 3 = .ok (.iconst 1, 1) := by decide +kernel
theorem dX3_isIn_4 : decode cX3_isIn 4 = .ok (.iand, 1) := by decide +kernel
theorem dX3_isIn_5 : decode cX3_isIn 5 = .ok (.ifCond .eq 7, 3) := by decide +kernel
theorem dX3_isIn_8 : decode cX3_isIn 8 = .ok (.iconst 1, 1) := by decide +kernel
theorem dX3_isIn_9 : decode cX3_isIn 9 = .ok (.goto 4, 3) := by decide +kernel
theorem dX3_isIn_12 : decode cX3_isIn 12 = .ok (.iconst 0, 1) := by decide +kernel
theorem dX3_isIn_13 : decode cX3_isIn 13 = .ok (.ireturn, 1) := by decide +kernel
theorem dX3_isTrait_0 : decode cX3_isTrait 0 = .ok (.iload_n 0, 1) := by decide +kernel
theorem dX3_isTrait_1 : decode cX3_isTrait 1 = .ok (.ifCond .lt 28, 3) := by decide +kernel
theorem dX3_isTrait_4 : decode cX3_isTrait 4 = .ok (.iload_n 0, 1) := by decide +kernel
theorem dX3_isTrait_5 : decode cX3_isTrait 5 = .ok (.getstatic 272, 3) := by decide +kernel
theorem dX3_isTrait_8 : decode cX3_isTrait 8 = .ok (.arraylength, 1) := by decide +kernel
theorem dX3_isTrait_9 : decode cX3_isTrait 9 = .ok (.if_icmp .ge 20, 3) := by decide +kernel
theorem dX3_isTrait_12 : decode cX3_isTrait 12 = .ok (.iload_n 1, 1) := by decide +kernel
theorem dX3_isTrait_13 : decode cX3_isTrait 13 = .ok (.iconst 0, 1) := by decide +kernel
theorem dX3_isTrait_14 : decode cX3_isTrait 14 = .ok (.getstatic 272, 3) := by decide +kernel
theorem dX3_isTrait_17 : decode cX3_isTrait 17 = .ok (.iload_n 0, 1) := by decide +kernel
theorem dX3_isTrait_18 : decode cX3_isTrait 18 = .ok (.iaload, 1) := by decide +kernel
theorem dX3_isTrait_19 : decode cX3_isTrait 19 = .ok (.invokestatic 44, 3) := by decide +kernel
theorem dX3_isTrait_22 : decode cX3_isTrait 22 = .ok (.ifCond .eq 7, 3) := by decide +kernel
theorem dX3_isTrait_25 : decode cX3_isTrait 25 = .ok (.iconst 1, 1) := by decide +kernel
theorem dX3_isTrait_26 : decode cX3_isTrait 26 = .ok (.goto 4, 3) := by decide +kernel
theorem dX3_isTrait_29 : decode cX3_isTrait 29 = .ok (.iconst 0, 1) := by decide +kernel
theorem dX3_isTrait_30 : decode cX3_isTrait 30 = .ok (.ireturn, 1) := by decide +kernel
theorem dX3_isQuality_0 : decode cX3_isQuality 0 = .ok (.iload_n 0, 1) := by decide +kernel
theorem dX3_isQuality_1 : decode cX3_isQuality 1 = .ok (.ifCond .lt 40, 3) := by decide +kernel
theorem dX3_isQuality_4 : decode cX3_isQuality 4 = .ok (.iload_n 0, 1) := by decide +kernel
theorem dX3_isQuality_5 : decode cX3_isQuality 5 = .ok (.getstatic 275, 3) := by decide +kernel
theorem dX3_isQuality_8 : decode cX3_isQuality 8 = .ok (.arraylength, 1) := by decide +kernel
theorem dX3_isQuality_9 : decode cX3_isQuality 9 = .ok (.if_icmp .ge 32, 3) := by decide +kernel
theorem dX3_isQuality_12 : decode cX3_isQuality 12 = .ok (.iload_n 0, 1) := by decide +kernel
theorem dX3_isQuality_13 : decode cX3_isQuality 13 = .ok (.getstatic 278, 3) := by decide +kernel
theorem dX3_isQuality_16 : decode cX3_isQuality 16 = .ok (.arraylength, 1) := by decide +kernel
theorem dX3_isQuality_17 : decode cX3_isQuality 17 = .ok (.if_icmp .ge 24, 3) := by decide +kernel
theorem dX3_isQuality_20 : decode cX3_isQuality 20 = .ok (.iload_n 1, 1) := by decide +kernel
theorem dX3_isQuality_21 : decode cX3_isQuality 21 = .ok (.getstatic 275, 3) := by decide +kernel
theorem dX3_isQuality_24 : decode cX3_isQuality 24 = .ok (.iload_n 0, 1) := by decide +kernel
theorem dX3_isQuality_25 : decode cX3_isQuality 25 = .ok (.iaload, 1) := by decide +kernel
theorem dX3_isQuality_26 : decode cX3_isQuality 26 = .ok (.getstatic 278, 3) := by decide +kernel
theorem dX3_isQuality_29 : decode cX3_isQuality 29 = .ok (.iload_n 0, 1) := by decide +kernel
theorem dX3_isQuality_30 : decode cX3_isQuality 30 = .ok (.iaload, 1) := by decide +kernel
theorem dX3_isQuality_31 : decode cX3_isQuality 31 = .ok (.invokestatic 44, 3) := by decide +kernel
theorem dX3_isQuality_34 : decode cX3_isQuality 34 = .ok (.ifCond .eq 7, 3) := by decide +kernel
theorem dX3_isQuality_37 : decode cX3_isQuality 37 = .ok (.iconst 1, 1) := by decide +kernel
theorem dX3_isQuality_38 : decode cX3_isQuality 38 = .ok (.goto 4, 3) := by decide +kernel
theorem dX3_isQuality_41 : decode cX3_isQuality 41 = .ok (.iconst 0, 1) := by decide +kernel
theorem dX3_isQuality_42 : decode cX3_isQuality 42 = .ok (.ireturn, 1) := by decide +kernel
theorem dX3_isUnder_0 : decode cX3_isUnder 0 = .ok (.iload_n 0, 1) := by decide +kernel
theorem dX3_isUnder_1 : decode cX3_isUnder 1 = .ok (.istore_n 2, 1) := by decide +kernel
theorem dX3_isUnder_2 : decode cX3_isUnder 2 = .ok (.iconst 0, 1) := by decide +kernel
theorem dX3_isUnder_3 : decode cX3_isUnder 3 = .ok (.istore_n 3, 1) := by decide +kernel
theorem dX3_isUnder_4 : decode cX3_isUnder 4 = .ok (.iload_n 3, 1) := by decide +kernel
theorem dX3_isUnder_5 : decode cX3_isUnder 5 = .ok (.bipush 7, 2) := by decide +kernel
theorem dX3_isUnder_7 : decode cX3_isUnder 7 = .ok (.if_icmp .ge 34, 3) := by decide +kernel
theorem dX3_isUnder_10 : decode cX3_isUnder 10 = .ok (.iload_n 2, 1) := by decide +kernel
theorem dX3_isUnder_11 : decode cX3_isUnder 11 = .ok (.ifCond .lt 30, 3) := by decide +kernel
theorem dX3_isUnder_14 : decode cX3_isUnder 14 = .ok (.iload_n 2, 1) := by decide +kernel
theorem dX3_isUnder_15 : decode cX3_isUnder 15 = .ok (.getstatic 281, 3) := by decide +kernel
theorem dX3_isUnder_18 : decode cX3_isUnder 18 = .ok (.arraylength, 1) := by decide +kernel
theorem dX3_isUnder_19 : decode cX3_isUnder 19 = .ok (.if_icmp .ge 22, 3) := by decide +kernel
theorem dX3_isUnder_22 : decode cX3_isUnder 22 = .ok (.iload_n 2, 1) := by decide +kernel
theorem dX3_isUnder_23 : decode cX3_isUnder 23 = .ok (.iload_n 1, 1) := by decide +kernel
theorem dX3_isUnder_24 : decode cX3_isUnder 24 = .ok (.if_icmp .ne 5, 3) := by decide +kernel
theorem dX3_isUnder_27 : decode cX3_isUnder 27 = .ok (.iconst 1, 1) := by decide +kernel
theorem dX3_isUnder_28 : decode cX3_isUnder 28 = .ok (.ireturn, 1) := by decide +kernel
theorem dX3_isUnder_29 : decode cX3_isUnder 29 = .ok (.getstatic 281, 3) := by decide +kernel
theorem dX3_isUnder_32 : decode cX3_isUnder 32 = .ok (.iload_n 2, 1) := by decide +kernel
theorem dX3_isUnder_33 : decode cX3_isUnder 33 = .ok (.iaload, 1) := by decide +kernel
theorem dX3_isUnder_34 : decode cX3_isUnder 34 = .ok (.istore_n 2, 1) := by decide +kernel
theorem dX3_isUnder_35 : decode cX3_isUnder 35 = .ok (.iinc 3 1, 3) := by decide +kernel
theorem dX3_isUnder_38 : decode cX3_isUnder 38 = .ok (.goto (-34), 3) := by decide +kernel
theorem dX3_isUnder_41 : decode cX3_isUnder 41 = .ok (.iconst 0, 1) := by decide +kernel
theorem dX3_isUnder_42 : decode cX3_isUnder 42 = .ok (.ireturn, 1) := by decide +kernel
theorem dX3_put_0 : decode cX3_put 0 = .ok (.iload_n 1, 1) := by decide +kernel
theorem dX3_put_1 : decode cX3_put 1 = .ok (.ifCond .lt 13, 3) := by decide +kernel
theorem dX3_put_4 : decode cX3_put 4 = .ok (.iload_n 1, 1) := by decide +kernel
theorem dX3_put_5 : decode cX3_put 5 = .ok (.aload_n 0, 1) := by decide +kernel
theorem dX3_put_6 : decode cX3_put 6 = .ok (.arraylength, 1) := by decide +kernel
theorem dX3_put_7 : decode cX3_put 7 = .ok (.if_icmp .ge 7, 3) := by decide +kernel
theorem dX3_put_10 : decode cX3_put 10 = .ok (.aload_n 0, 1) := by decide +kernel
theorem dX3_put_11 : decode cX3_put 11 = .ok (.iload_n 1, 1) := by decide +kernel
theorem dX3_put_12 : decode cX3_put 12 = .ok (.iload_n 2, 1) := by decide +kernel
theorem dX3_put_13 : decode cX3_put 13 = .ok (.iastore, 1) := by decide +kernel
theorem dX3_put_14 : decode cX3_put 14 = .ok (.return_, 1) := by decide +kernel
theorem dX3_copyRow_0 : decode cX3_copyRow 0 = .ok (.aload_n 0, 1) := by decide +kernel
theorem dX3_copyRow_1 : decode cX3_copyRow 1 = .ok (.iconst 0, 1) := by decide +kernel
theorem dX3_copyRow_2 : decode cX3_copyRow 2 = .ok (.aload_n 1, 1) := by decide +kernel
theorem dX3_copyRow_3 : decode cX3_copyRow 3 = .ok (.iconst 0, 1) := by decide +kernel
theorem dX3_copyRow_4 : decode cX3_copyRow 4 = .ok (.aload_n 0, 1) := by decide +kernel
theorem dX3_copyRow_5 : decode cX3_copyRow 5 = .ok (.arraylength, 1) := by decide +kernel
theorem dX3_copyRow_6 : decode cX3_copyRow 6 = .ok (.aload_n 1, 1) := by decide +kernel
theorem dX3_copyRow_7 : decode cX3_copyRow 7 = .ok (.arraylength, 1) := by decide +kernel
theorem dX3_copyRow_8 : decode cX3_copyRow 8 = .ok (.invokestatic 284, 3) := by decide +kernel
theorem dX3_copyRow_11 : decode cX3_copyRow 11 = .ok (.invokestatic 252, 3) := by decide +kernel
theorem dX3_copyRow_14 : decode cX3_copyRow 14 = .ok (.return_, 1) := by decide +kernel
