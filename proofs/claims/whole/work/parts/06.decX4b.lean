theorem dX4_findSand_56 : decode cX4_findSand 56 = .ok (.iload 4, 2) := by decide +kernel
theorem dX4_findSand_58 : decode cX4_findSand 58 = .ok (.invokevirtual 214, 3) := by decide +kernel
theorem dX4_findSand_61 : decode cX4_findSand 61 = .ok (.putfield 217, 3) := by decide +kernel
theorem dX4_findSand_64 : decode cX4_findSand 64 = .ok (.iinc 4 1, 3) := by decide +kernel
theorem dX4_findSand_67 : decode cX4_findSand 67 = .ok (.goto (-59), 3) := by decide +kernel
theorem dX4_findSand_70 : decode cX4_findSand 70 = .ok (.return_, 1) := by decide +kernel
theorem dX4_isQuiet_0 : decode cX4_isQuiet 0 = .ok (.iload_n 0, 1) := by decide +kernel
theorem dX4_isQuiet_1 : decode cX4_isQuiet 1 = .ok (.invokestatic 76, 3) := by decide +kernel
theorem dX4_isQuiet_4 : decode cX4_isQuiet 4 = .ok (.ifCond .eq 26, 3) := by decide +kernel
theorem dX4_isQuiet_7 : decode cX4_isQuiet 7 = .ok (.iload_n 1, 1) := by decide +kernel
theorem dX4_isQuiet_8 : decode cX4_isQuiet 8 = .ok (.i2l, 1) := by decide +kernel
theorem dX4_isQuiet_9 : decode cX4_isQuiet 9 = .ok (.lconst 0, 1) := by decide +kernel
theorem dX4_isQuiet_10 : decode cX4_isQuiet 10 = .ok (.ldc2_w 223, 3) := by decide +kernel
theorem dX4_isQuiet_13 : decode cX4_isQuiet 13 = .ok (.invokestatic 57, 3) := by decide +kernel
theorem dX4_isQuiet_16 : decode cX4_isQuiet 16 = .ok (.ifCond .eq 14, 3) := by decide +kernel
theorem dX4_isQuiet_19 : decode cX4_isQuiet 19 = .ok (.iload_n 2, 1) := by decide +kernel
theorem dX4_isQuiet_20 : decode cX4_isQuiet 20 = .ok (.invokestatic 208, 3) := by decide +kernel
theorem dX4_isQuiet_23 : decode cX4_isQuiet 23 = .ok (.ifCond .eq 7, 3) := by decide +kernel
theorem dX4_isQuiet_26 : decode cX4_isQuiet 26 = .ok (.iconst 1, 1) := by decide +kernel
theorem dX4_isQuiet_27 : decode cX4_isQuiet 27 = .ok (.goto 4, 3) := by decide +kernel
theorem dX4_isQuiet_30 : decode cX4_isQuiet 30 = .ok (.iconst 0, 1) := by decide +kernel
theorem dX4_isQuiet_31 : decode cX4_isQuiet 31 = .ok (.ireturn, 1) := by decide +kernel
theorem dX4_sand_0 : decode cX4_sand 0 = .ok (.iload_n 1, 1) := by decide +kernel
theorem dX4_sand_1 : decode cX4_sand 1 = .ok (.iload_n 2, 1) := by decide +kernel
theorem dX4_sand_2 : decode cX4_sand 2 = .ok (.iload_n 3, 1) := by decide +kernel
theorem dX4_sand_3 : decode cX4_sand 3 = .ok (.invokestatic 225, 3) := by decide +kernel
theorem dX4_sand_6 : decode cX4_sand 6 = .ok (.ifCond .ne 9, 3) := by decide +kernel
theorem dX4_sand_9 : decode cX4_sand 9 = .ok (.aload_n 0, 1) := by decide +kernel
theorem dX4_sand_10 : decode cX4_sand 10 = .ok (.iconst 0, 1) := by decide +kernel
theorem dX4_sand_11 : decode cX4_sand 11 = .ok (.invokevirtual 82, 3) := by decide +kernel
theorem dX4_sand_14 : decode cX4_sand 14 = .ok (.ireturn, 1) := by decide +kernel
theorem dX4_sand_15 : decode cX4_sand 15 = .ok (.aload_n 0, 1) := by decide +kernel
theorem dX4_sand_16 : decode cX4_sand 16 = .ok (.iload_n 1, 1) := by decide +kernel
theorem dX4_sand_17 : decode cX4_sand 17 = .ok (.iload_n 2, 1) := by decide +kernel
theorem dX4_sand_18 : decode cX4_sand 18 = .ok (.iload_n 3, 1) := by decide +kernel
theorem dX4_sand_19 : decode cX4_sand 19 = .ok (.invokevirtual 228, 3) := by decide +kernel
theorem dX4_sand_22 : decode cX4_sand 22 = .ok (.aload_n 0, 1) := by decide +kernel
theorem dX4_sand_23 : decode cX4_sand 23 = .ok (.getfield 211, 3) := by decide +kernel
theorem dX4_sand_26 : decode cX4_sand 26 = .ok (.ifCond .ge 11, 3) := by decide +kernel
theorem dX4_sand_29 : decode cX4_sand 29 = .ok (.aload_n 0, 1) := by decide +kernel
theorem dX4_sand_30 : decode cX4_sand 30 = .ok (.iconst 3, 1) := by decide +kernel
theorem dX4_sand_31 : decode cX4_sand 31 = .ok (.invokevirtual 82, 3) := by decide +kernel
theorem dX4_sand_34 : decode cX4_sand 34 = .ok (.goto 7, 3) := by decide +kernel
theorem dX4_sand_37 : decode cX4_sand 37 = .ok (.aload_n 0, 1) := by decide +kernel
theorem dX4_sand_38 : decode cX4_sand 38 = .ok (.getfield 211, 3) := by decide +kernel
theorem dX4_sand_41 : decode cX4_sand 41 = .ok (.ireturn, 1) := by decide +kernel
theorem dX4_costs_0 : decode cX4_costs 0 = .ok (.iload_n 1, 1) := by decide +kernel
theorem dX4_costs_1 : decode cX4_costs 1 = .ok (.iload_n 2, 1) := by decide +kernel
theorem dX4_costs_2 : decode cX4_costs 2 = .ok (.iload_n 3, 1) := by decide +kernel
theorem dX4_costs_3 : decode cX4_costs 3 = .ok (.invokestatic 225, 3) := by decide +kernel
theorem dX4_costs_6 : decode cX4_costs 6 = .ok (.ifCond .ne 9, 3) := by decide +kernel
theorem dX4_costs_9 : decode cX4_costs 9 = .ok (.aload_n 0, 1) := by decide +kernel
theorem dX4_costs_10 : decode cX4_costs 10 = .ok (.iconst 0, 1) := by decide +kernel
theorem dX4_costs_11 : decode cX4_costs 11 = .ok (.invokevirtual 82, 3) := by decide +kernel
theorem dX4_costs_14 : decode cX4_costs 14 = .ok (.ireturn, 1) := by decide +kernel
theorem dX4_costs_15 : decode cX4_costs 15 = .ok (.aload_n 0, 1) := by decide +kernel
theorem dX4_costs_16 : decode cX4_costs 16 = .ok (.iload_n 1, 1) := by decide +kernel
theorem dX4_costs_17 : decode cX4_costs 17 = .ok (.iload_n 2, 1) := by decide +kernel
theorem dX4_costs_18 : decode cX4_costs 18 = .ok (.iload_n 3, 1) := by decide +kernel
theorem dX4_costs_19 : decode cX4_costs 19 = .ok (.invokevirtual 228, 3) := by decide +kernel
theorem dX4_costs_22 : decode cX4_costs 22 = .ok (.aload_n 0, 1) := by decide +kernel
theorem dX4_costs_23 : decode cX4_costs 23 = .ok (.getfield 211, 3) := by decide +kernel
theorem dX4_costs_26 : decode cX4_costs 26 = .ok (.ifCond .ge 11, 3) := by decide +kernel
theorem dX4_costs_29 : decode cX4_costs 29 = .ok (.aload_n 0, 1) := by decide +kernel
theorem dX4_costs_30 : decode cX4_costs 30 = .ok (.iconst 3, 1) := by decide +kernel
theorem dX4_costs_31 : decode cX4_costs 31 = .ok (.invokevirtual 82, 3) := by decide +kernel
theorem dX4_costs_34 : decode cX4_costs 34 = .ok (.goto 7, 3) := by decide +kernel
theorem dX4_costs_37 : decode cX4_costs 37 = .ok (.aload_n 0, 1) := by decide +kernel
theorem dX4_costs_38 : decode cX4_costs 38 = .ok (.getfield 217, 3) := by decide +kernel
theorem dX4_costs_41 : decode cX4_costs 41 = .ok (.ireturn, 1) := by decide +kernel
theorem dX4_aunt_0 : decode cX4_aunt 0 = .ok (.iload_n 1, 1) := by decide +kernel
theorem dX4_aunt_1 : decode cX4_aunt 1 = .ok (.invokestatic 208, 3) := by decide +kernel
theorem dX4_aunt_4 : decode cX4_aunt 4 = .ok (.ifCond .ne 9, 3) := by decide +kernel
theorem dX4_aunt_7 : decode cX4_aunt 7 = .ok (.aload_n 0, 1) := by decide +kernel
theorem dX4_aunt_8 : decode cX4_aunt 8 = .ok (.iconst 0, 1) := by decide +kernel
theorem dX4_aunt_9 : decode cX4_aunt 9 = .ok (.invokevirtual 82, 3) := by decide +kernel
theorem dX4_aunt_12 : decode cX4_aunt 12 = .ok (.ireturn, 1) := by decide +kernel
theorem dX4_aunt_13 : decode cX4_aunt 13 = .ok (.aload_n 0, 1) := by decide +kernel
theorem dX4_aunt_14 : decode cX4_aunt 14 = .ok (.getfield 9, 3) := by decide +kernel
theorem dX4_aunt_17 : decode cX4_aunt 17 = .ok (.iconst 3, 1) := by decide +kernel
theorem dX4_aunt_18 : decode cX4_aunt 18 = .ok (.iaload, 1) := by decide +kernel
theorem dX4_aunt_19 : decode cX4_aunt 19 = .ok (.istore_n 2, 1) := by decide +kernel
theorem dX4_aunt_20 : decode cX4_aunt 20 = .ok (.iconst (-1), 1) := by decide +kernel
theorem dX4_aunt_21 : decode cX4_aunt 21 = .ok (.istore_n 3, 1) := by decide +kernel
theorem dX4_aunt_22 : decode cX4_aunt 22 = .ok (.iconst 0, 1) := by decide +kernel
theorem dX4_aunt_23 : decode cX4_aunt 23 = .ok (.istore 4, 2) := by decide +kernel
theorem dX4_aunt_25 : decode cX4_aunt 25 = .ok (.iconst 0, 1) := by decide +kernel
theorem dX4_aunt_26 : decode cX4_aunt 26 = .ok (.istore 5, 2) := by decide +kernel
theorem dX4_aunt_28 : decode cX4_aunt 28 = .ok (.iload 5, 2) := by decide +kernel
theorem dX4_aunt_30 : decode cX4_aunt 30 = .ok (.bipush 16, 2) := by decide +kernel
theorem dX4_aunt_32 : decode cX4_aunt 32 = .ok (.if_icmp .ge 48, 3) := by decide +kernel
theorem dX4_aunt_35 : decode cX4_aunt 35 = .ok (.aload_n 0, 1) := by decide +kernel
theorem dX4_aunt_36 : decode cX4_aunt 36 = .ok (.getfield 9, 3) := by decide +kernel
theorem dX4_aunt_39 : decode cX4_aunt 39 = .ok (.iconst 3, 1) := by decide +kernel
theorem dX4_aunt_40 : decode cX4_aunt 40 = .ok (.iload_n 2, 1) := by decide +kernel
theorem dX4_aunt_41 : decode cX4_aunt 41 = .ok (.iconst 1, 1) := by decide +kernel
theorem dX4_aunt_42 : decode cX4_aunt 42 = .ok (.iload 5, 2) := by decide +kernel
theorem dX4_aunt_44 : decode cX4_aunt 44 = .ok (.ishl, 1) := by decide +kernel
theorem dX4_aunt_45 : decode cX4_aunt 45 = .ok (.ior, 1) := by decide +kernel
theorem dX4_aunt_46 : decode cX4_aunt 46 = .ok (.iastore, 1) := by decide +kernel
theorem dX4_aunt_47 : decode cX4_aunt 47 = .ok (.aload_n 0, 1) := by decide +kernel
theorem dX4_aunt_48 : decode cX4_aunt 48 = .ok (.bipush 15, 2) := by decide +kernel
theorem dX4_aunt_50 : decode cX4_aunt 50 = .ok (.iload_n 1, 1) := by decide +kernel
theorem dX4_aunt_51 : decode cX4_aunt 51 = .ok (.invokevirtual 174, 3) := by decide +kernel
theorem dX4_aunt_54 : decode cX4_aunt 54 = .ok (.istore 6, 2) := by decide +kernel
theorem dX4_aunt_56 : decode cX4_aunt 56 = .ok (.iload_n 3, 1) := by decide +kernel
theorem dX4_aunt_57 : decode cX4_aunt 57 = .ok (.ifCond .lt 10, 3) := by decide +kernel
theorem dX4_aunt_60 : decode cX4_aunt 60 = .ok (.iload 6, 2) := by decide +kernel
theorem dX4_aunt_62 : decode cX4_aunt 62 = .ok (.iload 4, 2) := by decide +kernel
theorem dX4_aunt_64 : decode cX4_aunt 64 = .ok (.if_icmp .ge 10, 3) := by decide +kernel
theorem dX4_aunt_67 : decode cX4_aunt 67 = .ok (.iload 5, 2) := by decide +kernel
theorem dX4_aunt_69 : decode cX4_aunt 69 = .ok (.istore_n 3, 1) := by decide +kernel
theorem dX4_aunt_70 : decode cX4_aunt 70 = .ok (.iload 6, 2) := by decide +kernel
theorem dX4_aunt_72 : decode cX4_aunt 72 = .ok (.istore 4, 2) := by decide +kernel
theorem dX4_aunt_74 : decode cX4_aunt 74 = .ok (.iinc 5 1, 3) := by decide +kernel
theorem dX4_aunt_77 : decode cX4_aunt 77 = .ok (.goto (-49), 3) := by decide +kernel
theorem dX4_aunt_80 : decode cX4_aunt 80 = .ok (.aload_n 0, 1) := by decide +kernel
theorem dX4_aunt_81 : decode cX4_aunt 81 = .ok (.getfield 9, 3) := by decide +kernel
theorem dX4_aunt_84 : decode cX4_aunt 84 = .ok (.iconst 3, 1) := by decide +kernel
theorem dX4_aunt_85 : decode cX4_aunt 85 = .ok (.iload_n 2, 1) := by decide +kernel
theorem dX4_aunt_86 : decode cX4_aunt 86 = .ok (.iastore, 1) := by decide +kernel
theorem dX4_aunt_87 : decode cX4_aunt 87 = .ok (.iload_n 3, 1) := by decide +kernel
theorem dX4_aunt_88 : decode cX4_aunt 88 = .ok (.ireturn, 1) := by decide +kernel
theorem dX4_isAsTold_0 : decode cX4_isAsTold 0 = .ok (.iconst 1, 1) := by decide +kernel
theorem dX4_isAsTold_1 : decode cX4_isAsTold 1 = .ok (.istore_n 2, 1) := by decide +kernel
theorem dX4_isAsTold_2 : decode cX4_isAsTold 2 = .ok (.iconst 0, 1) := by decide +kernel
theorem dX4_isAsTold_3 : decode cX4_isAsTold 3 = .ok (.istore_n 3, 1) := by decide +kernel
theorem dX4_isAsTold_4 : decode cX4_isAsTold 4 = .ok (.iload_n 3, 1) := by decide +kernel
theorem dX4_isAsTold_5 : decode cX4_isAsTold 5 = .ok (.aload_n 0, 1) := by decide +kernel
theorem dX4_isAsTold_6 : decode cX4_isAsTold 6 = .ok (.getfield 31, 3) := by decide +kernel
theorem dX4_isAsTold_9 : decode cX4_isAsTold 9 = .ok (.iload_n 1, 1) := by decide +kernel
theorem dX4_isAsTold_10 : decode cX4_isAsTold 10 = .ok (.iaload, 1) := by decide +kernel
theorem dX4_isAsTold_11 : decode cX4_isAsTold 11 = .ok (.if_icmp .ge 53, 3) := by decide +kernel
theorem dX4_isAsTold_14 : decode cX4_isAsTold 14 = .ok (.iload_n 2, 1) := by decide +kernel
theorem dX4_isAsTold_15 : decode cX4_isAsTold 15 = .ok (.ifCond .eq 49, 3) := by decide +kernel
theorem dX4_isAsTold_18 : decode cX4_isAsTold 18 = .ok (.aload_n 0, 1) := by decide +kernel
theorem dX4_isAsTold_19 : decode cX4_isAsTold 19 = .ok (.invokevirtual 146, 3) := by decide +kernel
theorem dX4_isAsTold_22 : decode cX4_isAsTold 22 = .ok (.aload_n 0, 1) := by decide +kernel
theorem dX4_isAsTold_23 : decode cX4_isAsTold 23 = .ok (.getfield 34, 3) := by decide +kernel
theorem dX4_isAsTold_26 : decode cX4_isAsTold 26 = .ok (.bipush 40, 2) := by decide +kernel
theorem dX4_isAsTold_28 : decode cX4_isAsTold 28 = .ok (.iload_n 1, 1) := by decide +kernel
theorem dX4_isAsTold_29 : decode cX4_isAsTold 29 = .ok (.imul, 1) := by decide +kernel
theorem dX4_isAsTold_30 : decode cX4_isAsTold 30 = .ok (.iload_n 3, 1) := by decide +kernel
theorem dX4_isAsTold_31 : decode cX4_isAsTold 31 = .ok (.iadd, 1) := by decide +kernel
theorem dX4_isAsTold_32 : decode cX4_isAsTold 32 = .ok (.iaload, 1) := by decide +kernel
theorem dX4_isAsTold_33 : decode cX4_isAsTold 33 = .ok (.istore 4, 2) := by decide +kernel
theorem dX4_isAsTold_35 : decode cX4_isAsTold 35 = .ok (.iload 4, 2) := by decide +kernel
theorem dX4_isAsTold_37 : decode cX4_isAsTold 37 = .ok (.iconst (-1), 1) := by decide +kernel
theorem dX4_isAsTold_38 : decode cX4_isAsTold 38 = .ok (.if_icmp .eq 14, 3) := by decide +kernel
theorem dX4_isAsTold_41 : decode cX4_isAsTold 41 = .ok (.iload 4, 2) := by decide +kernel
theorem dX4_isAsTold_43 : decode cX4_isAsTold 43 = .ok (.aload_n 0, 1) := by decide +kernel
theorem dX4_isAsTold_44 : decode cX4_isAsTold 44 = .ok (.bipush 15, 2) := by decide +kernel
theorem dX4_isAsTold_46 : decode cX4_isAsTold 46 = .ok (.invokevirtual 72, 3) := by decide +kernel
theorem dX4_isAsTold_49 : decode cX4_isAsTold 49 = .ok (.if_icmp .ne 7, 3) := by decide +kernel
theorem dX4_isAsTold_52 : decode cX4_isAsTold 52 = .ok (.iconst 1, 1) := by decide +kernel
theorem dX4_isAsTold_53 : decode cX4_isAsTold 53 = .ok (.goto 4, 3) := by decide +kernel
theorem dX4_isAsTold_56 : decode cX4_isAsTold 56 = .ok (.iconst 0, 1) := by decide +kernel
theorem dX4_isAsTold_57 : decode cX4_isAsTold 57 = .ok (.istore_n 2, 1) := by decide +kernel
theorem dX4_isAsTold_58 : decode cX4_isAsTold 58 = .ok (.iinc 3 1, 3) := by decide +kernel
theorem dX4_isAsTold_61 : decode cX4_isAsTold 61 = .ok (.goto (-57), 3) := by decide +kernel
theorem dX4_isAsTold_64 : decode cX4_isAsTold 64 = .ok (.iload_n 2, 1) := by decide +kernel
theorem dX4_isAsTold_65 : decode cX4_isAsTold 65 = .ok (.ireturn, 1) := by decide +kernel
theorem dX4_findFits_0 : decode cX4_findFits 0 = .ok (.aload_n 0, 1) := by decide +kernel
theorem dX4_findFits_1 : decode cX4_findFits 1 = .ok (.iconst 0, 1) := by decide +kernel
theorem dX4_findFits_2 : decode cX4_findFits 2 = .ok (.putfield 231, 3) := by decide +kernel
theorem dX4_findFits_5 : decode cX4_findFits 5 = .ok (.aload_n 0, 1) := by decide +kernel
theorem dX4_findFits_6 : decode cX4_findFits 6 = .ok (.iconst (-1), 1) := by decide +kernel
theorem dX4_findFits_7 : decode cX4_findFits 7 = .ok (.putfield 234, 3) := by decide +kernel
theorem dX4_findFits_10 : decode cX4_findFits 10 = .ok (.iconst 0, 1) := by decide +kernel
theorem dX4_findFits_11 : decode cX4_findFits 11 = .ok (.istore_n 3, 1) := by decide +kernel
theorem dX4_findFits_12 : decode cX4_findFits 12 = .ok (.iload_n 3, 1) := by decide +kernel
theorem dX4_findFits_13 : decode cX4_findFits 13 = .ok (.bipush 6, 2) := by decide +kernel
theorem dX4_findFits_15 : decode cX4_findFits 15 = .ok (.if_icmp .gt 99, 3) := by decide +kernel
theorem dX4_findFits_18 : decode cX4_findFits 18 = .ok (.iconst 0, 1) := by decide +kernel
theorem dX4_findFits_19 : decode cX4_findFits 19 = .ok (.istore 4, 2) := by decide +kernel
theorem dX4_findFits_21 : decode cX4_findFits 21 = .ok (.iload 4, 2) := by decide +kernel
theorem dX4_findFits_23 : decode cX4_findFits 23 = .ok (.bipush 16, 2) := by decide +kernel
theorem dX4_findFits_25 : decode cX4_findFits 25 = .ok (.if_icmp .ge 83, 3) := by decide +kernel
theorem dX4_findFits_28 : decode cX4_findFits 28 = .ok (.aload_n 0, 1) := by decide +kernel
theorem dX4_findFits_29 : decode cX4_findFits 29 = .ok (.invokevirtual 168, 3) := by decide +kernel
theorem dX4_findFits_32 : decode cX4_findFits 32 = .ok (.aload_n 0, 1) := by decide +kernel
theorem dX4_findFits_33 : decode cX4_findFits 33 = .ok (.iload_n 3, 1) := by decide +kernel
theorem dX4_findFits_34 : decode cX4_findFits 34 = .ok (.iload 4, 2) := by decide +kernel
theorem dX4_findFits_36 : decode cX4_findFits 36 = .ok (.iload_n 2, 1) := by decide +kernel
theorem dX4_findFits_37 : decode cX4_findFits 37 = .ok (.invokevirtual 113, 3) := by decide +kernel
theorem dX4_findFits_40 : decode cX4_findFits 40 = .ok (.istore 5, 2) := by decide +kernel
theorem dX4_findFits_42 : decode cX4_findFits 42 = .ok (.aload_n 0, 1) := by decide +kernel
theorem dX4_findFits_43 : decode cX4_findFits 43 = .ok (.iload_n 1, 1) := by decide +kernel
theorem dX4_findFits_44 : decode cX4_findFits 44 = .ok (.invokevirtual 237, 3) := by decide +kernel
theorem dX4_findFits_47 : decode cX4_findFits 47 = .ok (.istore 6, 2) := by decide +kernel
theorem dX4_findFits_49 : decode cX4_findFits 49 = .ok (.aload_n 0, 1) := by decide +kernel
theorem dX4_findFits_50 : decode cX4_findFits 50 = .ok (.invokevirtual 171, 3) := by decide +kernel
theorem dX4_findFits_53 : decode cX4_findFits 53 = .ok (.aload_n 0, 1) := by decide +kernel
theorem dX4_findFits_54 : decode cX4_findFits 54 = .ok (.dup, 1) := by decide +kernel
theorem dX4_findFits_55 : decode cX4_findFits 55 = .ok (.getfield 231, 3) := by decide +kernel
theorem dX4_findFits_58 : decode cX4_findFits 58 = .ok (.iload 6, 2) := by decide +kernel
theorem dX4_findFits_60 : decode cX4_findFits 60 = .ok (.ifCond .eq 7, 3) := by decide +kernel
theorem dX4_findFits_63 : decode cX4_findFits 63 = .ok (.iconst 1, 1) := by decide +kernel
theorem dX4_findFits_64 : decode cX4_findFits 64 = .ok (.goto 4, 3) := by decide +kernel
theorem dX4_findFits_67 : decode cX4_findFits 67 = .ok (.iconst 0, 1) := by decide +kernel
theorem dX4_findFits_68 : decode cX4_findFits 68 = .ok (.iadd, 1) := by decide +kernel
theorem dX4_findFits_69 : decode cX4_findFits 69 = .ok (.putfield 231, 3) := by decide +kernel
theorem dX4_findFits_72 : decode cX4_findFits 72 = .ok (.aload_n 0, 1) := by decide +kernel
theorem dX4_findFits_73 : decode cX4_findFits 73 = .ok (.iload 6, 2) := by decide +kernel
theorem dX4_findFits_75 : decode cX4_findFits 75 = .ok (.ifCond .eq 20, 3) := by decide +kernel
theorem dX4_findFits_78 : decode cX4_findFits 78 = .ok (.aload_n 0, 1) := by decide +kernel
theorem dX4_findFits_79 : decode cX4_findFits 79 = .ok (.getfield 234, 3) := by decide +kernel
theorem dX4_findFits_82 : decode cX4_findFits 82 = .ok (.ifCond .ge 13, 3) := by decide +kernel
theorem dX4_findFits_85 : decode cX4_findFits 85 = .ok (.bipush 16, 2) := by decide +kernel
theorem dX4_findFits_87 : decode cX4_findFits 87 = .ok (.iload_n 3, 1) := by decide +kernel
theorem dX4_findFits_88 : decode cX4_findFits 88 = .ok (.imul, 1) := by decide +kernel
theorem dX4_findFits_89 : decode cX4_findFits 89 = .ok (.iload 4, 2) := by decide +kernel
theorem dX4_findFits_91 : decode cX4_findFits 91 = .ok (.iadd, 1) := by decide +kernel
theorem dX4_findFits_92 : decode cX4_findFits 92 = .ok (.goto 7, 3) := by decide +kernel
theorem dX4_findFits_95 : decode cX4_findFits 95 = .ok (.aload_n 0, 1) := by decide +kernel
theorem dX4_findFits_96 : decode cX4_findFits 96 = .ok (.getfield 234, 3) := by decide +kernel
theorem dX4_findFits_99 : decode cX4_findFits 99 = .ok (.putfield 234, 3) := by decide +kernel
theorem dX4_findFits_102 : decode cX4_findFits 102 = .ok (.iinc 4 1, 3) := by decide +kernel
theorem dX4_findFits_105 : decode cX4_findFits 105 = .ok (.goto (-84), 3) := by decide +kernel
theorem dX4_findFits_108 : decode cX4_findFits 108 = .ok (.iinc 3 1, 3) := by decide +kernel
theorem dX4_findFits_111 : decode cX4_findFits 111 = .ok (.goto (-99), 3) := by decide +kernel
theorem dX4_findFits_114 : decode cX4_findFits 114 = .ok (.return_, 1) := by decide +kernel
theorem dX4_lacksFits_0 : decode cX4_lacksFits 0 = .ok (.aload_n 0, 1) := by decide +kernel
theorem dX4_lacksFits_1 : decode cX4_lacksFits 1 = .ok (.iload_n 1, 1) := by decide +kernel
theorem dX4_lacksFits_2 : decode cX4_lacksFits 2 = .ok (.invokevirtual 240, 3) := by decide +kernel
theorem dX4_lacksFits_5 : decode cX4_lacksFits 5 = .ok (.istore_n 3, 1) := by decide +kernel
theorem dX4_lacksFits_6 : decode cX4_lacksFits 6 = .ok (.iload_n 3, 1) := by decide +kernel
theorem dX4_lacksFits_7 : decode cX4_lacksFits 7 = .ok (.ifCond .lt 5, 3) := by decide +kernel
theorem dX4_lacksFits_10 : decode cX4_lacksFits 10 = .ok (.iload_n 3, 1) := by decide +kernel
theorem dX4_lacksFits_11 : decode cX4_lacksFits 11 = .ok (.ireturn, 1) := by decide +kernel
theorem dX4_lacksFits_12 : decode cX4_lacksFits 12 = .ok (.iload_n 2, 1) := by decide +kernel
theorem dX4_lacksFits_13 : decode cX4_lacksFits 13 = .ok (.i2l, 1) := by decide +kernel
theorem dX4_lacksFits_14 : decode cX4_lacksFits 14 = .ok (.lconst 1, 1) := by decide +kernel
theorem dX4_lacksFits_15 : decode cX4_lacksFits 15 = .ok (.ldc2_w 126, 3) := by decide +kernel
theorem dX4_lacksFits_18 : decode cX4_lacksFits 18 = .ok (.invokestatic 57, 3) := by decide +kernel
theorem dX4_lacksFits_21 : decode cX4_lacksFits 21 = .ok (.ifCond .ne 7, 3) := by decide +kernel
theorem dX4_lacksFits_24 : decode cX4_lacksFits 24 = .ok (.iconst 0, 1) := by decide +kernel
theorem dX4_lacksFits_25 : decode cX4_lacksFits 25 = .ok (.goto 19, 3) := by decide +kernel
theorem dX4_lacksFits_28 : decode cX4_lacksFits 28 = .ok (.aload_n 0, 1) := by decide +kernel
theorem dX4_lacksFits_29 : decode cX4_lacksFits 29 = .ok (.getfield 9, 3) := by decide +kernel
theorem dX4_lacksFits_32 : decode cX4_lacksFits 32 = .ok (.iconst 1, 1) := by decide +kernel
theorem dX4_lacksFits_33 : decode cX4_lacksFits 33 = .ok (.iaload, 1) := by decide +kernel
theorem dX4_lacksFits_34 : decode cX4_lacksFits 34 = .ok (.bipush 8, 2) := by decide +kernel
theorem dX4_lacksFits_36 : decode cX4_lacksFits 36 = .ok (.if_icmp .ne 7, 3) := by decide +kernel
theorem dX4_lacksFits_39 : decode cX4_lacksFits 39 = .ok (.iconst 4, 1) := by decide +kernel
theorem dX4_lacksFits_40 : decode cX4_lacksFits 40 = .ok (.goto 4, 3) := by decide +kernel
theorem dX4_lacksFits_43 : decode cX4_lacksFits 43 = .ok (.iconst (-1), 1) := by decide +kernel
theorem dX4_lacksFits_44 : decode cX4_lacksFits 44 = .ok (.ireturn, 1) := by decide +kernel
theorem dX4_fits_0 : decode cX4_fits 0 = .ok (.aload_n 0, 1) := by decide +kernel
theorem dX4_fits_1 : decode cX4_fits 1 = .ok (.iload_n 1, 1) := by decide +kernel
theorem dX4_fits_2 : decode cX4_fits 2 = .ok (.iload_n 2, 1) := by decide +kernel
theorem dX4_fits_3 : decode cX4_fits 3 = .ok (.invokevirtual 243, 3) := by decide +kernel
theorem dX4_fits_6 : decode cX4_fits 6 = .ok (.istore_n 3, 1) := by decide +kernel
theorem dX4_fits_7 : decode cX4_fits 7 = .ok (.iload_n 3, 1) := by decide +kernel
theorem dX4_fits_8 : decode cX4_fits 8 = .ok (.ifCond .lt 9, 3) := by decide +kernel
theorem dX4_fits_11 : decode cX4_fits 11 = .ok (.aload_n 0, 1) := by decide +kernel
theorem dX4_fits_12 : decode cX4_fits 12 = .ok (.iload_n 3, 1) := by decide +kernel
theorem dX4_fits_13 : decode cX4_fits 13 = .ok (.invokevirtual 82, 3) := by decide +kernel
theorem dX4_fits_16 : decode cX4_fits 16 = .ok (.ireturn, 1) := by decide +kernel
theorem dX4_fits_17 : decode cX4_fits 17 = .ok (.aload_n 0, 1) := by decide +kernel
theorem dX4_fits_18 : decode cX4_fits 18 = .ok (.iload_n 1, 1) := by decide +kernel
theorem dX4_fits_19 : decode cX4_fits 19 = .ok (.iload_n 2, 1) := by decide +kernel
theorem dX4_fits_20 : decode cX4_fits 20 = .ok (.invokevirtual 246, 3) := by decide +kernel
theorem dX4_fits_23 : decode cX4_fits 23 = .ok (.aload_n 0, 1) := by decide +kernel
theorem dX4_fits_24 : decode cX4_fits 24 = .ok (.getfield 231, 3) := by decide +kernel
theorem dX4_fits_27 : decode cX4_fits 27 = .ok (.ireturn, 1) := by decide +kernel
theorem dX4_said_0 : decode cX4_said 0 = .ok (.aload_n 0, 1) := by decide +kernel
theorem dX4_said_1 : decode cX4_said 1 = .ok (.iload_n 1, 1) := by decide +kernel
theorem dX4_said_2 : decode cX4_said 2 = .ok (.iload_n 2, 1) := by decide +kernel
theorem dX4_said_3 : decode cX4_said 3 = .ok (.invokevirtual 243, 3) := by decide +kernel
theorem dX4_said_6 : decode cX4_said 6 = .ok (.istore_n 3, 1) := by decide +kernel
theorem dX4_said_7 : decode cX4_said 7 = .ok (.iload_n 3, 1) := by decide +kernel
theorem dX4_said_8 : decode cX4_said 8 = .ok (.ifCond .lt 9, 3) := by decide +kernel
theorem dX4_said_11 : decode cX4_said 11 = .ok (.aload_n 0, 1) := by decide +kernel
theorem dX4_said_12 : decode cX4_said 12 = .ok (.iload_n 3, 1) := by decide +kernel
theorem dX4_said_13 : decode cX4_said 13 = .ok (.invokevirtual 82, 3) := by decide +kernel
theorem dX4_said_16 : decode cX4_said 16 = .ok (.ireturn, 1) := by decide +kernel
theorem dX4_said_17 : decode cX4_said 17 = .ok (.aload_n 0, 1) := by decide +kernel
theorem dX4_said_18 : decode cX4_said 18 = .ok (.iload_n 1, 1) := by decide +kernel
theorem dX4_said_19 : decode cX4_said 19 = .ok (.iload_n 2, 1) := by decide +kernel
theorem dX4_said_20 : decode cX4_said 20 = .ok (.invokevirtual 246, 3) := by decide +kernel
theorem dX4_said_23 : decode cX4_said 23 = .ok (.aload_n 0, 1) := by decide +kernel
theorem dX4_said_24 : decode cX4_said 24 = .ok (.getfield 234, 3) := by decide +kernel
theorem dX4_said_27 : decode cX4_said 27 = .ok (.ifCond .ge 11, 3) := by decide +kernel
theorem dX4_said_30 : decode cX4_said 30 = .ok (.aload_n 0, 1) := by decide +kernel
theorem dX4_said_31 : decode cX4_said 31 = .ok (.iconst 3, 1) := by decide +kernel
theorem dX4_said_32 : decode cX4_said 32 = .ok (.invokevirtual 82, 3) := by decide +kernel
theorem dX4_said_35 : decode cX4_said 35 = .ok (.goto 7, 3) := by decide +kernel
theorem dX4_said_38 : decode cX4_said 38 = .ok (.aload_n 0, 1) := by decide +kernel
theorem dX4_said_39 : decode cX4_said 39 = .ok (.getfield 234, 3) := by decide +kernel
theorem dX4_said_42 : decode cX4_said 42 = .ok (.ireturn, 1) := by decide +kernel
theorem dX4_dearest_0 : decode cX4_dearest 0 = .ok (.iconst 0, 1) := by decide +kernel
theorem dX4_dearest_1 : decode cX4_dearest 1 = .ok (.istore_n 1, 1) := by decide +kernel
theorem dX4_dearest_2 : decode cX4_dearest 2 = .ok (.iconst 1, 1) := by decide +kernel
theorem dX4_dearest_3 : decode cX4_dearest 3 = .ok (.istore_n 2, 1) := by decide +kernel
theorem dX4_dearest_4 : decode cX4_dearest 4 = .ok (.iload_n 2, 1) := by decide +kernel
theorem dX4_dearest_5 : decode cX4_dearest 5 = .ok (.bipush 16, 2) := by decide +kernel
theorem dX4_dearest_7 : decode cX4_dearest 7 = .ok (.if_icmp .ge 28, 3) := by decide +kernel
theorem dX4_dearest_10 : decode cX4_dearest 10 = .ok (.aload_n 0, 1) := by decide +kernel
theorem dX4_dearest_11 : decode cX4_dearest 11 = .ok (.iload_n 2, 1) := by decide +kernel
theorem dX4_dearest_12 : decode cX4_dearest 12 = .ok (.invokevirtual 91, 3) := by decide +kernel
theorem dX4_dearest_15 : decode cX4_dearest 15 = .ok (.aload_n 0, 1) := by decide +kernel
theorem dX4_dearest_16 : decode cX4_dearest 16 = .ok (.iload_n 1, 1) := by decide +kernel
theorem dX4_dearest_17 : decode cX4_dearest 17 = .ok (.invokevirtual 91, 3) := by decide +kernel
theorem dX4_dearest_20 : decode cX4_dearest 20 = .ok (.if_icmp .le 7, 3) := by decide +kernel
theorem dX4_dearest_23 : decode cX4_dearest 23 = .ok (.iload_n 2, 1) := by decide +kernel
theorem dX4_dearest_24 : decode cX4_dearest 24 = .ok (.goto 4, 3) := by decide +kernel
theorem dX4_dearest_27 : decode cX4_dearest 27 = .ok (.iload_n 1, 1) := by decide +kernel
theorem dX4_dearest_28 : decode cX4_dearest 28 = .ok (.istore_n 1, 1) := by decide +kernel
theorem dX4_dearest_29 : decode cX4_dearest 29 = .ok (.iinc 2 1, 3) := by decide +kernel
theorem dX4_dearest_32 : decode cX4_dearest 32 = .ok (.goto (-28), 3) := by decide +kernel
theorem dX4_dearest_35 : decode cX4_dearest 35 = .ok (.iload_n 1, 1) := by decide +kernel
theorem dX4_dearest_36 : decode cX4_dearest 36 = .ok (.ireturn, 1) := by decide +kernel
theorem dX4_rents_0 : decode cX4_rents 0 = .ok (.iconst 0, 1) := by decide +kernel
theorem dX4_rents_1 : decode cX4_rents 1 = .ok (.istore_n 1, 1) := by decide +kernel
theorem dX4_rents_2 : decode cX4_rents 2 = .ok (.iconst 0, 1) := by decide +kernel
theorem dX4_rents_3 : decode cX4_rents 3 = .ok (.istore_n 2, 1) := by decide +kernel
theorem dX4_rents_4 : decode cX4_rents 4 = .ok (.iload_n 2, 1) := by decide +kernel
theorem dX4_rents_5 : decode cX4_rents 5 = .ok (.bipush 16, 2) := by decide +kernel
theorem dX4_rents_7 : decode cX4_rents 7 = .ok (.if_icmp .ge 17, 3) := by decide +kernel
theorem dX4_rents_10 : decode cX4_rents 10 = .ok (.iload_n 1, 1) := by decide +kernel
theorem dX4_rents_11 : decode cX4_rents 11 = .ok (.aload_n 0, 1) := by decide +kernel
theorem dX4_rents_12 : decode cX4_rents 12 = .ok (.iload_n 2, 1) := by decide +kernel
theorem dX4_rents_13 : decode cX4_rents 13 = .ok (.invokevirtual 91, 3) := by decide +kernel
theorem dX4_rents_16 : decode cX4_rents 16 = .ok (.iadd, 1) := by decide +kernel
theorem dX4_rents_17 : decode cX4_rents 17 = .ok (.istore_n 1, 1) := by decide +kernel
theorem dX4_rents_18 : decode cX4_rents 18 = .ok (.iinc 2 1, 3) := by decide +kernel
theorem dX4_rents_21 : decode cX4_rents 21 = .ok (.goto (-17), 3) := by decide +kernel
theorem dX4_rents_24 : decode cX4_rents 24 = .ok (.iload_n 1, 1) := by decide +kernel
theorem dX4_rents_25 : decode cX4_rents 25 = .ok (.ireturn, 1) := by decide +kernel
theorem dX4_draw_0 : decode cX4_draw 0 = .ok (.aload_n 0, 1) := by decide +kernel
theorem dX4_draw_1 : decode cX4_draw 1 = .ok (.getfield 9, 3) := by decide +kernel
theorem dX4_draw_4 : decode cX4_draw 4 = .ok (.iconst 4, 1) := by decide +kernel
theorem dX4_draw_5 : decode cX4_draw 5 = .ok (.aload_n 0, 1) := by decide +kernel
theorem dX4_draw_6 : decode cX4_draw 6 = .ok (.getfield 9, 3) := by decide +kernel
theorem dX4_draw_9 : decode cX4_draw 9 = .ok (.iconst 4, 1) := by decide +kernel
theorem dX4_draw_10 : decode cX4_draw 10 = .ok (.iaload, 1) := by decide +kernel
theorem dX4_draw_11 : decode cX4_draw 11 = .ok (.ldc 250, 2) := by decide +kernel
theorem dX4_draw_13 : decode cX4_draw 13 = .ok (.imul, 1) := by decide +kernel
theorem dX4_draw_14 : decode cX4_draw 14 = .ok (.sipush 12345, 3) := by decide +kernel
theorem dX4_draw_17 : decode cX4_draw 17 = .ok (.iadd, 1) := by decide +kernel
theorem dX4_draw_18 : decode cX4_draw 18 = .ok (.iastore, 1) := by decide +kernel
theorem dX4_draw_19 : decode cX4_draw 19 = .ok (.aload_n 0, 1) := by decide +kernel
theorem dX4_draw_20 : decode cX4_draw 20 = .ok (.getfield 9, 3) := by decide +kernel
theorem dX4_draw_23 : decode cX4_draw 23 = .ok (.iconst 4, 1) := by decide +kernel
theorem dX4_draw_24 : decode cX4_draw 24 = .ok (.iaload, 1) := by decide +kernel
theorem dX4_draw_25 : decode cX4_draw 25 = .ok (.bipush 8, 2) := by decide +kernel
theorem dX4_draw_27 : decode cX4_draw 27 = .ok (.iushr, 1) := by decide +kernel
theorem dX4_draw_28 : decode cX4_draw 28 = .ok (.ireturn, 1) := by decide +kernel
theorem dX4_frosts_0 : decode cX4_frosts 0 = .ok (.iload_n 1, 1) := by decide +kernel
theorem dX4_frosts_1 : decode cX4_frosts 1 = .ok (.i2l, 1) := by decide +kernel
theorem dX4_frosts_2 : decode cX4_frosts 2 = .ok (.lconst 1, 1) := by decide +kernel
theorem dX4_frosts_3 : decode cX4_frosts 3 = .ok (.ldc2_w 251, 3) := by decide +kernel
theorem dX4_frosts_6 : decode cX4_frosts 6 = .ok (.invokestatic 57, 3) := by decide +kernel
theorem dX4_frosts_9 : decode cX4_frosts 9 = .ok (.ifCond .ne 9, 3) := by decide +kernel
theorem dX4_frosts_12 : decode cX4_frosts 12 = .ok (.aload_n 0, 1) := by decide +kernel
theorem dX4_frosts_13 : decode cX4_frosts 13 = .ok (.iconst 0, 1) := by decide +kernel
theorem dX4_frosts_14 : decode cX4_frosts 14 = .ok (.invokevirtual 82, 3) := by decide +kernel
theorem dX4_frosts_17 : decode cX4_frosts 17 = .ok (.ireturn, 1) := by decide +kernel
theorem dX4_frosts_18 : decode cX4_frosts 18 = .ok (.aload_n 0, 1) := by decide +kernel
theorem dX4_frosts_19 : decode cX4_frosts 19 = .ok (.getfield 9, 3) := by decide +kernel
theorem dX4_frosts_22 : decode cX4_frosts 22 = .ok (.iconst 0, 1) := by decide +kernel
theorem dX4_frosts_23 : decode cX4_frosts 23 = .ok (.iaload, 1) := by decide +kernel
theorem dX4_frosts_24 : decode cX4_frosts 24 = .ok (.iload_n 1, 1) := by decide +kernel
theorem dX4_frosts_25 : decode cX4_frosts 25 = .ok (.iadd, 1) := by decide +kernel
theorem dX4_frosts_26 : decode cX4_frosts 26 = .ok (.ldc 151, 2) := by decide +kernel
theorem dX4_frosts_28 : decode cX4_frosts 28 = .ok (.if_icmp .le 9, 3) := by decide +kernel
theorem dX4_frosts_31 : decode cX4_frosts 31 = .ok (.aload_n 0, 1) := by decide +kernel
theorem dX4_frosts_32 : decode cX4_frosts 32 = .ok (.iconst 4, 1) := by decide +kernel
theorem dX4_frosts_33 : decode cX4_frosts 33 = .ok (.invokevirtual 82, 3) := by decide +kernel
theorem dX4_frosts_36 : decode cX4_frosts 36 = .ok (.ireturn, 1) := by decide +kernel
theorem dX4_frosts_37 : decode cX4_frosts 37 = .ok (.iconst 0, 1) := by decide +kernel
theorem dX4_frosts_38 : decode cX4_frosts 38 = .ok (.istore_n 2, 1) := by decide +kernel
theorem dX4_frosts_39 : decode cX4_frosts 39 = .ok (.iconst 0, 1) := by decide +kernel
theorem dX4_frosts_40 : decode cX4_frosts 40 = .ok (.istore_n 3, 1) := by decide +kernel
theorem dX4_frosts_41 : decode cX4_frosts 41 = .ok (.iload_n 3, 1) := by decide +kernel
theorem dX4_frosts_42 : decode cX4_frosts 42 = .ok (.iload_n 1, 1) := by decide +kernel
theorem dX4_frosts_43 : decode cX4_frosts 43 = .ok (.if_icmp .ge 42, 3) := by decide +kernel
theorem dX4_frosts_46 : decode cX4_frosts 46 = .ok (.aload_n 0, 1) := by decide +kernel
theorem dX4_frosts_47 : decode cX4_frosts 47 = .ok (.getfield 9, 3) := by decide +kernel
theorem dX4_frosts_50 : decode cX4_frosts 50 = .ok (.iconst 2, 1) := by decide +kernel
theorem dX4_frosts_51 : decode cX4_frosts 51 = .ok (.aload_n 0, 1) := by decide +kernel
theorem dX4_frosts_52 : decode cX4_frosts 52 = .ok (.invokevirtual 253, 3) := by decide +kernel
theorem dX4_frosts_55 : decode cX4_frosts 55 = .ok (.iconst 2, 1) := by decide +kernel
theorem dX4_frosts_56 : decode cX4_frosts 56 = .ok (.irem, 1) := by decide +kernel
theorem dX4_frosts_57 : decode cX4_frosts 57 = .ok (.iastore, 1) := by decide +kernel
theorem dX4_frosts_58 : decode cX4_frosts 58 = .ok (.aload_n 0, 1) := by decide +kernel
theorem dX4_frosts_59 : decode cX4_frosts 59 = .ok (.invokevirtual 146, 3) := by decide +kernel
theorem dX4_frosts_62 : decode cX4_frosts 62 = .ok (.iload_n 2, 1) := by decide +kernel
theorem dX4_frosts_63 : decode cX4_frosts 63 = .ok (.aload_n 0, 1) := by decide +kernel
theorem dX4_frosts_64 : decode cX4_frosts 64 = .ok (.bipush 15, 2) := by decide +kernel
theorem dX4_frosts_66 : decode cX4_frosts 66 = .ok (.invokevirtual 88, 3) := by decide +kernel
theorem dX4_frosts_69 : decode cX4_frosts 69 = .ok (.ifCond .eq 7, 3) := by decide +kernel
theorem dX4_frosts_72 : decode cX4_frosts 72 = .ok (.iconst 1, 1) := by decide +kernel
theorem dX4_frosts_73 : decode cX4_frosts 73 = .ok (.goto 4, 3) := by decide +kernel
theorem dX4_frosts_76 : decode cX4_frosts 76 = .ok (.iconst 0, 1) := by decide +kernel
theorem dX4_frosts_77 : decode cX4_frosts 77 = .ok (.iadd, 1) := by decide +kernel
theorem dX4_frosts_78 : decode cX4_frosts 78 = .ok (.istore_n 2, 1) := by decide +kernel
theorem dX4_frosts_79 : decode cX4_frosts 79 = .ok (.iinc 3 1, 3) := by decide +kernel
theorem dX4_frosts_82 : decode cX4_frosts 82 = .ok (.goto (-41), 3) := by decide +kernel
theorem dX4_frosts_85 : decode cX4_frosts 85 = .ok (.iload_n 2, 1) := by decide +kernel
theorem dX4_frosts_86 : decode cX4_frosts 86 = .ok (.ireturn, 1) := by decide +kernel
theorem dX4_odds_0 : decode cX4_odds 0 = .ok (.iload_n 1, 1) := by decide +kernel
theorem dX4_odds_1 : decode cX4_odds 1 = .ok (.i2l, 1) := by decide +kernel
theorem dX4_odds_2 : decode cX4_odds 2 = .ok (.lconst 0, 1) := by decide +kernel
theorem dX4_odds_3 : decode cX4_odds 3 = .ok (.ldc2_w 256, 3) := by decide +kernel
theorem dX4_odds_6 : decode cX4_odds 6 = .ok (.invokestatic 57, 3) := by decide +kernel
theorem dX4_odds_9 : decode cX4_odds 9 = .ok (.ifCond .eq 25, 3) := by decide +kernel
theorem dX4_odds_12 : decode cX4_odds 12 = .ok (.iload_n 2, 1) := by decide +kernel
theorem dX4_odds_13 : decode cX4_odds 13 = .ok (.i2l, 1) := by decide +kernel
theorem dX4_odds_14 : decode cX4_odds 14 = .ok (.lconst 0, 1) := by decide +kernel
theorem dX4_odds_15 : decode cX4_odds 15 = .ok (.ldc2_w 258, 3) := by decide +kernel
theorem dX4_odds_18 : decode cX4_odds 18 = .ok (.invokestatic 57, 3) := by decide +kernel
theorem dX4_odds_21 : decode cX4_odds 21 = .ok (.ifCond .eq 13, 3) := by decide +kernel
theorem dX4_odds_24 : decode cX4_odds 24 = .ok (.iload_n 3, 1) := by decide +kernel
theorem dX4_odds_25 : decode cX4_odds 25 = .ok (.i2l, 1) := by decide +kernel
theorem dX4_odds_26 : decode cX4_odds 26 = .ok (.lconst 0, 1) := by decide +kernel
theorem dX4_odds_27 : decode cX4_odds 27 = .ok (.lconst 1, 1) := by decide +kernel
theorem dX4_odds_28 : decode cX4_odds 28 = .ok (.invokestatic 57, 3) := by decide +kernel
theorem dX4_odds_31 : decode cX4_odds 31 = .ok (.ifCond .ne 10, 3) := by decide +kernel
theorem dX4_odds_34 : decode cX4_odds 34 = .ok (.aload_n 0, 1) := by decide +kernel
theorem dX4_odds_35 : decode cX4_odds 35 = .ok (.iconst 0, 1) := by decide +kernel
theorem dX4_odds_36 : decode cX4_odds 36 = .ok (.invokevirtual 82, 3) := by decide +kernel
theorem dX4_odds_39 : decode cX4_odds 39 = .ok (.i2l, 1) := by decide +kernel
theorem dX4_odds_40 : decode cX4_odds 40 = .ok (.lreturn, 1) := by decide +kernel
theorem dX4_odds_41 : decode cX4_odds 41 = .ok (.lconst 1, 1) := by decide +kernel
theorem dX4_odds_42 : decode cX4_odds 42 = .ok (.lstore 4, 2) := by decide +kernel
theorem dX4_odds_44 : decode cX4_odds 44 = .ok (.lconst 1, 1) := by decide +kernel
theorem dX4_odds_45 : decode cX4_odds 45 = .ok (.lstore 6, 2) := by decide +kernel
theorem dX4_odds_47 : decode cX4_odds 47 = .ok (.iconst 0, 1) := by decide +kernel
theorem dX4_odds_48 : decode cX4_odds 48 = .ok (.istore 8, 2) := by decide +kernel
theorem dX4_odds_50 : decode cX4_odds 50 = .ok (.iload 8, 2) := by decide +kernel
theorem dX4_odds_52 : decode cX4_odds 52 = .ok (.iload_n 1, 1) := by decide +kernel
theorem dX4_odds_53 : decode cX4_odds 53 = .ok (.if_icmp .ge 27, 3) := by decide +kernel
theorem dX4_odds_56 : decode cX4_odds 56 = .ok (.lload 4, 2) := by decide +kernel
theorem dX4_odds_58 : decode cX4_odds 58 = .ok (.bipush 10, 2) := by decide +kernel
theorem dX4_odds_60 : decode cX4_odds 60 = .ok (.iload_n 2, 1) := by decide +kernel
theorem dX4_odds_61 : decode cX4_odds 61 = .ok (.isub, 1) := by decide +kernel
theorem dX4_odds_62 : decode cX4_odds 62 = .ok (.i2l, 1) := by decide +kernel
theorem dX4_odds_63 : decode cX4_odds 63 = .ok (.lmul, 1) := by decide +kernel
theorem dX4_odds_64 : decode cX4_odds 64 = .ok (.lstore 4, 2) := by decide +kernel
theorem dX4_odds_66 : decode cX4_odds 66 = .ok (.lload 6, 2) := by decide +kernel
theorem dX4_odds_68 : decode cX4_odds 68 = .ok (.ldc2_w 258, 3) := by decide +kernel
theorem dX4_odds_71 : decode cX4_odds 71 = .ok (.lmul, 1) := by decide +kernel
theorem dX4_odds_72 : decode cX4_odds 72 = .ok (.lstore 6, 2) := by decide +kernel
theorem dX4_odds_74 : decode cX4_odds 74 = .ok (.iinc 8 1, 3) := by decide +kernel
theorem dX4_odds_77 : decode cX4_odds 77 = .ok (.goto (-27), 3) := by decide +kernel
theorem dX4_odds_80 : decode cX4_odds 80 = .ok (.lload 4, 2) := by decide +kernel
theorem dX4_odds_82 : decode cX4_odds 82 = .ok (.lstore 8, 2) := by decide +kernel
theorem dX4_odds_84 : decode cX4_odds 84 = .ok (.lload 6, 2) := by decide +kernel
theorem dX4_odds_86 : decode cX4_odds 86 = .ok (.lstore 10, 2) := by decide +kernel
theorem dX4_odds_88 : decode cX4_odds 88 = .ok (.lload 10, 2) := by decide +kernel
theorem dX4_odds_90 : decode cX4_odds 90 = .ok (.lconst 0, 1) := by decide +kernel
theorem dX4_odds_91 : decode cX4_odds 91 = .ok (.lcmp, 1) := by decide +kernel
theorem dX4_odds_92 : decode cX4_odds 92 = .ok (.ifCond .eq 21, 3) := by decide +kernel
theorem dX4_odds_95 : decode cX4_odds 95 = .ok (.lload 8, 2) := by decide +kernel
theorem dX4_odds_97 : decode cX4_odds 97 = .ok (.lload 10, 2) := by decide +kernel
theorem dX4_odds_99 : decode cX4_odds 99 = .ok (.lrem, 1) := by decide +kernel
theorem dX4_odds_100 : decode cX4_odds 100 = .ok (.lstore 12, 2) := by decide +kernel
theorem dX4_odds_102 : decode cX4_odds 102 = .ok (.lload 10, 2) := by decide +kernel
theorem dX4_odds_104 : decode cX4_odds 104 = .ok (.lstore 8, 2) := by decide +kernel
theorem dX4_odds_106 : decode cX4_odds 106 = .ok (.lload 12, 2) := by decide +kernel
theorem dX4_odds_108 : decode cX4_odds 108 = .ok (.lstore 10, 2) := by decide +kernel
theorem dX4_odds_110 : decode cX4_odds 110 = .ok (.goto (-22), 3) := by decide +kernel
theorem dX4_odds_113 : decode cX4_odds 113 = .ok (.iload_n 3, 1) := by decide +kernel
theorem dX4_odds_114 : decode cX4_odds 114 = .ok (.ifCond .ne 8, 3) := by decide +kernel
theorem dX4_odds_117 : decode cX4_odds 117 = .ok (.lload 4, 2) := by decide +kernel
theorem dX4_odds_119 : decode cX4_odds 119 = .ok (.goto 5, 3) := by decide +kernel
theorem dX4_odds_122 : decode cX4_odds 122 = .ok (.lload 6, 2) := by decide +kernel
theorem dX4_odds_124 : decode cX4_odds 124 = .ok (.lload 8, 2) := by decide +kernel
theorem dX4_odds_126 : decode cX4_odds 126 = .ok (.ldiv, 1) := by decide +kernel
theorem dX4_odds_127 : decode cX4_odds 127 = .ok (.lreturn, 1) := by decide +kernel
theorem dX4_seed_0 : decode cX4_seed 0 = .ok (.aload_n 0, 1) := by decide +kernel
theorem dX4_seed_1 : decode cX4_seed 1 = .ok (.iconst 4, 1) := by decide +kernel
theorem dX4_seed_2 : decode cX4_seed 2 = .ok (.iload_n 1, 1) := by decide +kernel
theorem dX4_seed_3 : decode cX4_seed 3 = .ok (.invokevirtual 99, 3) := by decide +kernel
theorem dX4_seed_6 : decode cX4_seed 6 = .ok (.ireturn, 1) := by decide +kernel
theorem dX4_feed_0 : decode cX4_feed 0 = .ok (.iload_n 2, 1) := by decide +kernel
theorem dX4_feed_1 : decode cX4_feed 1 = .ok (.i2l, 1) := by decide +kernel
theorem dX4_feed_2 : decode cX4_feed 2 = .ok (.lconst 1, 1) := by decide +kernel
theorem dX4_feed_3 : decode cX4_feed 3 = .ok (.ldc2_w 94, 3) := by decide +kernel
theorem dX4_feed_6 : decode cX4_feed 6 = .ok (.invokestatic 57, 3) := by decide +kernel
theorem dX4_feed_9 : decode cX4_feed 9 = .ok (.ifCond .ne 9, 3) := by decide +kernel
theorem dX4_feed_12 : decode cX4_feed 12 = .ok (.aload_n 0, 1) := by decide +kernel
theorem dX4_feed_13 : decode cX4_feed 13 = .ok (.iconst 0, 1) := by decide +kernel
theorem dX4_feed_14 : decode cX4_feed 14 = .ok (.invokevirtual 82, 3) := by decide +kernel
theorem dX4_feed_17 : decode cX4_feed 17 = .ok (.ireturn, 1) := by decide +kernel
theorem dX4_feed_18 : decode cX4_feed 18 = .ok (.aload_n 0, 1) := by decide +kernel
theorem dX4_feed_19 : decode cX4_feed 19 = .ok (.getfield 260, 3) := by decide +kernel
theorem dX4_feed_22 : decode cX4_feed 22 = .ok (.iload_n 2, 1) := by decide +kernel
theorem dX4_feed_23 : decode cX4_feed 23 = .ok (.iadd, 1) := by decide +kernel
theorem dX4_feed_24 : decode cX4_feed 24 = .ok (.bipush 120, 2) := by decide +kernel
theorem dX4_feed_26 : decode cX4_feed 26 = .ok (.if_icmp .le 9, 3) := by decide +kernel
theorem dX4_feed_29 : decode cX4_feed 29 = .ok (.aload_n 0, 1) := by decide +kernel
theorem dX4_feed_30 : decode cX4_feed 30 = .ok (.iconst 1, 1) := by decide +kernel
theorem dX4_feed_31 : decode cX4_feed 31 = .ok (.invokevirtual 82, 3) := by decide +kernel
theorem dX4_feed_34 : decode cX4_feed 34 = .ok (.ireturn, 1) := by decide +kernel
theorem dX4_feed_35 : decode cX4_feed 35 = .ok (.iload_n 2, 1) := by decide +kernel
theorem dX4_feed_36 : decode cX4_feed 36 = .ok (.iconst 1, 1) := by decide +kernel
theorem dX4_feed_37 : decode cX4_feed 37 = .ok (.isub, 1) := by decide +kernel
theorem dX4_feed_38 : decode cX4_feed 38 = .ok (.istore_n 3, 1) := by decide +kernel
theorem dX4_feed_39 : decode cX4_feed 39 = .ok (.iload_n 3, 1) := by decide +kernel
theorem dX4_feed_40 : decode cX4_feed 40 = .ok (.ifCond .lt 38, 3) := by decide +kernel
theorem dX4_feed_43 : decode cX4_feed 43 = .ok (.aload_n 0, 1) := by decide +kernel
theorem dX4_feed_44 : decode cX4_feed 44 = .ok (.getfield 25, 3) := by decide +kernel
theorem dX4_feed_47 : decode cX4_feed 47 = .ok (.aload_n 0, 1) := by decide +kernel
theorem dX4_feed_48 : decode cX4_feed 48 = .ok (.getfield 260, 3) := by decide +kernel
theorem dX4_feed_51 : decode cX4_feed 51 = .ok (.iload_n 1, 1) := by decide +kernel
theorem dX4_feed_52 : decode cX4_feed 52 = .ok (.bipush 8, 2) := by decide +kernel
theorem dX4_feed_54 : decode cX4_feed 54 = .ok (.iload_n 3, 1) := by decide +kernel
theorem dX4_feed_55 : decode cX4_feed 55 = .ok (.imul, 1) := by decide +kernel
theorem dX4_feed_56 : decode cX4_feed 56 = .ok (.ishr, 1) := by decide +kernel
theorem dX4_feed_57 : decode cX4_feed 57 = .ok (.sipush 255, 3) := by decide +kernel
theorem dX4_feed_60 : decode cX4_feed 60 = .ok (.iand, 1) := by decide +kernel
theorem dX4_feed_61 : decode cX4_feed 61 = .ok (.iastore, 1) := by decide +kernel
theorem dX4_feed_62 : decode cX4_feed 62 = .ok (.aload_n 0, 1) := by decide +kernel
theorem dX4_feed_63 : decode cX4_feed 63 = .ok (.dup, 1) := by decide +kernel
theorem dX4_feed_64 : decode cX4_feed 64 = .ok (.getfield 260, 3) := by decide +kernel
theorem dX4_feed_67 : decode cX4_feed 67 = .ok (.iconst 1, 1) := by decide +kernel
theorem dX4_feed_68 : decode cX4_feed 68 = .ok (.iadd, 1) := by decide +kernel
theorem dX4_feed_69 : decode cX4_feed 69 = .ok (.putfield 260, 3) := by decide +kernel
theorem dX4_feed_72 : decode cX4_feed 72 = .ok (.iinc 3 (-1), 3) := by decide +kernel
theorem dX4_feed_75 : decode cX4_feed 75 = .ok (.goto (-36), 3) := by decide +kernel
theorem dX4_feed_78 : decode cX4_feed 78 = .ok (.aload_n 0, 1) := by decide +kernel
theorem dX4_feed_79 : decode cX4_feed 79 = .ok (.getfield 260, 3) := by decide +kernel
theorem dX4_feed_82 : decode cX4_feed 82 = .ok (.ireturn, 1) := by decide +kernel
theorem dX4_wipe_0 : decode cX4_wipe 0 = .ok (.aload_n 0, 1) := by decide +kernel
theorem dX4_wipe_1 : decode cX4_wipe 1 = .ok (.getfield 260, 3) := by decide +kernel
theorem dX4_wipe_4 : decode cX4_wipe 4 = .ok (.istore_n 1, 1) := by decide +kernel
theorem dX4_wipe_5 : decode cX4_wipe 5 = .ok (.aload_n 0, 1) := by decide +kernel
theorem dX4_wipe_6 : decode cX4_wipe 6 = .ok (.iconst 0, 1) := by decide +kernel
theorem dX4_wipe_7 : decode cX4_wipe 7 = .ok (.putfield 260, 3) := by decide +kernel
theorem dX4_wipe_10 : decode cX4_wipe 10 = .ok (.iload_n 1, 1) := by decide +kernel
theorem dX4_wipe_11 : decode cX4_wipe 11 = .ok (.ireturn, 1) := by decide +kernel
theorem dX4_isByte_0 : decode cX4_isByte 0 = .ok (.iload_n 1, 1) := by decide +kernel
theorem dX4_isByte_1 : decode cX4_isByte 1 = .ok (.aload_n 0, 1) := by decide +kernel
theorem dX4_isByte_2 : decode cX4_isByte 2 = .ok (.getfield 260, 3) := by decide +kernel
theorem dX4_isByte_5 : decode cX4_isByte 5 = .ok (.if_icmp .ge 24, 3) := by decide +kernel
theorem dX4_isByte_8 : decode cX4_isByte 8 = .ok (.aload_n 0, 1) := by decide +kernel
theorem dX4_isByte_9 : decode cX4_isByte 9 = .ok (.getfield 25, 3) := by decide +kernel
theorem dX4_isByte_12 : decode cX4_isByte 12 = .ok (.iload_n 1, 1) := by decide +kernel
theorem dX4_isByte_13 : decode cX4_isByte 13 = .ok (.iaload, 1) := by decide +kernel
theorem dX4_isByte_14 : decode cX4_isByte 14 = .ok (.i2l, 1) := by decide +kernel
theorem dX4_isByte_15 : decode cX4_isByte 15 = .ok (.iload_n 2, 1) := by decide +kernel
theorem dX4_isByte_16 : decode cX4_isByte 16 = .ok (.i2l, 1) := by decide +kernel
theorem dX4_isByte_17 : decode cX4_isByte 17 = .ok (.iload_n 3, 1) := by decide +kernel
theorem dX4_isByte_18 : decode cX4_isByte 18 = .ok (.i2l, 1) := by decide +kernel
theorem dX4_isByte_19 : decode cX4_isByte 19 = .ok (.invokestatic 57, 3) := by decide +kernel
theorem dX4_isByte_22 : decode cX4_isByte 22 = .ok (.ifCond .eq 7, 3) := by decide +kernel
theorem dX4_isByte_25 : decode cX4_isByte 25 = .ok (.iconst 1, 1) := by decide +kernel
theorem dX4_isByte_26 : decode cX4_isByte 26 = .ok (.goto 4, 3) := by decide +kernel
theorem dX4_isByte_29 : decode cX4_isByte 29 = .ok (.iconst 0, 1) := by decide +kernel
theorem dX4_isByte_30 : decode cX4_isByte 30 = .ok (.ireturn, 1) := by decide +kernel
theorem dX4_next_0 : decode cX4_next 0 = .ok (.aload_n 0, 1) := by decide +kernel
theorem dX4_next_1 : decode cX4_next 1 = .ok (.aload_n 0, 1) := by decide +kernel
theorem dX4_next_2 : decode cX4_next 2 = .ok (.getfield 263, 3) := by decide +kernel
theorem dX4_next_5 : decode cX4_next 5 = .ok (.putfield 266, 3) := by decide +kernel
theorem dX4_next_8 : decode cX4_next 8 = .ok (.aload_n 0, 1) := by decide +kernel
theorem dX4_next_9 : decode cX4_next 9 = .ok (.aload_n 0, 1) := by decide +kernel
theorem dX4_next_10 : decode cX4_next 10 = .ok (.getfield 266, 3) := by decide +kernel
theorem dX4_next_13 : decode cX4_next 13 = .ok (.bipush 32, 2) := by decide +kernel
theorem dX4_next_15 : decode cX4_next 15 = .ok (.bipush 32, 2) := by decide +kernel
theorem dX4_next_17 : decode cX4_next 17 = .ok (.invokevirtual 269, 3) := by decide +kernel
theorem dX4_next_20 : decode cX4_next 20 = .ok (.ifCond .eq 16, 3) := by decide +kernel
theorem dX4_next_23 : decode cX4_next 23 = .ok (.aload_n 0, 1) := by decide +kernel
theorem dX4_next_24 : decode cX4_next 24 = .ok (.dup, 1) := by decide +kernel
theorem dX4_next_25 : decode cX4_next 25 = .ok (.getfield 266, 3) := by decide +kernel
theorem dX4_next_28 : decode cX4_next 28 = .ok (.iconst 1, 1) := by decide +kernel
theorem dX4_next_29 : decode cX4_next 29 = .ok (.iadd, 1) := by decide +kernel
theorem dX4_next_30 : decode cX4_next 30 = .ok (.putfield 266, 3) := by decide +kernel
theorem dX4_next_33 : decode cX4_next 33 = .ok (.goto (-25), 3) := by decide +kernel
theorem dX4_next_36 : decode cX4_next 36 = .ok (.aload_n 0, 1) := by decide +kernel
theorem dX4_next_37 : decode cX4_next 37 = .ok (.aload_n 0, 1) := by decide +kernel
theorem dX4_next_38 : decode cX4_next 38 = .ok (.getfield 266, 3) := by decide +kernel
theorem dX4_next_41 : decode cX4_next 41 = .ok (.putfield 263, 3) := by decide +kernel
theorem dX4_next_44 : decode cX4_next 44 = .ok (.aload_n 0, 1) := by decide +kernel
theorem dX4_next_45 : decode cX4_next 45 = .ok (.aload_n 0, 1) := by decide +kernel
theorem dX4_next_46 : decode cX4_next 46 = .ok (.getfield 266, 3) := by decide +kernel
theorem dX4_next_49 : decode cX4_next 49 = .ok (.bipush 97, 2) := by decide +kernel
theorem dX4_next_51 : decode cX4_next 51 = .ok (.bipush 122, 2) := by decide +kernel
theorem dX4_next_53 : decode cX4_next 53 = .ok (.invokevirtual 269, 3) := by decide +kernel
theorem dX4_next_56 : decode cX4_next 56 = .ok (.istore_n 1, 1) := by decide +kernel
theorem dX4_next_57 : decode cX4_next 57 = .ok (.aload_n 0, 1) := by decide +kernel
theorem dX4_next_58 : decode cX4_next 58 = .ok (.aload_n 0, 1) := by decide +kernel
theorem dX4_next_59 : decode cX4_next 59 = .ok (.getfield 266, 3) := by decide +kernel
theorem dX4_next_62 : decode cX4_next 62 = .ok (.bipush 48, 2) := by decide +kernel
theorem dX4_next_64 : decode cX4_next 64 = .ok (.bipush 57, 2) := by decide +kernel
theorem dX4_next_66 : decode cX4_next 66 = .ok (.invokevirtual 269, 3) := by decide +kernel
theorem dX4_next_69 : decode cX4_next 69 = .ok (.istore_n 2, 1) := by decide +kernel
theorem dX4_next_70 : decode cX4_next 70 = .ok (.iload_n 1, 1) := by decide +kernel
theorem dX4_next_71 : decode cX4_next 71 = .ok (.ifCond .eq 18, 3) := by decide +kernel
theorem dX4_next_74 : decode cX4_next 74 = .ok (.aload_n 0, 1) := by decide +kernel
theorem dX4_next_75 : decode cX4_next 75 = .ok (.aload_n 0, 1) := by decide +kernel
theorem dX4_next_76 : decode cX4_next 76 = .ok (.getfield 263, 3) := by decide +kernel
theorem dX4_next_79 : decode cX4_next 79 = .ok (.bipush 97, 2) := by decide +kernel
theorem dX4_next_81 : decode cX4_next 81 = .ok (.bipush 122, 2) := by decide +kernel
theorem dX4_next_83 : decode cX4_next 83 = .ok (.invokevirtual 269, 3) := by decide +kernel
theorem dX4_next_86 : decode cX4_next 86 = .ok (.ifCond .ne 22, 3) := by decide +kernel
theorem dX4_next_89 : decode cX4_next 89 = .ok (.iload_n 2, 1) := by decide +kernel
theorem dX4_next_90 : decode cX4_next 90 = .ok (.ifCond .eq 31, 3) := by decide +kernel
theorem dX4_next_93 : decode cX4_next 93 = .ok (.aload_n 0, 1) := by decide +kernel
theorem dX4_next_94 : decode cX4_next 94 = .ok (.aload_n 0, 1) := by decide +kernel
theorem dX4_next_95 : decode cX4_next 95 = .ok (.getfield 263, 3) := by decide +kernel
theorem dX4_next_98 : decode cX4_next 98 = .ok (.bipush 48, 2) := by decide +kernel
theorem dX4_next_100 : decode cX4_next 100 = .ok (.bipush 57, 2) := by decide +kernel
theorem dX4_next_102 : decode cX4_next 102 = .ok (.invokevirtual 269, 3) := by decide +kernel
theorem dX4_next_105 : decode cX4_next 105 = .ok (.ifCond .eq 16, 3) := by decide +kernel
theorem dX4_next_108 : decode cX4_next 108 = .ok (.aload_n 0, 1) := by decide +kernel
theorem dX4_next_109 : decode cX4_next 109 = .ok (.dup, 1) := by decide +kernel
theorem dX4_next_110 : decode cX4_next 110 = .ok (.getfield 263, 3) := by decide +kernel
theorem dX4_next_113 : decode cX4_next 113 = .ok (.iconst 1, 1) := by decide +kernel
theorem dX4_next_114 : decode cX4_next 114 = .ok (.iadd, 1) := by decide +kernel
theorem dX4_next_115 : decode cX4_next 115 = .ok (.putfield 263, 3) := by decide +kernel
theorem dX4_next_118 : decode cX4_next 118 = .ok (.goto (-48), 3) := by decide +kernel
theorem dX4_next_121 : decode cX4_next 121 = .ok (.aload_n 0, 1) := by decide +kernel
theorem dX4_next_122 : decode cX4_next 122 = .ok (.dup, 1) := by decide +kernel
theorem dX4_next_123 : decode cX4_next 123 = .ok (.getfield 263, 3) := by decide +kernel
theorem dX4_next_126 : decode cX4_next 126 = .ok (.iload_n 1, 1) := by decide +kernel
theorem dX4_next_127 : decode cX4_next 127 = .ok (.ifCond .ne 22, 3) := by decide +kernel
theorem dX4_next_130 : decode cX4_next 130 = .ok (.iload_n 2, 1) := by decide +kernel
theorem dX4_next_131 : decode cX4_next 131 = .ok (.ifCond .ne 18, 3) := by decide +kernel
theorem dX4_next_134 : decode cX4_next 134 = .ok (.aload_n 0, 1) := by decide +kernel
theorem dX4_next_135 : decode cX4_next 135 = .ok (.getfield 266, 3) := by decide +kernel
theorem dX4_next_138 : decode cX4_next 138 = .ok (.aload_n 0, 1) := by decide +kernel
theorem dX4_next_139 : decode cX4_next 139 = .ok (.getfield 260, 3) := by decide +kernel
theorem dX4_next_142 : decode cX4_next 142 = .ok (.if_icmp .ge 7, 3) := by decide +kernel
theorem dX4_next_145 : decode cX4_next 145 = .ok (.iconst 1, 1) := by decide +kernel
theorem dX4_next_146 : decode cX4_next 146 = .ok (.goto 4, 3) := by decide +kernel
theorem dX4_next_149 : decode cX4_next 149 = .ok (.iconst 0, 1) := by decide +kernel
theorem dX4_next_150 : decode cX4_next 150 = .ok (.iadd, 1) := by decide +kernel
theorem dX4_next_151 : decode cX4_next 151 = .ok (.putfield 263, 3) := by decide +kernel
theorem dX4_next_154 : decode cX4_next 154 = .ok (.return_, 1) := by decide +kernel
theorem dX4_isWord_0 : decode cX4_isWord 0 = .ok (.aload_n 0, 1) := by decide +kernel
theorem dX4_isWord_1 : decode cX4_isWord 1 = .ok (.getfield 272, 3) := by decide +kernel
theorem dX4_isWord_4 : decode cX4_isWord 4 = .ok (.ifCond .ne 23, 3) := by decide +kernel
theorem dX4_isWord_7 : decode cX4_isWord 7 = .ok (.aload_n 0, 1) := by decide +kernel
theorem dX4_isWord_8 : decode cX4_isWord 8 = .ok (.getfield 263, 3) := by decide +kernel
theorem dX4_isWord_11 : decode cX4_isWord 11 = .ok (.aload_n 0, 1) := by decide +kernel
theorem dX4_isWord_12 : decode cX4_isWord 12 = .ok (.getfield 266, 3) := by decide +kernel
theorem dX4_isWord_15 : decode cX4_isWord 15 = .ok (.isub, 1) := by decide +kernel
theorem dX4_isWord_16 : decode cX4_isWord 16 = .ok (.aload_n 1, 1) := by decide +kernel
theorem dX4_isWord_17 : decode cX4_isWord 17 = .ok (.invokevirtual 276, 3) := by decide +kernel
theorem dX4_isWord_20 : decode cX4_isWord 20 = .ok (.if_icmp .ne 7, 3) := by decide +kernel
theorem dX4_isWord_23 : decode cX4_isWord 23 = .ok (.iconst 1, 1) := by decide +kernel
theorem dX4_isWord_24 : decode cX4_isWord 24 = .ok (.goto 4, 3) := by decide +kernel
theorem dX4_isWord_27 : decode cX4_isWord 27 = .ok (.iconst 0, 1) := by decide +kernel
theorem dX4_isWord_28 : decode cX4_isWord 28 = .ok (.istore_n 2, 1) := by decide +kernel
theorem dX4_isWord_29 : decode cX4_isWord 29 = .ok (.iconst 0, 1) := by decide +kernel
theorem dX4_isWord_30 : decode cX4_isWord 30 = .ok (.istore_n 3, 1) := by decide +kernel
theorem dX4_isWord_31 : decode cX4_isWord 31 = .ok (.iload_n 2, 1) := by decide +kernel
theorem dX4_isWord_32 : decode cX4_isWord 32 = .ok (.ifCond .eq 42, 3) := by decide +kernel
theorem dX4_isWord_35 : decode cX4_isWord 35 = .ok (.iload_n 3, 1) := by decide +kernel
theorem dX4_isWord_36 : decode cX4_isWord 36 = .ok (.aload_n 1, 1) := by decide +kernel
theorem dX4_isWord_37 : decode cX4_isWord 37 = .ok (.invokevirtual 276, 3) := by decide +kernel
theorem dX4_isWord_40 : decode cX4_isWord 40 = .ok (.if_icmp .ge 34, 3) := by decide +kernel
theorem dX4_isWord_43 : decode cX4_isWord 43 = .ok (.aload_n 0, 1) := by decide +kernel
theorem dX4_isWord_44 : decode cX4_isWord 44 = .ok (.getfield 25, 3) := by decide +kernel
theorem dX4_isWord_47 : decode cX4_isWord 47 = .ok (.aload_n 0, 1) := by decide +kernel
theorem dX4_isWord_48 : decode cX4_isWord 48 = .ok (.getfield 266, 3) := by decide +kernel
theorem dX4_isWord_51 : decode cX4_isWord 51 = .ok (.iload_n 3, 1) := by decide +kernel
theorem dX4_isWord_52 : decode cX4_isWord 52 = .ok (.iadd, 1) := by decide +kernel
theorem dX4_isWord_53 : decode cX4_isWord 53 = .ok (.iaload, 1) := by decide +kernel
theorem dX4_isWord_54 : decode cX4_isWord 54 = .ok (.aload_n 1, 1) := by decide +kernel
theorem dX4_isWord_55 : decode cX4_isWord 55 = .ok (.iload_n 3, 1) := by decide +kernel
theorem dX4_isWord_56 : decode cX4_isWord 56 = .ok (.invokevirtual 281, 3) := by decide +kernel
theorem dX4_isWord_59 : decode cX4_isWord 59 = .ok (.if_icmp .ne 7, 3) := by decide +kernel
theorem dX4_isWord_62 : decode cX4_isWord 62 = .ok (.iconst 1, 1) := by decide +kernel
theorem dX4_isWord_63 : decode cX4_isWord 63 = .ok (.goto 4, 3) := by decide +kernel
theorem dX4_isWord_66 : decode cX4_isWord 66 = .ok (.iconst 0, 1) := by decide +kernel
theorem dX4_isWord_67 : decode cX4_isWord 67 = .ok (.istore_n 2, 1) := by decide +kernel
theorem dX4_isWord_68 : decode cX4_isWord 68 = .ok (.iinc 3 1, 3) := by decide +kernel
theorem dX4_isWord_71 : decode cX4_isWord 71 = .ok (.goto (-40), 3) := by decide +kernel
theorem dX4_isWord_74 : decode cX4_isWord 74 = .ok (.iload_n 2, 1) := by decide +kernel
theorem dX4_isWord_75 : decode cX4_isWord 75 = .ok (.ireturn, 1) := by decide +kernel
theorem dX4_must_0 : decode cX4_must 0 = .ok (.aload_n 0, 1) := by decide +kernel
theorem dX4_must_1 : decode cX4_must 1 = .ok (.aload_n 0, 1) := by decide +kernel
theorem dX4_must_2 : decode cX4_must 2 = .ok (.getfield 272, 3) := by decide +kernel
theorem dX4_must_5 : decode cX4_must 5 = .ok (.ifCond .ne 7, 3) := by decide +kernel
theorem dX4_must_8 : decode cX4_must 8 = .ok (.iload_n 1, 1) := by decide +kernel
theorem dX4_must_9 : decode cX4_must 9 = .ok (.ifCond .ne 7, 3) := by decide +kernel
theorem dX4_must_12 : decode cX4_must 12 = .ok (.iconst 1, 1) := by decide +kernel
theorem dX4_must_13 : decode cX4_must 13 = .ok (.goto 4, 3) := by decide +kernel
theorem dX4_must_16 : decode cX4_must 16 = .ok (.iconst 0, 1) := by decide +kernel
theorem dX4_must_17 : decode cX4_must 17 = .ok (.putfield 272, 3) := by decide +kernel
theorem dX4_must_20 : decode cX4_must 20 = .ok (.aload_n 0, 1) := by decide +kernel
theorem dX4_must_21 : decode cX4_must 21 = .ok (.getfield 272, 3) := by decide +kernel
theorem dX4_must_24 : decode cX4_must 24 = .ok (.ifCond .ne 7, 3) := by decide +kernel
theorem dX4_must_27 : decode cX4_must 27 = .ok (.aload_n 0, 1) := by decide +kernel
theorem dX4_must_28 : decode cX4_must 28 = .ok (.invokevirtual 285, 3) := by decide +kernel
theorem dX4_must_31 : decode cX4_must 31 = .ok (.return_, 1) := by decide +kernel
theorem dX4_takes_0 : decode cX4_takes 0 = .ok (.aload_n 0, 1) := by decide +kernel
theorem dX4_takes_1 : decode cX4_takes 1 = .ok (.aload_n 1, 1) := by decide +kernel
theorem dX4_takes_2 : decode cX4_takes 2 = .ok (.invokevirtual 288, 3) := by decide +kernel
theorem dX4_takes_5 : decode cX4_takes 5 = .ok (.istore_n 2, 1) := by decide +kernel
theorem dX4_takes_6 : decode cX4_takes 6 = .ok (.iload_n 2, 1) := by decide +kernel
theorem dX4_takes_7 : decode cX4_takes 7 = .ok (.ifCond .eq 7, 3) := by decide +kernel
theorem dX4_takes_10 : decode cX4_takes 10 = .ok (.aload_n 0, 1) := by decide +kernel
theorem dX4_takes_11 : decode cX4_takes 11 = .ok (.invokevirtual 285, 3) := by decide +kernel
theorem dX4_takes_14 : decode cX4_takes 14 = .ok (.iload_n 2, 1) := by decide +kernel
theorem dX4_takes_15 : decode cX4_takes 15 = .ok (.ireturn, 1) := by decide +kernel
theorem dX4_numberRead_0 : decode cX4_numberRead 0 = .ok (.aload_n 0, 1) := by decide +kernel
theorem dX4_numberRead_1 : decode cX4_numberRead 1 = .ok (.aload_n 0, 1) := by decide +kernel
theorem dX4_numberRead_2 : decode cX4_numberRead 2 = .ok (.getfield 266, 3) := by decide +kernel
theorem dX4_numberRead_5 : decode cX4_numberRead 5 = .ok (.bipush 48, 2) := by decide +kernel
theorem dX4_numberRead_7 : decode cX4_numberRead 7 = .ok (.bipush 57, 2) := by decide +kernel
theorem dX4_numberRead_9 : decode cX4_numberRead 9 = .ok (.invokevirtual 269, 3) := by decide +kernel
theorem dX4_numberRead_12 : decode cX4_numberRead 12 = .ok (.ifCond .eq 7, 3) := by decide +kernel
theorem dX4_numberRead_15 : decode cX4_numberRead 15 = .ok (.iconst 0, 1) := by decide +kernel
theorem dX4_numberRead_16 : decode cX4_numberRead 16 = .ok (.goto 4, 3) := by decide +kernel
theorem dX4_numberRead_19 : decode cX4_numberRead 19 = .ok (.iconst (-1), 1) := by decide +kernel
theorem dX4_numberRead_20 : decode cX4_numberRead 20 = .ok (.istore_n 3, 1) := by decide +kernel
theorem dX4_numberRead_21 : decode cX4_numberRead 21 = .ok (.aload_n 0, 1) := by decide +kernel
theorem dX4_numberRead_22 : decode cX4_numberRead 22 = .ok (.getfield 266, 3) := by decide +kernel
theorem dX4_numberRead_25 : decode cX4_numberRead 25 = .ok (.istore 4, 2) := by decide +kernel
theorem dX4_numberRead_27 : decode cX4_numberRead 27 = .ok (.iload 4, 2) := by decide +kernel
theorem dX4_numberRead_29 : decode cX4_numberRead 29 = .ok (.aload_n 0, 1) := by decide +kernel
theorem dX4_numberRead_30 : decode cX4_numberRead 30 = .ok (.getfield 263, 3) := by decide +kernel
theorem dX4_numberRead_33 : decode cX4_numberRead 33 = .ok (.if_icmp .ge 39, 3) := by decide +kernel
theorem dX4_numberRead_36 : decode cX4_numberRead 36 = .ok (.iload_n 3, 1) := by decide +kernel
theorem dX4_numberRead_37 : decode cX4_numberRead 37 = .ok (.ifCond .lt 35, 3) := by decide +kernel
theorem dX4_numberRead_40 : decode cX4_numberRead 40 = .ok (.iload_n 3, 1) := by decide +kernel
theorem dX4_numberRead_41 : decode cX4_numberRead 41 = .ok (.ldc 151, 2) := by decide +kernel
theorem dX4_numberRead_43 : decode cX4_numberRead 43 = .ok (.if_icmp .le 7, 3) := by decide +kernel
theorem dX4_numberRead_46 : decode cX4_numberRead 46 = .ok (.iload_n 3, 1) := by decide +kernel
theorem dX4_numberRead_47 : decode cX4_numberRead 47 = .ok (.goto 18, 3) := by decide +kernel
theorem dX4_numberRead_50 : decode cX4_numberRead 50 = .ok (.bipush 10, 2) := by decide +kernel
theorem dX4_numberRead_52 : decode cX4_numberRead 52 = .ok (.iload_n 3, 1) := by decide +kernel
theorem dX4_numberRead_53 : decode cX4_numberRead 53 = .ok (.imul, 1) := by decide +kernel
theorem dX4_numberRead_54 : decode cX4_numberRead 54 = .ok (.aload_n 0, 1) := by decide +kernel
theorem dX4_numberRead_55 : decode cX4_numberRead 55 = .ok (.getfield 25, 3) := by decide +kernel
theorem dX4_numberRead_58 : decode cX4_numberRead 58 = .ok (.iload 4, 2) := by decide +kernel
theorem dX4_numberRead_60 : decode cX4_numberRead 60 = .ok (.iaload, 1) := by decide +kernel
theorem dX4_numberRead_61 : decode cX4_numberRead 61 = .ok (.iadd, 1) := by decide +kernel
theorem dX4_numberRead_62 : decode cX4_numberRead 62 = .ok (.bipush 48, 2) := by decide +kernel
theorem dX4_numberRead_64 : decode cX4_numberRead 64 = .ok (.isub, 1) := by decide +kernel
theorem dX4_numberRead_65 : decode cX4_numberRead 65 = .ok (.istore_n 3, 1) := by decide +kernel
theorem dX4_numberRead_66 : decode cX4_numberRead 66 = .ok (.iinc 4 1, 3) := by decide +kernel
theorem dX4_numberRead_69 : decode cX4_numberRead 69 = .ok (.goto (-42), 3) := by decide +kernel
theorem dX4_numberRead_72 : decode cX4_numberRead 72 = .ok (.aload_n 0, 1) := by decide +kernel
theorem dX4_numberRead_73 : decode cX4_numberRead 73 = .ok (.iload_n 3, 1) := by decide +kernel
theorem dX4_numberRead_74 : decode cX4_numberRead 74 = .ok (.i2l, 1) := by decide +kernel
theorem dX4_numberRead_75 : decode cX4_numberRead 75 = .ok (.iload_n 1, 1) := by decide +kernel
theorem dX4_numberRead_76 : decode cX4_numberRead 76 = .ok (.i2l, 1) := by decide +kernel
theorem dX4_numberRead_77 : decode cX4_numberRead 77 = .ok (.iload_n 2, 1) := by decide +kernel
theorem dX4_numberRead_78 : decode cX4_numberRead 78 = .ok (.i2l, 1) := by decide +kernel
theorem dX4_numberRead_79 : decode cX4_numberRead 79 = .ok (.invokestatic 57, 3) := by decide +kernel
theorem dX4_numberRead_82 : decode cX4_numberRead 82 = .ok (.invokevirtual 292, 3) := by decide +kernel
theorem dX4_numberRead_85 : decode cX4_numberRead 85 = .ok (.iload_n 3, 1) := by decide +kernel
theorem dX4_numberRead_86 : decode cX4_numberRead 86 = .ok (.ireturn, 1) := by decide +kernel
theorem dX4_kindHere_0 : decode cX4_kindHere 0 = .ok (.aload_n 0, 1) := by decide +kernel
theorem dX4_kindHere_1 : decode cX4_kindHere 1 = .ok (.ldc_w 296, 3) := by decide +kernel
theorem dX4_kindHere_4 : decode cX4_kindHere 4 = .ok (.invokevirtual 288, 3) := by decide +kernel
theorem dX4_kindHere_7 : decode cX4_kindHere 7 = .ok (.ifCond .eq 7, 3) := by decide +kernel
theorem dX4_kindHere_10 : decode cX4_kindHere 10 = .ok (.iconst 0, 1) := by decide +kernel
theorem dX4_kindHere_11 : decode cX4_kindHere 11 = .ok (.goto 32, 3) := by decide +kernel
theorem dX4_kindHere_14 : decode cX4_kindHere 14 = .ok (.aload_n 0, 1) := by decide +kernel
theorem dX4_kindHere_15 : decode cX4_kindHere 15 = .ok (.ldc_w 298, 3) := by decide +kernel
theorem dX4_kindHere_18 : decode cX4_kindHere 18 = .ok (.invokevirtual 288, 3) := by decide +kernel
theorem dX4_kindHere_21 : decode cX4_kindHere 21 = .ok (.ifCond .eq 7, 3) := by decide +kernel
theorem dX4_kindHere_24 : decode cX4_kindHere 24 = .ok (.iconst 1, 1) := by decide +kernel
theorem dX4_kindHere_25 : decode cX4_kindHere 25 = .ok (.goto 18, 3) := by decide +kernel
theorem dX4_kindHere_28 : decode cX4_kindHere 28 = .ok (.aload_n 0, 1) := by decide +kernel
theorem dX4_kindHere_29 : decode cX4_kindHere 29 = .ok (.ldc_w 300, 3) := by decide +kernel
theorem dX4_kindHere_32 : decode cX4_kindHere 32 = .ok (.invokevirtual 288, 3) := by decide +kernel
theorem dX4_kindHere_35 : decode cX4_kindHere 35 = .ok (.ifCond .eq 7, 3) := by decide +kernel
theorem dX4_kindHere_38 : decode cX4_kindHere 38 = .ok (.iconst 2, 1) := by decide +kernel
theorem dX4_kindHere_39 : decode cX4_kindHere 39 = .ok (.goto 4, 3) := by decide +kernel
theorem dX4_kindHere_42 : decode cX4_kindHere 42 = .ok (.iconst (-1), 1) := by decide +kernel
theorem dX4_kindHere_43 : decode cX4_kindHere 43 = .ok (.istore_n 1, 1) := by decide +kernel
theorem dX4_kindHere_44 : decode cX4_kindHere 44 = .ok (.aload_n 0, 1) := by decide +kernel
theorem dX4_kindHere_45 : decode cX4_kindHere 45 = .ok (.ldc_w 302, 3) := by decide +kernel
theorem dX4_kindHere_48 : decode cX4_kindHere 48 = .ok (.invokevirtual 288, 3) := by decide +kernel
theorem dX4_kindHere_51 : decode cX4_kindHere 51 = .ok (.ifCond .eq 7, 3) := by decide +kernel
theorem dX4_kindHere_54 : decode cX4_kindHere 54 = .ok (.iconst 3, 1) := by decide +kernel
theorem dX4_kindHere_55 : decode cX4_kindHere 55 = .ok (.goto 32, 3) := by decide +kernel
theorem dX4_kindHere_58 : decode cX4_kindHere 58 = .ok (.aload_n 0, 1) := by decide +kernel
theorem dX4_kindHere_59 : decode cX4_kindHere 59 = .ok (.ldc_w 304, 3) := by decide +kernel
theorem dX4_kindHere_62 : decode cX4_kindHere 62 = .ok (.invokevirtual 288, 3) := by decide +kernel
theorem dX4_kindHere_65 : decode cX4_kindHere 65 = .ok (.ifCond .eq 7, 3) := by decide +kernel
theorem dX4_kindHere_68 : decode cX4_kindHere 68 = .ok (.iconst 4, 1) := by decide +kernel
theorem dX4_kindHere_69 : decode cX4_kindHere 69 = .ok (.goto 18, 3) := by decide +kernel
theorem dX4_kindHere_72 : decode cX4_kindHere 72 = .ok (.aload_n 0, 1) := by decide +kernel
theorem dX4_kindHere_73 : decode cX4_kindHere 73 = .ok (.ldc_w 306, 3) := by decide +kernel
theorem dX4_kindHere_76 : decode cX4_kindHere 76 = .ok (.invokevirtual 288, 3) := by decide +kernel
theorem dX4_kindHere_79 : decode cX4_kindHere 79 = .ok (.ifCond .eq 7, 3) := by decide +kernel
theorem dX4_kindHere_82 : decode cX4_kindHere 82 = .ok (.iconst 5, 1) := by decide +kernel
theorem dX4_kindHere_83 : decode cX4_kindHere 83 = .ok (.goto 4, 3) := by decide +kernel
theorem dX4_kindHere_86 : decode cX4_kindHere 86 = .ok (.iconst (-1), 1) := by decide +kernel
theorem dX4_kindHere_87 : decode cX4_kindHere 87 = .ok (.istore_n 2, 1) := by decide +kernel
theorem dX4_kindHere_88 : decode cX4_kindHere 88 = .ok (.iload_n 1, 1) := by decide +kernel
theorem dX4_kindHere_89 : decode cX4_kindHere 89 = .ok (.ifCond .lt 7, 3) := by decide +kernel
theorem dX4_kindHere_92 : decode cX4_kindHere 92 = .ok (.iload_n 1, 1) := by decide +kernel
theorem dX4_kindHere_93 : decode cX4_kindHere 93 = .ok (.goto 27, 3) := by decide +kernel
theorem dX4_kindHere_96 : decode cX4_kindHere 96 = .ok (.iload_n 2, 1) := by decide +kernel
theorem dX4_kindHere_97 : decode cX4_kindHere 97 = .ok (.ifCond .lt 7, 3) := by decide +kernel
theorem dX4_kindHere_100 : decode cX4_kindHere 100 = .ok (.iload_n 2, 1) := by decide +kernel
theorem dX4_kindHere_101 : decode cX4_kindHere 101 = .ok (.goto 19, 3) := by decide +kernel
theorem dX4_kindHere_104 : decode cX4_kindHere 104 = .ok (.aload_n 0, 1) := by decide +kernel
theorem dX4_kindHere_105 : decode cX4_kindHere 105 = .ok (.ldc_w 308, 3) := by decide +kernel
theorem dX4_kindHere_108 : decode cX4_kindHere 108 = .ok (.invokevirtual 288, 3) := by decide +kernel
theorem dX4_kindHere_111 : decode cX4_kindHere 111 = .ok (.ifCond .eq 8, 3) := by decide +kernel
theorem dX4_kindHere_114 : decode cX4_kindHere 114 = .ok (.bipush 6, 2) := by decide +kernel
theorem dX4_kindHere_116 : decode cX4_kindHere 116 = .ok (.goto 4, 3) := by decide +kernel
theorem dX4_kindHere_119 : decode cX4_kindHere 119 = .ok (.iconst (-1), 1) := by decide +kernel
theorem dX4_kindHere_120 : decode cX4_kindHere 120 = .ok (.ireturn, 1) := by decide +kernel
theorem dX4_whisperTold_0 : decode cX4_whisperTold 0 = .ok (.aload_n 0, 1) := by decide +kernel
theorem dX4_whisperTold_1 : decode cX4_whisperTold 1 = .ok (.aload_n 0, 1) := by decide +kernel
theorem dX4_whisperTold_2 : decode cX4_whisperTold 2 = .ok (.getfield 9, 3) := by decide +kernel
theorem dX4_whisperTold_5 : decode cX4_whisperTold 5 = .ok (.iconst 1, 1) := by decide +kernel
theorem dX4_whisperTold_6 : decode cX4_whisperTold 6 = .ok (.iaload, 1) := by decide +kernel
theorem dX4_whisperTold_7 : decode cX4_whisperTold 7 = .ok (.bipush 8, 2) := by decide +kernel
theorem dX4_whisperTold_9 : decode cX4_whisperTold 9 = .ok (.if_icmp .ge 7, 3) := by decide +kernel
theorem dX4_whisperTold_12 : decode cX4_whisperTold 12 = .ok (.iconst 1, 1) := by decide +kernel
theorem dX4_whisperTold_13 : decode cX4_whisperTold 13 = .ok (.goto 4, 3) := by decide +kernel
theorem dX4_whisperTold_16 : decode cX4_whisperTold 16 = .ok (.iconst 0, 1) := by decide +kernel
theorem dX4_whisperTold_17 : decode cX4_whisperTold 17 = .ok (.invokevirtual 292, 3) := by decide +kernel
theorem dX4_whisperTold_20 : decode cX4_whisperTold 20 = .ok (.aload_n 0, 1) := by decide +kernel
theorem dX4_whisperTold_21 : decode cX4_whisperTold 21 = .ok (.getfield 272, 3) := by decide +kernel
theorem dX4_whisperTold_24 : decode cX4_whisperTold 24 = .ok (.ifCond .eq 4, 3) := by decide +kernel
theorem dX4_whisperTold_27 : decode cX4_whisperTold 27 = .ok (.return_, 1) := by decide +kernel
theorem dX4_whisperTold_28 : decode cX4_whisperTold 28 = .ok (.aload_n 0, 1) := by decide +kernel
theorem dX4_whisperTold_29 : decode cX4_whisperTold 29 = .ok (.iload_n 1, 1) := by decide +kernel
theorem dX4_whisperTold_30 : decode cX4_whisperTold 30 = .ok (.iconst 0, 1) := by decide +kernel
theorem dX4_whisperTold_31 : decode cX4_whisperTold 31 = .ok (.iconst 1, 1) := by decide +kernel
theorem dX4_whisperTold_32 : decode cX4_whisperTold 32 = .ok (.invokevirtual 113, 3) := by decide +kernel
theorem dX4_whisperTold_35 : decode cX4_whisperTold 35 = .ok (.istore_n 2, 1) := by decide +kernel
theorem dX4_whisperTold_36 : decode cX4_whisperTold 36 = .ok (.aload_n 0, 1) := by decide +kernel
theorem dX4_whisperTold_37 : decode cX4_whisperTold 37 = .ok (.ldc_w 310, 3) := by decide +kernel
theorem dX4_whisperTold_40 : decode cX4_whisperTold 40 = .ok (.invokevirtual 312, 3) := by decide +kernel
theorem dX4_whisperTold_43 : decode cX4_whisperTold 43 = .ok (.ifCond .eq 16, 3) := by decide +kernel
theorem dX4_whisperTold_46 : decode cX4_whisperTold 46 = .ok (.aload_n 0, 1) := by decide +kernel
theorem dX4_whisperTold_47 : decode cX4_whisperTold 47 = .ok (.iload_n 2, 1) := by decide +kernel
theorem dX4_whisperTold_48 : decode cX4_whisperTold 48 = .ok (.iconst 1, 1) := by decide +kernel
theorem dX4_whisperTold_49 : decode cX4_whisperTold 49 = .ok (.aload_n 0, 1) := by decide +kernel
theorem dX4_whisperTold_50 : decode cX4_whisperTold 50 = .ok (.iconst 0, 1) := by decide +kernel
theorem dX4_whisperTold_51 : decode cX4_whisperTold 51 = .ok (.bipush 15, 2) := by decide +kernel
theorem dX4_whisperTold_53 : decode cX4_whisperTold 53 = .ok (.invokevirtual 315, 3) := by decide +kernel
theorem dX4_whisperTold_56 : decode cX4_whisperTold 56 = .ok (.invokevirtual 107, 3) := by decide +kernel
theorem dX4_whisperTold_59 : decode cX4_whisperTold 59 = .ok (.aload_n 0, 1) := by decide +kernel
theorem dX4_whisperTold_60 : decode cX4_whisperTold 60 = .ok (.ldc_w 318, 3) := by decide +kernel
theorem dX4_whisperTold_63 : decode cX4_whisperTold 63 = .ok (.invokevirtual 312, 3) := by decide +kernel
theorem dX4_whisperTold_66 : decode cX4_whisperTold 66 = .ok (.ifCond .eq 17, 3) := by decide +kernel
theorem dX4_whisperTold_69 : decode cX4_whisperTold 69 = .ok (.aload_n 0, 1) := by decide +kernel
theorem dX4_whisperTold_70 : decode cX4_whisperTold 70 = .ok (.iload_n 2, 1) := by decide +kernel
theorem dX4_whisperTold_71 : decode cX4_whisperTold 71 = .ok (.iconst 2, 1) := by decide +kernel
theorem dX4_whisperTold_72 : decode cX4_whisperTold 72 = .ok (.aload_n 0, 1) := by decide +kernel
theorem dX4_whisperTold_73 : decode cX4_whisperTold 73 = .ok (.iconst 1, 1) := by decide +kernel
theorem dX4_whisperTold_74 : decode cX4_whisperTold 74 = .ok (.sipush 999, 3) := by decide +kernel
theorem dX4_whisperTold_77 : decode cX4_whisperTold 77 = .ok (.invokevirtual 315, 3) := by decide +kernel
theorem dX4_whisperTold_80 : decode cX4_whisperTold 80 = .ok (.invokevirtual 107, 3) := by decide +kernel
theorem dX4_whisperTold_83 : decode cX4_whisperTold 83 = .ok (.return_, 1) := by decide +kernel
theorem dX4_partTold_0 : decode cX4_partTold 0 = .ok (.aload_n 0, 1) := by decide +kernel
theorem dX4_partTold_1 : decode cX4_partTold 1 = .ok (.aload_n 2, 1) := by decide +kernel
theorem dX4_partTold_2 : decode cX4_partTold 2 = .ok (.invokevirtual 312, 3) := by decide +kernel
theorem dX4_partTold_5 : decode cX4_partTold 5 = .ok (.ifCond .eq 29, 3) := by decide +kernel
theorem dX4_partTold_8 : decode cX4_partTold 8 = .ok (.aload_n 0, 1) := by decide +kernel
theorem dX4_partTold_9 : decode cX4_partTold 9 = .ok (.iconst 0, 1) := by decide +kernel
theorem dX4_partTold_10 : decode cX4_partTold 10 = .ok (.iload_n 3, 1) := by decide +kernel
theorem dX4_partTold_11 : decode cX4_partTold 11 = .ok (.invokestatic 96, 3) := by decide +kernel
theorem dX4_partTold_14 : decode cX4_partTold 14 = .ok (.invokevirtual 315, 3) := by decide +kernel
theorem dX4_partTold_17 : decode cX4_partTold 17 = .ok (.istore 4, 2) := by decide +kernel
theorem dX4_partTold_19 : decode cX4_partTold 19 = .ok (.aload_n 0, 1) := by decide +kernel
theorem dX4_partTold_20 : decode cX4_partTold 20 = .ok (.getfield 272, 3) := by decide +kernel
theorem dX4_partTold_23 : decode cX4_partTold 23 = .ok (.ifCond .ne 11, 3) := by decide +kernel
theorem dX4_partTold_26 : decode cX4_partTold 26 = .ok (.aload_n 0, 1) := by decide +kernel
theorem dX4_partTold_27 : decode cX4_partTold 27 = .ok (.iload_n 1, 1) := by decide +kernel
theorem dX4_partTold_28 : decode cX4_partTold 28 = .ok (.iload_n 3, 1) := by decide +kernel
theorem dX4_partTold_29 : decode cX4_partTold 29 = .ok (.iload 4, 2) := by decide +kernel
theorem dX4_partTold_31 : decode cX4_partTold 31 = .ok (.invokevirtual 40, 3) := by decide +kernel
theorem dX4_partTold_34 : decode cX4_partTold 34 = .ok (.return_, 1) := by decide +kernel
theorem dX4_item_0 : decode cX4_item 0 = .ok (.aload_n 0, 1) := by decide +kernel
theorem dX4_item_1 : decode cX4_item 1 = .ok (.invokevirtual 320, 3) := by decide +kernel
theorem dX4_item_4 : decode cX4_item 4 = .ok (.istore_n 1, 1) := by decide +kernel
theorem dX4_item_5 : decode cX4_item 5 = .ok (.iload_n 1, 1) := by decide +kernel
theorem dX4_item_6 : decode cX4_item 6 = .ok (.ifCond .lt 11, 3) := by decide +kernel
theorem dX4_item_9 : decode cX4_item 9 = .ok (.aload_n 0, 1) := by decide +kernel
theorem dX4_item_10 : decode cX4_item 10 = .ok (.iload_n 1, 1) := by decide +kernel
theorem dX4_item_11 : decode cX4_item 11 = .ok (.invokevirtual 323, 3) := by decide +kernel
theorem dX4_item_14 : decode cX4_item 14 = .ok (.goto 125, 3) := by decide +kernel
theorem dX4_item_17 : decode cX4_item 17 = .ok (.aload_n 0, 1) := by decide +kernel
theorem dX4_item_18 : decode cX4_item 18 = .ok (.ldc_w 326, 3) := by decide +kernel
theorem dX4_item_21 : decode cX4_item 21 = .ok (.invokevirtual 312, 3) := by decide +kernel
theorem dX4_item_24 : decode cX4_item 24 = .ok (.ifCond .eq 50, 3) := by decide +kernel
theorem dX4_item_27 : decode cX4_item 27 = .ok (.aload_n 0, 1) := by decide +kernel
theorem dX4_item_28 : decode cX4_item 28 = .ok (.iconst 0, 1) := by decide +kernel
theorem dX4_item_29 : decode cX4_item 29 = .ok (.bipush 15, 2) := by decide +kernel
theorem dX4_item_31 : decode cX4_item 31 = .ok (.invokevirtual 315, 3) := by decide +kernel
theorem dX4_item_34 : decode cX4_item 34 = .ok (.istore_n 2, 1) := by decide +kernel
theorem dX4_item_35 : decode cX4_item 35 = .ok (.aload_n 0, 1) := by decide +kernel
theorem dX4_item_36 : decode cX4_item 36 = .ok (.iload_n 2, 1) := by decide +kernel
theorem dX4_item_37 : decode cX4_item 37 = .ok (.ldc_w 328, 3) := by decide +kernel
theorem dX4_item_40 : decode cX4_item 40 = .ok (.iconst 0, 1) := by decide +kernel
theorem dX4_item_41 : decode cX4_item 41 = .ok (.invokevirtual 330, 3) := by decide +kernel
theorem dX4_item_44 : decode cX4_item 44 = .ok (.aload_n 0, 1) := by decide +kernel
theorem dX4_item_45 : decode cX4_item 45 = .ok (.iload_n 2, 1) := by decide +kernel
theorem dX4_item_46 : decode cX4_item 46 = .ok (.ldc_w 334, 3) := by decide +kernel
theorem dX4_item_49 : decode cX4_item 49 = .ok (.iconst 1, 1) := by decide +kernel
theorem dX4_item_50 : decode cX4_item 50 = .ok (.invokevirtual 330, 3) := by decide +kernel
theorem dX4_item_53 : decode cX4_item 53 = .ok (.aload_n 0, 1) := by decide +kernel
theorem dX4_item_54 : decode cX4_item 54 = .ok (.iload_n 2, 1) := by decide +kernel
theorem dX4_item_55 : decode cX4_item 55 = .ok (.ldc_w 336, 3) := by decide +kernel
theorem dX4_item_58 : decode cX4_item 58 = .ok (.iconst 2, 1) := by decide +kernel
theorem dX4_item_59 : decode cX4_item 59 = .ok (.invokevirtual 330, 3) := by decide +kernel
theorem dX4_item_62 : decode cX4_item 62 = .ok (.aload_n 0, 1) := by decide +kernel
theorem dX4_item_63 : decode cX4_item 63 = .ok (.iload_n 2, 1) := by decide +kernel
theorem dX4_item_64 : decode cX4_item 64 = .ok (.ldc_w 338, 3) := by decide +kernel
theorem dX4_item_67 : decode cX4_item 67 = .ok (.iconst 4, 1) := by decide +kernel
theorem dX4_item_68 : decode cX4_item 68 = .ok (.invokevirtual 330, 3) := by decide +kernel
theorem dX4_item_71 : decode cX4_item 71 = .ok (.goto 68, 3) := by decide +kernel
theorem dX4_item_74 : decode cX4_item 74 = .ok (.aload_n 0, 1) := by decide +kernel
theorem dX4_item_75 : decode cX4_item 75 = .ok (.ldc_w 340, 3) := by decide +kernel
theorem dX4_item_78 : decode cX4_item 78 = .ok (.invokevirtual 312, 3) := by decide +kernel
theorem dX4_item_81 : decode cX4_item 81 = .ok (.ifCond .eq 20, 3) := by decide +kernel
theorem dX4_item_84 : decode cX4_item 84 = .ok (.aload_n 0, 1) := by decide +kernel
theorem dX4_item_85 : decode cX4_item 85 = .ok (.getfield 9, 3) := by decide +kernel
theorem dX4_item_88 : decode cX4_item 88 = .ok (.iconst 3, 1) := by decide +kernel
theorem dX4_item_89 : decode cX4_item 89 = .ok (.aload_n 0, 1) := by decide +kernel
theorem dX4_item_90 : decode cX4_item 90 = .ok (.iconst 0, 1) := by decide +kernel
theorem dX4_item_91 : decode cX4_item 91 = .ok (.ldc_w 342, 3) := by decide +kernel
theorem dX4_item_94 : decode cX4_item 94 = .ok (.invokevirtual 315, 3) := by decide +kernel
theorem dX4_item_97 : decode cX4_item 97 = .ok (.iastore, 1) := by decide +kernel
theorem dX4_item_98 : decode cX4_item 98 = .ok (.goto 41, 3) := by decide +kernel
theorem dX4_item_101 : decode cX4_item 101 = .ok (.aload_n 0, 1) := by decide +kernel
theorem dX4_item_102 : decode cX4_item 102 = .ok (.ldc_w 343, 3) := by decide +kernel
theorem dX4_item_105 : decode cX4_item 105 = .ok (.invokevirtual 312, 3) := by decide +kernel
theorem dX4_item_108 : decode cX4_item 108 = .ok (.ifCond .eq 13, 3) := by decide +kernel
theorem dX4_item_111 : decode cX4_item 111 = .ok (.aload_n 0, 1) := by decide +kernel
theorem dX4_item_112 : decode cX4_item 112 = .ok (.getfield 9, 3) := by decide +kernel
theorem dX4_item_115 : decode cX4_item 115 = .ok (.iconst 2, 1) := by decide +kernel
theorem dX4_item_116 : decode cX4_item 116 = .ok (.iconst 1, 1) := by decide +kernel
theorem dX4_item_117 : decode cX4_item 117 = .ok (.iastore, 1) := by decide +kernel
theorem dX4_item_118 : decode cX4_item 118 = .ok (.goto 21, 3) := by decide +kernel
theorem dX4_item_121 : decode cX4_item 121 = .ok (.aload_n 0, 1) := by decide +kernel
theorem dX4_item_122 : decode cX4_item 122 = .ok (.aload_n 0, 1) := by decide +kernel
theorem dX4_item_123 : decode cX4_item 123 = .ok (.ldc_w 345, 3) := by decide +kernel
theorem dX4_item_126 : decode cX4_item 126 = .ok (.invokevirtual 288, 3) := by decide +kernel
theorem dX4_item_129 : decode cX4_item 129 = .ok (.invokevirtual 292, 3) := by decide +kernel
theorem dX4_item_132 : decode cX4_item 132 = .ok (.aload_n 0, 1) := by decide +kernel
theorem dX4_item_133 : decode cX4_item 133 = .ok (.getfield 9, 3) := by decide +kernel
theorem dX4_item_136 : decode cX4_item 136 = .ok (.iconst 2, 1) := by decide +kernel
theorem dX4_item_137 : decode cX4_item 137 = .ok (.iconst 0, 1) := by decide +kernel
theorem dX4_item_138 : decode cX4_item 138 = .ok (.iastore, 1) := by decide +kernel
theorem dX4_item_139 : decode cX4_item 139 = .ok (.return_, 1) := by decide +kernel
theorem dX4_text_0 : decode cX4_text 0 = .ok (.aload_n 0, 1) := by decide +kernel
theorem dX4_text_1 : decode cX4_text 1 = .ok (.invokevirtual 168, 3) := by decide +kernel
theorem dX4_text_4 : decode cX4_text 4 = .ok (.aload_n 0, 1) := by decide +kernel
theorem dX4_text_5 : decode cX4_text 5 = .ok (.iconst 0, 1) := by decide +kernel
theorem dX4_text_6 : decode cX4_text 6 = .ok (.putfield 272, 3) := by decide +kernel
theorem dX4_text_9 : decode cX4_text 9 = .ok (.aload_n 0, 1) := by decide +kernel
theorem dX4_text_10 : decode cX4_text 10 = .ok (.iconst 0, 1) := by decide +kernel
theorem dX4_text_11 : decode cX4_text 11 = .ok (.putfield 263, 3) := by decide +kernel
theorem dX4_text_14 : decode cX4_text 14 = .ok (.aload_n 0, 1) := by decide +kernel
theorem dX4_text_15 : decode cX4_text 15 = .ok (.invokevirtual 285, 3) := by decide +kernel
theorem dX4_text_18 : decode cX4_text 18 = .ok (.aload_n 0, 1) := by decide +kernel
theorem dX4_text_19 : decode cX4_text 19 = .ok (.invokevirtual 347, 3) := by decide +kernel
theorem dX4_text_22 : decode cX4_text 22 = .ok (.iconst 1, 1) := by decide +kernel
theorem dX4_text_23 : decode cX4_text 23 = .ok (.istore_n 1, 1) := by decide +kernel
theorem dX4_text_24 : decode cX4_text 24 = .ok (.aload_n 0, 1) := by decide +kernel
theorem dX4_text_25 : decode cX4_text 25 = .ok (.getfield 272, 3) := by decide +kernel
theorem dX4_text_28 : decode cX4_text 28 = .ok (.ifCond .ne 35, 3) := by decide +kernel
theorem dX4_text_31 : decode cX4_text 31 = .ok (.aload_n 0, 1) := by decide +kernel
theorem dX4_text_32 : decode cX4_text 32 = .ok (.getfield 266, 3) := by decide +kernel
theorem dX4_text_35 : decode cX4_text 35 = .ok (.aload_n 0, 1) := by decide +kernel
theorem dX4_text_36 : decode cX4_text 36 = .ok (.getfield 260, 3) := by decide +kernel
theorem dX4_text_39 : decode cX4_text 39 = .ok (.if_icmp .ge 24, 3) := by decide +kernel
theorem dX4_text_42 : decode cX4_text 42 = .ok (.aload_n 0, 1) := by decide +kernel
theorem dX4_text_43 : decode cX4_text 43 = .ok (.aload_n 0, 1) := by decide +kernel
theorem dX4_text_44 : decode cX4_text 44 = .ok (.ldc_w 350, 3) := by decide +kernel
theorem dX4_text_47 : decode cX4_text 47 = .ok (.invokevirtual 288, 3) := by decide +kernel
theorem dX4_text_50 : decode cX4_text 50 = .ok (.invokevirtual 292, 3) := by decide +kernel
theorem dX4_text_53 : decode cX4_text 53 = .ok (.aload_n 0, 1) := by decide +kernel
theorem dX4_text_54 : decode cX4_text 54 = .ok (.invokevirtual 347, 3) := by decide +kernel
theorem dX4_text_57 : decode cX4_text 57 = .ok (.iinc 1 1, 3) := by decide +kernel
theorem dX4_text_60 : decode cX4_text 60 = .ok (.goto (-36), 3) := by decide +kernel
theorem dX4_text_63 : decode cX4_text 63 = .ok (.aload_n 0, 1) := by decide +kernel
theorem dX4_text_64 : decode cX4_text 64 = .ok (.iconst 0, 1) := by decide +kernel
theorem dX4_text_65 : decode cX4_text 65 = .ok (.putfield 260, 3) := by decide +kernel
theorem dX4_text_68 : decode cX4_text 68 = .ok (.aload_n 0, 1) := by decide +kernel
theorem dX4_text_69 : decode cX4_text 69 = .ok (.getfield 272, 3) := by decide +kernel
theorem dX4_text_72 : decode cX4_text 72 = .ok (.ifCond .eq 14, 3) := by decide +kernel
theorem dX4_text_75 : decode cX4_text 75 = .ok (.aload_n 0, 1) := by decide +kernel
theorem dX4_text_76 : decode cX4_text 76 = .ok (.invokevirtual 171, 3) := by decide +kernel
theorem dX4_text_79 : decode cX4_text 79 = .ok (.iconst (-1), 1) := by decide +kernel
theorem dX4_text_80 : decode cX4_text 80 = .ok (.aload_n 0, 1) := by decide +kernel
theorem dX4_text_81 : decode cX4_text 81 = .ok (.getfield 266, 3) := by decide +kernel
theorem dX4_text_84 : decode cX4_text 84 = .ok (.isub, 1) := by decide +kernel
theorem dX4_text_85 : decode cX4_text 85 = .ok (.ireturn, 1) := by decide +kernel
theorem dX4_text_86 : decode cX4_text 86 = .ok (.iload_n 1, 1) := by decide +kernel
theorem dX4_text_87 : decode cX4_text 87 = .ok (.ireturn, 1) := by decide +kernel
theorem dX4_isSpot_0 : decode cX4_isSpot 0 = .ok (.iload_n 0, 1) := by decide +kernel
theorem dX4_isSpot_1 : decode cX4_isSpot 1 = .ok (.i2l, 1) := by decide +kernel
theorem dX4_isSpot_2 : decode cX4_isSpot 2 = .ok (.lconst 0, 1) := by decide +kernel
theorem dX4_isSpot_3 : decode cX4_isSpot 3 = .ok (.ldc2_w 352, 3) := by decide +kernel
theorem dX4_isSpot_6 : decode cX4_isSpot 6 = .ok (.invokestatic 57, 3) := by decide +kernel
theorem dX4_isSpot_9 : decode cX4_isSpot 9 = .ok (.ireturn, 1) := by decide +kernel
theorem dX4_hold_0 : decode cX4_hold 0 = .ok (.iload_n 1, 1) := by decide +kernel
theorem dX4_hold_1 : decode cX4_hold 1 = .ok (.invokestatic 354, 3) := by decide +kernel
theorem dX4_hold_4 : decode cX4_hold 4 = .ok (.ifCond .eq 16, 3) := by decide +kernel
theorem dX4_hold_7 : decode cX4_hold 7 = .ok (.iload_n 2, 1) := by decide +kernel
theorem dX4_hold_8 : decode cX4_hold 8 = .ok (.iconst (-1), 1) := by decide +kernel
theorem dX4_hold_9 : decode cX4_hold 9 = .ok (.if_icmp .eq 17, 3) := by decide +kernel
theorem dX4_hold_12 : decode cX4_hold 12 = .ok (.aload_n 0, 1) := by decide +kernel
theorem dX4_hold_13 : decode cX4_hold 13 = .ok (.iload_n 2, 1) := by decide +kernel
theorem dX4_hold_14 : decode cX4_hold 14 = .ok (.invokevirtual 117, 3) := by decide +kernel
theorem dX4_hold_17 : decode cX4_hold 17 = .ok (.ifCond .ne 9, 3) := by decide +kernel
theorem dX4_hold_20 : decode cX4_hold 20 = .ok (.aload_n 0, 1) := by decide +kernel
theorem dX4_hold_21 : decode cX4_hold 21 = .ok (.iconst 0, 1) := by decide +kernel
theorem dX4_hold_22 : decode cX4_hold 22 = .ok (.invokevirtual 82, 3) := by decide +kernel
theorem dX4_hold_25 : decode cX4_hold 25 = .ok (.ireturn, 1) := by decide +kernel
theorem dX4_hold_26 : decode cX4_hold 26 = .ok (.aload_n 0, 1) := by decide +kernel
theorem dX4_hold_27 : decode cX4_hold 27 = .ok (.getfield 9, 3) := by decide +kernel
theorem dX4_hold_30 : decode cX4_hold 30 = .ok (.bipush 109, 2) := by decide +kernel
theorem dX4_hold_32 : decode cX4_hold 32 = .ok (.iload_n 1, 1) := by decide +kernel
theorem dX4_hold_33 : decode cX4_hold 33 = .ok (.iadd, 1) := by decide +kernel
theorem dX4_hold_34 : decode cX4_hold 34 = .ok (.iload_n 2, 1) := by decide +kernel
theorem dX4_hold_35 : decode cX4_hold 35 = .ok (.iastore, 1) := by decide +kernel
theorem dX4_hold_36 : decode cX4_hold 36 = .ok (.iconst 1, 1) := by decide +kernel
theorem dX4_hold_37 : decode cX4_hold 37 = .ok (.ireturn, 1) := by decide +kernel
theorem dX4_as_0 : decode cX4_as 0 = .ok (.iload_n 1, 1) := by decide +kernel
theorem dX4_as_1 : decode cX4_as 1 = .ok (.invokestatic 354, 3) := by decide +kernel
theorem dX4_as_4 : decode cX4_as 4 = .ok (.ifCond .eq 10, 3) := by decide +kernel
theorem dX4_as_7 : decode cX4_as 7 = .ok (.iload_n 2, 1) := by decide +kernel
theorem dX4_as_8 : decode cX4_as 8 = .ok (.invokestatic 110, 3) := by decide +kernel
theorem dX4_as_11 : decode cX4_as 11 = .ok (.ifCond .ne 9, 3) := by decide +kernel
theorem dX4_as_14 : decode cX4_as 14 = .ok (.aload_n 0, 1) := by decide +kernel
theorem dX4_as_15 : decode cX4_as 15 = .ok (.iconst 0, 1) := by decide +kernel
theorem dX4_as_16 : decode cX4_as 16 = .ok (.invokevirtual 82, 3) := by decide +kernel
theorem dX4_as_19 : decode cX4_as 19 = .ok (.ireturn, 1) := by decide +kernel
theorem dX4_as_20 : decode cX4_as 20 = .ok (.aload_n 0, 1) := by decide +kernel
theorem dX4_as_21 : decode cX4_as 21 = .ok (.getfield 9, 3) := by decide +kernel
theorem dX4_as_24 : decode cX4_as 24 = .ok (.bipush 109, 2) := by decide +kernel
theorem dX4_as_26 : decode cX4_as 26 = .ok (.iload_n 1, 1) := by decide +kernel
theorem dX4_as_27 : decode cX4_as 27 = .ok (.iadd, 1) := by decide +kernel
theorem dX4_as_28 : decode cX4_as 28 = .ok (.iaload, 1) := by decide +kernel
theorem dX4_as_29 : decode cX4_as 29 = .ok (.istore_n 3, 1) := by decide +kernel
theorem dX4_as_30 : decode cX4_as 30 = .ok (.iload_n 3, 1) := by decide +kernel
theorem dX4_as_31 : decode cX4_as 31 = .ok (.ifCond .ge 9, 3) := by decide +kernel
theorem dX4_as_34 : decode cX4_as 34 = .ok (.aload_n 0, 1) := by decide +kernel
theorem dX4_as_35 : decode cX4_as 35 = .ok (.iconst 5, 1) := by decide +kernel
theorem dX4_as_36 : decode cX4_as 36 = .ok (.invokevirtual 82, 3) := by decide +kernel
theorem dX4_as_39 : decode cX4_as 39 = .ok (.ireturn, 1) := by decide +kernel
theorem dX4_as_40 : decode cX4_as 40 = .ok (.aload_n 0, 1) := by decide +kernel
theorem dX4_as_41 : decode cX4_as 41 = .ok (.iload_n 3, 1) := by decide +kernel
theorem dX4_as_42 : decode cX4_as 42 = .ok (.iconst 0, 1) := by decide +kernel
theorem dX4_as_43 : decode cX4_as 43 = .ok (.invokevirtual 69, 3) := by decide +kernel
theorem dX4_as_46 : decode cX4_as 46 = .ok (.iload_n 2, 1) := by decide +kernel
theorem dX4_as_47 : decode cX4_as 47 = .ok (.invokestatic 357, 3) := by decide +kernel
theorem dX4_as_50 : decode cX4_as 50 = .ok (.ifCond .eq 7, 3) := by decide +kernel
theorem dX4_as_53 : decode cX4_as 53 = .ok (.iload_n 3, 1) := by decide +kernel
theorem dX4_as_54 : decode cX4_as 54 = .ok (.goto 8, 3) := by decide +kernel
theorem dX4_as_57 : decode cX4_as 57 = .ok (.aload_n 0, 1) := by decide +kernel
theorem dX4_as_58 : decode cX4_as 58 = .ok (.iconst 2, 1) := by decide +kernel
theorem dX4_as_59 : decode cX4_as 59 = .ok (.invokevirtual 82, 3) := by decide +kernel
theorem dX4_as_62 : decode cX4_as 62 = .ok (.ireturn, 1) := by decide +kernel
theorem dX4_isSheet_0 : decode cX4_isSheet 0 = .ok (.iload_n 0, 1) := by decide +kernel
theorem dX4_isSheet_1 : decode cX4_isSheet 1 = .ok (.i2l, 1) := by decide +kernel
theorem dX4_isSheet_2 : decode cX4_isSheet 2 = .ok (.lconst 0, 1) := by decide +kernel
theorem dX4_isSheet_3 : decode cX4_isSheet 3 = .ok (.ldc2_w 360, 3) := by decide +kernel
theorem dX4_isSheet_6 : decode cX4_isSheet 6 = .ok (.invokestatic 57, 3) := by decide +kernel
theorem dX4_isSheet_9 : decode cX4_isSheet 9 = .ok (.ireturn, 1) := by decide +kernel
theorem dX4_sheet_0 : decode cX4_sheet 0 = .ok (.iload_n 2, 1) := by decide +kernel
theorem dX4_sheet_1 : decode cX4_sheet 1 = .ok (.ifCond .eq 21, 3) := by decide +kernel
theorem dX4_sheet_4 : decode cX4_sheet 4 = .ok (.iload_n 2, 1) := by decide +kernel
theorem dX4_sheet_5 : decode cX4_sheet 5 = .ok (.bipush 8, 2) := by decide +kernel
theorem dX4_sheet_7 : decode cX4_sheet 7 = .ok (.if_icmp .eq 15, 3) := by decide +kernel
theorem dX4_sheet_10 : decode cX4_sheet 10 = .ok (.iload_n 2, 1) := by decide +kernel
theorem dX4_sheet_11 : decode cX4_sheet 11 = .ok (.bipush 16, 2) := by decide +kernel
theorem dX4_sheet_13 : decode cX4_sheet 13 = .ok (.if_icmp .eq 9, 3) := by decide +kernel
theorem dX4_sheet_16 : decode cX4_sheet 16 = .ok (.iload_n 2, 1) := by decide +kernel
theorem dX4_sheet_17 : decode cX4_sheet 17 = .ok (.bipush 32, 2) := by decide +kernel
theorem dX4_sheet_19 : decode cX4_sheet 19 = .ok (.if_icmp .ne 7, 3) := by decide +kernel
theorem dX4_sheet_22 : decode cX4_sheet 22 = .ok (.iconst 1, 1) := by decide +kernel
theorem dX4_sheet_23 : decode cX4_sheet 23 = .ok (.goto 4, 3) := by decide +kernel
theorem dX4_sheet_26 : decode cX4_sheet 26 = .ok (.iconst 0, 1) := by decide +kernel
theorem dX4_sheet_27 : decode cX4_sheet 27 = .ok (.istore 4, 2) := by decide +kernel
theorem dX4_sheet_29 : decode cX4_sheet 29 = .ok (.iload_n 1, 1) := by decide +kernel
theorem dX4_sheet_30 : decode cX4_sheet 30 = .ok (.invokestatic 362, 3) := by decide +kernel
theorem dX4_sheet_33 : decode cX4_sheet 33 = .ok (.ifCond .eq 8, 3) := by decide +kernel
theorem dX4_sheet_36 : decode cX4_sheet 36 = .ok (.iload 4, 2) := by decide +kernel
theorem dX4_sheet_38 : decode cX4_sheet 38 = .ok (.ifCond .ne 9, 3) := by decide +kernel
theorem dX4_sheet_41 : decode cX4_sheet 41 = .ok (.aload_n 0, 1) := by decide +kernel
theorem dX4_sheet_42 : decode cX4_sheet 42 = .ok (.iconst 0, 1) := by decide +kernel
theorem dX4_sheet_43 : decode cX4_sheet 43 = .ok (.invokevirtual 82, 3) := by decide +kernel
theorem dX4_sheet_46 : decode cX4_sheet 46 = .ok (.ireturn, 1) := by decide +kernel
theorem dX4_sheet_47 : decode cX4_sheet 47 = .ok (.iload_n 3, 1) := by decide +kernel
theorem dX4_sheet_48 : decode cX4_sheet 48 = .ok (.ifCond .ge 10, 3) := by decide +kernel
theorem dX4_sheet_51 : decode cX4_sheet 51 = .ok (.aload_n 0, 1) := by decide +kernel
theorem dX4_sheet_52 : decode cX4_sheet 52 = .ok (.bipush 6, 2) := by decide +kernel
theorem dX4_sheet_54 : decode cX4_sheet 54 = .ok (.invokevirtual 82, 3) := by decide +kernel
theorem dX4_sheet_57 : decode cX4_sheet 57 = .ok (.ireturn, 1) := by decide +kernel
theorem dX4_sheet_58 : decode cX4_sheet 58 = .ok (.iload_n 3, 1) := by decide +kernel
theorem dX4_sheet_59 : decode cX4_sheet 59 = .ok (.bipush 40, 2) := by decide +kernel
theorem dX4_sheet_61 : decode cX4_sheet 61 = .ok (.if_icmp .le 9, 3) := by decide +kernel
theorem dX4_sheet_64 : decode cX4_sheet 64 = .ok (.aload_n 0, 1) := by decide +kernel
theorem dX4_sheet_65 : decode cX4_sheet 65 = .ok (.iconst 0, 1) := by decide +kernel
theorem dX4_sheet_66 : decode cX4_sheet 66 = .ok (.invokevirtual 82, 3) := by decide +kernel
theorem dX4_sheet_69 : decode cX4_sheet 69 = .ok (.ireturn, 1) := by decide +kernel
theorem dX4_sheet_70 : decode cX4_sheet 70 = .ok (.aload_n 0, 1) := by decide +kernel
theorem dX4_sheet_71 : decode cX4_sheet 71 = .ok (.getfield 28, 3) := by decide +kernel
theorem dX4_sheet_74 : decode cX4_sheet 74 = .ok (.iload_n 1, 1) := by decide +kernel
theorem dX4_sheet_75 : decode cX4_sheet 75 = .ok (.iload_n 2, 1) := by decide +kernel
theorem dX4_sheet_76 : decode cX4_sheet 76 = .ok (.iastore, 1) := by decide +kernel
theorem dX4_sheet_77 : decode cX4_sheet 77 = .ok (.aload_n 0, 1) := by decide +kernel
theorem dX4_sheet_78 : decode cX4_sheet 78 = .ok (.getfield 31, 3) := by decide +kernel
theorem dX4_sheet_81 : decode cX4_sheet 81 = .ok (.iload_n 1, 1) := by decide +kernel
theorem dX4_sheet_82 : decode cX4_sheet 82 = .ok (.iload_n 2, 1) := by decide +kernel
theorem dX4_sheet_83 : decode cX4_sheet 83 = .ok (.ifCond .ne 7, 3) := by decide +kernel
theorem dX4_sheet_86 : decode cX4_sheet 86 = .ok (.iconst 0, 1) := by decide +kernel
theorem dX4_sheet_87 : decode cX4_sheet 87 = .ok (.goto 4, 3) := by decide +kernel
theorem dX4_sheet_90 : decode cX4_sheet 90 = .ok (.iload_n 3, 1) := by decide +kernel
theorem dX4_sheet_91 : decode cX4_sheet 91 = .ok (.iastore, 1) := by decide +kernel
theorem dX4_sheet_92 : decode cX4_sheet 92 = .ok (.iconst 0, 1) := by decide +kernel
theorem dX4_sheet_93 : decode cX4_sheet 93 = .ok (.istore 5, 2) := by decide +kernel
theorem dX4_sheet_95 : decode cX4_sheet 95 = .ok (.iload 5, 2) := by decide +kernel
theorem dX4_sheet_97 : decode cX4_sheet 97 = .ok (.bipush 40, 2) := by decide +kernel
theorem dX4_sheet_99 : decode cX4_sheet 99 = .ok (.if_icmp .ge 22, 3) := by decide +kernel
theorem dX4_sheet_102 : decode cX4_sheet 102 = .ok (.aload_n 0, 1) := by decide +kernel
theorem dX4_sheet_103 : decode cX4_sheet 103 = .ok (.getfield 34, 3) := by decide +kernel
theorem dX4_sheet_106 : decode cX4_sheet 106 = .ok (.bipush 40, 2) := by decide +kernel
theorem dX4_sheet_108 : decode cX4_sheet 108 = .ok (.iload_n 1, 1) := by decide +kernel
theorem dX4_sheet_109 : decode cX4_sheet 109 = .ok (.imul, 1) := by decide +kernel
theorem dX4_sheet_110 : decode cX4_sheet 110 = .ok (.iload 5, 2) := by decide +kernel
theorem dX4_sheet_112 : decode cX4_sheet 112 = .ok (.iadd, 1) := by decide +kernel
theorem dX4_sheet_113 : decode cX4_sheet 113 = .ok (.iconst 0, 1) := by decide +kernel
theorem dX4_sheet_114 : decode cX4_sheet 114 = .ok (.iastore, 1) := by decide +kernel
theorem dX4_sheet_115 : decode cX4_sheet 115 = .ok (.iinc 5 1, 3) := by decide +kernel
theorem dX4_sheet_118 : decode cX4_sheet 118 = .ok (.goto (-23), 3) := by decide +kernel
theorem dX4_sheet_121 : decode cX4_sheet 121 = .ok (.aload_n 0, 1) := by decide +kernel
theorem dX4_sheet_122 : decode cX4_sheet 122 = .ok (.getfield 31, 3) := by decide +kernel
theorem dX4_sheet_125 : decode cX4_sheet 125 = .ok (.iload_n 1, 1) := by decide +kernel
theorem dX4_sheet_126 : decode cX4_sheet 126 = .ok (.iaload, 1) := by decide +kernel
theorem dX4_sheet_127 : decode cX4_sheet 127 = .ok (.ireturn, 1) := by decide +kernel
theorem dX4_lacks_0 : decode cX4_lacks 0 = .ok (.iload_n 1, 1) := by decide +kernel
theorem dX4_lacks_1 : decode cX4_lacks 1 = .ok (.invokestatic 362, 3) := by decide +kernel
theorem dX4_lacks_4 : decode cX4_lacks 4 = .ok (.ifCond .ne 7, 3) := by decide +kernel
theorem dX4_lacks_7 : decode cX4_lacks 7 = .ok (.iconst 0, 1) := by decide +kernel
theorem dX4_lacks_8 : decode cX4_lacks 8 = .ok (.goto 17, 3) := by decide +kernel
theorem dX4_lacks_11 : decode cX4_lacks 11 = .ok (.aload_n 0, 1) := by decide +kernel
theorem dX4_lacks_12 : decode cX4_lacks 12 = .ok (.getfield 28, 3) := by decide +kernel
theorem dX4_lacks_15 : decode cX4_lacks 15 = .ok (.iload_n 1, 1) := by decide +kernel
theorem dX4_lacks_16 : decode cX4_lacks 16 = .ok (.iaload, 1) := by decide +kernel
theorem dX4_lacks_17 : decode cX4_lacks 17 = .ok (.ifCond .ne 7, 3) := by decide +kernel
theorem dX4_lacks_20 : decode cX4_lacks 20 = .ok (.iconst 5, 1) := by decide +kernel
theorem dX4_lacks_21 : decode cX4_lacks 21 = .ok (.goto 4, 3) := by decide +kernel
theorem dX4_lacks_24 : decode cX4_lacks 24 = .ok (.iconst (-1), 1) := by decide +kernel
theorem dX4_lacks_25 : decode cX4_lacks 25 = .ok (.ireturn, 1) := by decide +kernel
theorem dX4_write_0 : decode cX4_write 0 = .ok (.aload_n 0, 1) := by decide +kernel
theorem dX4_write_1 : decode cX4_write 1 = .ok (.iload_n 1, 1) := by decide +kernel
theorem dX4_write_2 : decode cX4_write 2 = .ok (.invokevirtual 240, 3) := by decide +kernel
theorem dX4_write_5 : decode cX4_write 5 = .ok (.istore 4, 2) := by decide +kernel
theorem dX4_write_7 : decode cX4_write 7 = .ok (.iload 4, 2) := by decide +kernel
theorem dX4_write_9 : decode cX4_write 9 = .ok (.ifCond .lt 10, 3) := by decide +kernel
theorem dX4_write_12 : decode cX4_write 12 = .ok (.aload_n 0, 1) := by decide +kernel
theorem dX4_write_13 : decode cX4_write 13 = .ok (.iload 4, 2) := by decide +kernel
theorem dX4_write_15 : decode cX4_write 15 = .ok (.invokevirtual 82, 3) := by decide +kernel
theorem dX4_write_18 : decode cX4_write 18 = .ok (.ireturn, 1) := by decide +kernel
theorem dX4_write_19 : decode cX4_write 19 = .ok (.iload_n 2, 1) := by decide +kernel
theorem dX4_write_20 : decode cX4_write 20 = .ok (.i2l, 1) := by decide +kernel
theorem dX4_write_21 : decode cX4_write 21 = .ok (.lconst 0, 1) := by decide +kernel
theorem dX4_write_22 : decode cX4_write 22 = .ok (.aload_n 0, 1) := by decide +kernel
theorem dX4_write_23 : decode cX4_write 23 = .ok (.getfield 31, 3) := by decide +kernel
theorem dX4_write_26 : decode cX4_write 26 = .ok (.iload_n 1, 1) := by decide +kernel
theorem dX4_write_27 : decode cX4_write 27 = .ok (.iaload, 1) := by decide +kernel
theorem dX4_write_28 : decode cX4_write 28 = .ok (.iconst 1, 1) := by decide +kernel
theorem dX4_write_29 : decode cX4_write 29 = .ok (.isub, 1) := by decide +kernel
theorem dX4_write_30 : decode cX4_write 30 = .ok (.i2l, 1) := by decide +kernel
theorem dX4_write_31 : decode cX4_write 31 = .ok (.invokestatic 57, 3) := by decide +kernel
theorem dX4_write_34 : decode cX4_write 34 = .ok (.ifCond .ne 9, 3) := by decide +kernel
theorem dX4_write_37 : decode cX4_write 37 = .ok (.aload_n 0, 1) := by decide +kernel
theorem dX4_write_38 : decode cX4_write 38 = .ok (.iconst 0, 1) := by decide +kernel
theorem dX4_write_39 : decode cX4_write 39 = .ok (.invokevirtual 82, 3) := by decide +kernel
theorem dX4_write_42 : decode cX4_write 42 = .ok (.ireturn, 1) := by decide +kernel
theorem dX4_write_43 : decode cX4_write 43 = .ok (.aload_n 0, 1) := by decide +kernel
theorem dX4_write_44 : decode cX4_write 44 = .ok (.getfield 34, 3) := by decide +kernel
theorem dX4_write_47 : decode cX4_write 47 = .ok (.bipush 40, 2) := by decide +kernel
theorem dX4_write_49 : decode cX4_write 49 = .ok (.iload_n 1, 1) := by decide +kernel
theorem dX4_write_50 : decode cX4_write 50 = .ok (.imul, 1) := by decide +kernel
theorem dX4_write_51 : decode cX4_write 51 = .ok (.iload_n 2, 1) := by decide +kernel
theorem dX4_write_52 : decode cX4_write 52 = .ok (.iadd, 1) := by decide +kernel
theorem dX4_write_53 : decode cX4_write 53 = .ok (.aload_n 0, 1) := by decide +kernel
theorem dX4_write_54 : decode cX4_write 54 = .ok (.getfield 28, 3) := by decide +kernel
theorem dX4_write_57 : decode cX4_write 57 = .ok (.iload_n 1, 1) := by decide +kernel
theorem dX4_write_58 : decode cX4_write 58 = .ok (.iaload, 1) := by decide +kernel
theorem dX4_write_59 : decode cX4_write 59 = .ok (.bipush 8, 2) := by decide +kernel
theorem dX4_write_61 : decode cX4_write 61 = .ok (.if_icmp .ne 8, 3) := by decide +kernel
theorem dX4_write_64 : decode cX4_write 64 = .ok (.iload_n 3, 1) := by decide +kernel
theorem dX4_write_65 : decode cX4_write 65 = .ok (.i2b, 1) := by decide +kernel
theorem dX4_write_66 : decode cX4_write 66 = .ok (.goto 20, 3) := by decide +kernel
theorem dX4_write_69 : decode cX4_write 69 = .ok (.aload_n 0, 1) := by decide +kernel
theorem dX4_write_70 : decode cX4_write 70 = .ok (.getfield 28, 3) := by decide +kernel
theorem dX4_write_73 : decode cX4_write 73 = .ok (.iload_n 1, 1) := by decide +kernel
theorem dX4_write_74 : decode cX4_write 74 = .ok (.iaload, 1) := by decide +kernel
theorem dX4_write_75 : decode cX4_write 75 = .ok (.bipush 16, 2) := by decide +kernel
theorem dX4_write_77 : decode cX4_write 77 = .ok (.if_icmp .ne 8, 3) := by decide +kernel
theorem dX4_write_80 : decode cX4_write 80 = .ok (.iload_n 3, 1) := by decide +kernel
theorem dX4_write_81 : decode cX4_write 81 = .ok (.i2s, 1) := by decide +kernel
theorem dX4_write_82 : decode cX4_write 82 = .ok (.goto 4, 3) := by decide +kernel
theorem dX4_write_85 : decode cX4_write 85 = .ok (.iload_n 3, 1) := by decide +kernel
theorem dX4_write_86 : decode cX4_write 86 = .ok (.iastore, 1) := by decide +kernel
theorem dX4_write_87 : decode cX4_write 87 = .ok (.iconst 1, 1) := by decide +kernel
theorem dX4_write_88 : decode cX4_write 88 = .ok (.ireturn, 1) := by decide +kernel
theorem dX4_copy_0 : decode cX4_copy 0 = .ok (.iload_n 1, 1) := by decide +kernel
theorem dX4_copy_1 : decode cX4_copy 1 = .ok (.invokestatic 362, 3) := by decide +kernel
theorem dX4_copy_4 : decode cX4_copy 4 = .ok (.ifCond .eq 10, 3) := by decide +kernel
theorem dX4_copy_7 : decode cX4_copy 7 = .ok (.iload_n 3, 1) := by decide +kernel
theorem dX4_copy_8 : decode cX4_copy 8 = .ok (.invokestatic 362, 3) := by decide +kernel
theorem dX4_copy_11 : decode cX4_copy 11 = .ok (.ifCond .ne 9, 3) := by decide +kernel
theorem dX4_copy_14 : decode cX4_copy 14 = .ok (.aload_n 0, 1) := by decide +kernel
theorem dX4_copy_15 : decode cX4_copy 15 = .ok (.iconst 0, 1) := by decide +kernel
theorem dX4_copy_16 : decode cX4_copy 16 = .ok (.invokevirtual 82, 3) := by decide +kernel
theorem dX4_copy_19 : decode cX4_copy 19 = .ok (.ireturn, 1) := by decide +kernel
theorem dX4_copy_20 : decode cX4_copy 20 = .ok (.aload_n 0, 1) := by decide +kernel
theorem dX4_copy_21 : decode cX4_copy 21 = .ok (.getfield 28, 3) := by decide +kernel
theorem dX4_copy_24 : decode cX4_copy 24 = .ok (.iload_n 1, 1) := by decide +kernel
theorem dX4_copy_25 : decode cX4_copy 25 = .ok (.iaload, 1) := by decide +kernel
theorem dX4_copy_26 : decode cX4_copy 26 = .ok (.ifCond .eq 12, 3) := by decide +kernel
theorem dX4_copy_29 : decode cX4_copy 29 = .ok (.aload_n 0, 1) := by decide +kernel
theorem dX4_copy_30 : decode cX4_copy 30 = .ok (.getfield 28, 3) := by decide +kernel
theorem dX4_copy_33 : decode cX4_copy 33 = .ok (.iload_n 3, 1) := by decide +kernel
theorem dX4_copy_34 : decode cX4_copy 34 = .ok (.iaload, 1) := by decide +kernel
theorem dX4_copy_35 : decode cX4_copy 35 = .ok (.ifCond .ne 9, 3) := by decide +kernel
theorem dX4_copy_38 : decode cX4_copy 38 = .ok (.aload_n 0, 1) := by decide +kernel
theorem dX4_copy_39 : decode cX4_copy 39 = .ok (.iconst 5, 1) := by decide +kernel
theorem dX4_copy_40 : decode cX4_copy 40 = .ok (.invokevirtual 82, 3) := by decide +kernel
theorem dX4_copy_43 : decode cX4_copy 43 = .ok (.ireturn, 1) := by decide +kernel
theorem dX4_copy_44 : decode cX4_copy 44 = .ok (.aload_n 0, 1) := by decide +kernel
theorem dX4_copy_45 : decode cX4_copy 45 = .ok (.getfield 28, 3) := by decide +kernel
theorem dX4_copy_48 : decode cX4_copy 48 = .ok (.iload_n 1, 1) := by decide +kernel
theorem dX4_copy_49 : decode cX4_copy 49 = .ok (.iaload, 1) := by decide +kernel
theorem dX4_copy_50 : decode cX4_copy 50 = .ok (.aload_n 0, 1) := by decide +kernel
theorem dX4_copy_51 : decode cX4_copy 51 = .ok (.getfield 28, 3) := by decide +kernel
theorem dX4_copy_54 : decode cX4_copy 54 = .ok (.iload_n 3, 1) := by decide +kernel
theorem dX4_copy_55 : decode cX4_copy 55 = .ok (.iaload, 1) := by decide +kernel
theorem dX4_copy_56 : decode cX4_copy 56 = .ok (.if_icmp .eq 9, 3) := by decide +kernel
theorem dX4_copy_59 : decode cX4_copy 59 = .ok (.aload_n 0, 1) := by decide +kernel
theorem dX4_copy_60 : decode cX4_copy 60 = .ok (.iconst 2, 1) := by decide +kernel
theorem dX4_copy_61 : decode cX4_copy 61 = .ok (.invokevirtual 82, 3) := by decide +kernel
theorem dX4_copy_64 : decode cX4_copy 64 = .ok (.ireturn, 1) := by decide +kernel
theorem dX4_copy_65 : decode cX4_copy 65 = .ok (.iload 5, 2) := by decide +kernel
theorem dX4_copy_67 : decode cX4_copy 67 = .ok (.ifCond .lt 51, 3) := by decide +kernel
theorem dX4_copy_70 : decode cX4_copy 70 = .ok (.iload_n 2, 1) := by decide +kernel
theorem dX4_copy_71 : decode cX4_copy 71 = .ok (.ifCond .lt 47, 3) := by decide +kernel
theorem dX4_copy_74 : decode cX4_copy 74 = .ok (.iload 4, 2) := by decide +kernel
theorem dX4_copy_76 : decode cX4_copy 76 = .ok (.ifCond .lt 42, 3) := by decide +kernel
theorem dX4_copy_79 : decode cX4_copy 79 = .ok (.iload_n 2, 1) := by decide +kernel
theorem dX4_copy_80 : decode cX4_copy 80 = .ok (.i2l, 1) := by decide +kernel
theorem dX4_copy_81 : decode cX4_copy 81 = .ok (.iload 5, 2) := by decide +kernel
theorem dX4_copy_83 : decode cX4_copy 83 = .ok (.i2l, 1) := by decide +kernel
theorem dX4_copy_84 : decode cX4_copy 84 = .ok (.ladd, 1) := by decide +kernel
theorem dX4_copy_85 : decode cX4_copy 85 = .ok (.aload_n 0, 1) := by decide +kernel
theorem dX4_copy_86 : decode cX4_copy 86 = .ok (.getfield 31, 3) := by decide +kernel
theorem dX4_copy_89 : decode cX4_copy 89 = .ok (.iload_n 1, 1) := by decide +kernel
theorem dX4_copy_90 : decode cX4_copy 90 = .ok (.iaload, 1) := by decide +kernel
theorem dX4_copy_91 : decode cX4_copy 91 = .ok (.i2l, 1) := by decide +kernel
theorem dX4_copy_92 : decode cX4_copy 92 = .ok (.lcmp, 1) := by decide +kernel
theorem dX4_copy_93 : decode cX4_copy 93 = .ok (.ifCond .gt 25, 3) := by decide +kernel
theorem dX4_copy_96 : decode cX4_copy 96 = .ok (.iload 4, 2) := by decide +kernel
theorem dX4_copy_98 : decode cX4_copy 98 = .ok (.i2l, 1) := by decide +kernel
theorem dX4_copy_99 : decode cX4_copy 99 = .ok (.iload 5, 2) := by decide +kernel
theorem dX4_copy_101 : decode cX4_copy 101 = .ok (.i2l, 1) := by decide +kernel
theorem dX4_copy_102 : decode cX4_copy 102 = .ok (.ladd, 1) := by decide +kernel
theorem dX4_copy_103 : decode cX4_copy 103 = .ok (.aload_n 0, 1) := by decide +kernel
theorem dX4_copy_104 : decode cX4_copy 104 = .ok (.getfield 31, 3) := by decide +kernel
theorem dX4_copy_107 : decode cX4_copy 107 = .ok (.iload_n 3, 1) := by decide +kernel
theorem dX4_copy_108 : decode cX4_copy 108 = .ok (.iaload, 1) := by decide +kernel
theorem dX4_copy_109 : decode cX4_copy 109 = .ok (.i2l, 1) := by decide +kernel
theorem dX4_copy_110 : decode cX4_copy 110 = .ok (.lcmp, 1) := by decide +kernel
theorem dX4_copy_111 : decode cX4_copy 111 = .ok (.ifCond .gt 7, 3) := by decide +kernel
theorem dX4_copy_114 : decode cX4_copy 114 = .ok (.iconst 1, 1) := by decide +kernel
theorem dX4_copy_115 : decode cX4_copy 115 = .ok (.goto 4, 3) := by decide +kernel
theorem dX4_copy_118 : decode cX4_copy 118 = .ok (.iconst 0, 1) := by decide +kernel
theorem dX4_copy_119 : decode cX4_copy 119 = .ok (.istore 6, 2) := by decide +kernel
theorem dX4_copy_121 : decode cX4_copy 121 = .ok (.iload 6, 2) := by decide +kernel
theorem dX4_copy_123 : decode cX4_copy 123 = .ok (.ifCond .ne 9, 3) := by decide +kernel
theorem dX4_copy_126 : decode cX4_copy 126 = .ok (.aload_n 0, 1) := by decide +kernel
theorem dX4_copy_127 : decode cX4_copy 127 = .ok (.iconst 0, 1) := by decide +kernel
theorem dX4_copy_128 : decode cX4_copy 128 = .ok (.invokevirtual 82, 3) := by decide +kernel
theorem dX4_copy_131 : decode cX4_copy 131 = .ok (.ireturn, 1) := by decide +kernel
theorem dX4_copy_132 : decode cX4_copy 132 = .ok (.iconst 0, 1) := by decide +kernel
theorem dX4_copy_133 : decode cX4_copy 133 = .ok (.istore 7, 2) := by decide +kernel
theorem dX4_copy_135 : decode cX4_copy 135 = .ok (.iload 7, 2) := by decide +kernel
theorem dX4_copy_137 : decode cX4_copy 137 = .ok (.iload 5, 2) := by decide +kernel
theorem dX4_copy_139 : decode cX4_copy 139 = .ok (.if_icmp .ge 30, 3) := by decide +kernel
theorem dX4_copy_142 : decode cX4_copy 142 = .ok (.aload_n 0, 1) := by decide +kernel
theorem dX4_copy_143 : decode cX4_copy 143 = .ok (.getfield 37, 3) := by decide +kernel
theorem dX4_copy_146 : decode cX4_copy 146 = .ok (.iload 7, 2) := by decide +kernel
theorem dX4_copy_148 : decode cX4_copy 148 = .ok (.aload_n 0, 1) := by decide +kernel
theorem dX4_copy_149 : decode cX4_copy 149 = .ok (.getfield 34, 3) := by decide +kernel
theorem dX4_copy_152 : decode cX4_copy 152 = .ok (.bipush 40, 2) := by decide +kernel
theorem dX4_copy_154 : decode cX4_copy 154 = .ok (.iload_n 1, 1) := by decide +kernel
theorem dX4_copy_155 : decode cX4_copy 155 = .ok (.imul, 1) := by decide +kernel
theorem dX4_copy_156 : decode cX4_copy 156 = .ok (.iload_n 2, 1) := by decide +kernel
theorem dX4_copy_157 : decode cX4_copy 157 = .ok (.iadd, 1) := by decide +kernel
theorem dX4_copy_158 : decode cX4_copy 158 = .ok (.iload 7, 2) := by decide +kernel
theorem dX4_copy_160 : decode cX4_copy 160 = .ok (.iadd, 1) := by decide +kernel
theorem dX4_copy_161 : decode cX4_copy 161 = .ok (.iaload, 1) := by decide +kernel
theorem dX4_copy_162 : decode cX4_copy 162 = .ok (.iastore, 1) := by decide +kernel
theorem dX4_copy_163 : decode cX4_copy 163 = .ok (.iinc 7 1, 3) := by decide +kernel
theorem dX4_copy_166 : decode cX4_copy 166 = .ok (.goto (-31), 3) := by decide +kernel
theorem dX4_copy_169 : decode cX4_copy 169 = .ok (.iconst 0, 1) := by decide +kernel
theorem dX4_copy_170 : decode cX4_copy 170 = .ok (.istore 7, 2) := by decide +kernel
theorem dX4_copy_172 : decode cX4_copy 172 = .ok (.iload 7, 2) := by decide +kernel
theorem dX4_copy_174 : decode cX4_copy 174 = .ok (.iload 5, 2) := by decide +kernel
theorem dX4_copy_176 : decode cX4_copy 176 = .ok (.if_icmp .ge 31, 3) := by decide +kernel
theorem dX4_copy_179 : decode cX4_copy 179 = .ok (.aload_n 0, 1) := by decide +kernel
theorem dX4_copy_180 : decode cX4_copy 180 = .ok (.getfield 34, 3) := by decide +kernel
theorem dX4_copy_183 : decode cX4_copy 183 = .ok (.bipush 40, 2) := by decide +kernel
theorem dX4_copy_185 : decode cX4_copy 185 = .ok (.iload_n 3, 1) := by decide +kernel
theorem dX4_copy_186 : decode cX4_copy 186 = .ok (.imul, 1) := by decide +kernel
theorem dX4_copy_187 : decode cX4_copy 187 = .ok (.iload 4, 2) := by decide +kernel
theorem dX4_copy_189 : decode cX4_copy 189 = .ok (.iadd, 1) := by decide +kernel
theorem dX4_copy_190 : decode cX4_copy 190 = .ok (.iload 7, 2) := by decide +kernel
theorem dX4_copy_192 : decode cX4_copy 192 = .ok (.iadd, 1) := by decide +kernel
theorem dX4_copy_193 : decode cX4_copy 193 = .ok (.aload_n 0, 1) := by decide +kernel
theorem dX4_copy_194 : decode cX4_copy 194 = .ok (.getfield 37, 3) := by decide +kernel
theorem dX4_copy_197 : decode cX4_copy 197 = .ok (.iload 7, 2) := by decide +kernel
theorem dX4_copy_199 : decode cX4_copy 199 = .ok (.iaload, 1) := by decide +kernel
theorem dX4_copy_200 : decode cX4_copy 200 = .ok (.iastore, 1) := by decide +kernel
theorem dX4_copy_201 : decode cX4_copy 201 = .ok (.iinc 7 1, 3) := by decide +kernel
theorem dX4_copy_204 : decode cX4_copy 204 = .ok (.goto (-32), 3) := by decide +kernel
theorem dX4_copy_207 : decode cX4_copy 207 = .ok (.iload 5, 2) := by decide +kernel
theorem dX4_copy_209 : decode cX4_copy 209 = .ok (.ireturn, 1) := by decide +kernel
theorem dX4_load_0 : decode cX4_load 0 = .ok (.aload_n 0, 1) := by decide +kernel
theorem dX4_load_1 : decode cX4_load 1 = .ok (.iload_n 1, 1) := by decide +kernel
theorem dX4_load_2 : decode cX4_load 2 = .ok (.invokevirtual 240, 3) := by decide +kernel
theorem dX4_load_5 : decode cX4_load 5 = .ok (.istore_n 2, 1) := by decide +kernel
theorem dX4_load_6 : decode cX4_load 6 = .ok (.iload_n 2, 1) := by decide +kernel
theorem dX4_load_7 : decode cX4_load 7 = .ok (.ifCond .lt 9, 3) := by decide +kernel
theorem dX4_load_10 : decode cX4_load 10 = .ok (.aload_n 0, 1) := by decide +kernel
theorem dX4_load_11 : decode cX4_load 11 = .ok (.iload_n 2, 1) := by decide +kernel
theorem dX4_load_12 : decode cX4_load 12 = .ok (.invokevirtual 82, 3) := by decide +kernel
theorem dX4_load_15 : decode cX4_load 15 = .ok (.ireturn, 1) := by decide +kernel
theorem dX4_load_16 : decode cX4_load 16 = .ok (.iconst 0, 1) := by decide +kernel
theorem dX4_load_17 : decode cX4_load 17 = .ok (.istore_n 3, 1) := by decide +kernel
theorem dX4_load_18 : decode cX4_load 18 = .ok (.iload_n 3, 1) := by decide +kernel
theorem dX4_load_19 : decode cX4_load 19 = .ok (.aload_n 0, 1) := by decide +kernel
theorem dX4_load_20 : decode cX4_load 20 = .ok (.getfield 31, 3) := by decide +kernel
theorem dX4_load_23 : decode cX4_load 23 = .ok (.iload_n 1, 1) := by decide +kernel
theorem dX4_load_24 : decode cX4_load 24 = .ok (.iaload, 1) := by decide +kernel
theorem dX4_load_25 : decode cX4_load 25 = .ok (.if_icmp .ge 54, 3) := by decide +kernel
theorem dX4_load_28 : decode cX4_load 28 = .ok (.iload_n 3, 1) := by decide +kernel
theorem dX4_load_29 : decode cX4_load 29 = .ok (.bipush 16, 2) := by decide +kernel
theorem dX4_load_31 : decode cX4_load 31 = .ok (.if_icmp .ge 48, 3) := by decide +kernel
theorem dX4_load_34 : decode cX4_load 34 = .ok (.aload_n 0, 1) := by decide +kernel
theorem dX4_load_35 : decode cX4_load 35 = .ok (.getfield 34, 3) := by decide +kernel
theorem dX4_load_38 : decode cX4_load 38 = .ok (.bipush 40, 2) := by decide +kernel
theorem dX4_load_40 : decode cX4_load 40 = .ok (.iload_n 1, 1) := by decide +kernel
theorem dX4_load_41 : decode cX4_load 41 = .ok (.imul, 1) := by decide +kernel
theorem dX4_load_42 : decode cX4_load 42 = .ok (.iload_n 3, 1) := by decide +kernel
theorem dX4_load_43 : decode cX4_load 43 = .ok (.iadd, 1) := by decide +kernel
theorem dX4_load_44 : decode cX4_load 44 = .ok (.iaload, 1) := by decide +kernel
theorem dX4_load_45 : decode cX4_load 45 = .ok (.i2l, 1) := by decide +kernel
theorem dX4_load_46 : decode cX4_load 46 = .ok (.lconst 0, 1) := by decide +kernel
theorem dX4_load_47 : decode cX4_load 47 = .ok (.ldc2_w 365, 3) := by decide +kernel
theorem dX4_load_50 : decode cX4_load 50 = .ok (.invokestatic 57, 3) := by decide +kernel
theorem dX4_load_53 : decode cX4_load 53 = .ok (.ifCond .eq 26, 3) := by decide +kernel
theorem dX4_load_56 : decode cX4_load 56 = .ok (.aload_n 0, 1) := by decide +kernel
theorem dX4_load_57 : decode cX4_load 57 = .ok (.iload_n 3, 1) := by decide +kernel
theorem dX4_load_58 : decode cX4_load 58 = .ok (.iconst 0, 1) := by decide +kernel
theorem dX4_load_59 : decode cX4_load 59 = .ok (.aload_n 0, 1) := by decide +kernel
theorem dX4_load_60 : decode cX4_load 60 = .ok (.getfield 34, 3) := by decide +kernel
theorem dX4_load_63 : decode cX4_load 63 = .ok (.bipush 40, 2) := by decide +kernel
theorem dX4_load_65 : decode cX4_load 65 = .ok (.iload_n 1, 1) := by decide +kernel
theorem dX4_load_66 : decode cX4_load 66 = .ok (.imul, 1) := by decide +kernel
theorem dX4_load_67 : decode cX4_load 67 = .ok (.iload_n 3, 1) := by decide +kernel
theorem dX4_load_68 : decode cX4_load 68 = .ok (.iadd, 1) := by decide +kernel
theorem dX4_load_69 : decode cX4_load 69 = .ok (.iaload, 1) := by decide +kernel
theorem dX4_load_70 : decode cX4_load 70 = .ok (.invokevirtual 40, 3) := by decide +kernel
theorem dX4_load_73 : decode cX4_load 73 = .ok (.iinc 3 1, 3) := by decide +kernel
theorem dX4_load_76 : decode cX4_load 76 = .ok (.goto (-58), 3) := by decide +kernel
theorem dX4_load_79 : decode cX4_load 79 = .ok (.iload_n 3, 1) := by decide +kernel
theorem dX4_load_80 : decode cX4_load 80 = .ok (.ireturn, 1) := by decide +kernel
theorem dX4_judge_0 : decode cX4_judge 0 = .ok (.aload_n 0, 1) := by decide +kernel
theorem dX4_judge_1 : decode cX4_judge 1 = .ok (.iload_n 1, 1) := by decide +kernel
theorem dX4_judge_2 : decode cX4_judge 2 = .ok (.invokevirtual 240, 3) := by decide +kernel
theorem dX4_judge_5 : decode cX4_judge 5 = .ok (.istore_n 2, 1) := by decide +kernel
theorem dX4_judge_6 : decode cX4_judge 6 = .ok (.iload_n 2, 1) := by decide +kernel
theorem dX4_judge_7 : decode cX4_judge 7 = .ok (.ifCond .lt 9, 3) := by decide +kernel
theorem dX4_judge_10 : decode cX4_judge 10 = .ok (.aload_n 0, 1) := by decide +kernel
theorem dX4_judge_11 : decode cX4_judge 11 = .ok (.iload_n 2, 1) := by decide +kernel
theorem dX4_judge_12 : decode cX4_judge 12 = .ok (.invokevirtual 82, 3) := by decide +kernel
theorem dX4_judge_15 : decode cX4_judge 15 = .ok (.ireturn, 1) := by decide +kernel
theorem dX4_judge_16 : decode cX4_judge 16 = .ok (.iconst 0, 1) := by decide +kernel
theorem dX4_judge_17 : decode cX4_judge 17 = .ok (.istore_n 3, 1) := by decide +kernel
theorem dX4_judge_18 : decode cX4_judge 18 = .ok (.iload_n 3, 1) := by decide +kernel
theorem dX4_judge_19 : decode cX4_judge 19 = .ok (.aload_n 0, 1) := by decide +kernel
theorem dX4_judge_20 : decode cX4_judge 20 = .ok (.getfield 31, 3) := by decide +kernel
theorem dX4_judge_23 : decode cX4_judge 23 = .ok (.iload_n 1, 1) := by decide +kernel
theorem dX4_judge_24 : decode cX4_judge 24 = .ok (.iaload, 1) := by decide +kernel
theorem dX4_judge_25 : decode cX4_judge 25 = .ok (.if_icmp .ge 34, 3) := by decide +kernel
theorem dX4_judge_28 : decode cX4_judge 28 = .ok (.iload_n 3, 1) := by decide +kernel
theorem dX4_judge_29 : decode cX4_judge 29 = .ok (.bipush 16, 2) := by decide +kernel
theorem dX4_judge_31 : decode cX4_judge 31 = .ok (.if_icmp .ge 28, 3) := by decide +kernel
theorem dX4_judge_34 : decode cX4_judge 34 = .ok (.aload_n 0, 1) := by decide +kernel
theorem dX4_judge_35 : decode cX4_judge 35 = .ok (.getfield 34, 3) := by decide +kernel
theorem dX4_judge_38 : decode cX4_judge 38 = .ok (.bipush 40, 2) := by decide +kernel
theorem dX4_judge_40 : decode cX4_judge 40 = .ok (.iload_n 1, 1) := by decide +kernel
theorem dX4_judge_41 : decode cX4_judge 41 = .ok (.imul, 1) := by decide +kernel
theorem dX4_judge_42 : decode cX4_judge 42 = .ok (.iload_n 3, 1) := by decide +kernel
theorem dX4_judge_43 : decode cX4_judge 43 = .ok (.iadd, 1) := by decide +kernel
theorem dX4_judge_44 : decode cX4_judge 44 = .ok (.iaload, 1) := by decide +kernel
theorem dX4_judge_45 : decode cX4_judge 45 = .ok (.aload_n 0, 1) := by decide +kernel
theorem dX4_judge_46 : decode cX4_judge 46 = .ok (.iload_n 3, 1) := by decide +kernel
theorem dX4_judge_47 : decode cX4_judge 47 = .ok (.invokevirtual 72, 3) := by decide +kernel
theorem dX4_judge_50 : decode cX4_judge 50 = .ok (.if_icmp .ne 9, 3) := by decide +kernel
theorem dX4_judge_53 : decode cX4_judge 53 = .ok (.iinc 3 1, 3) := by decide +kernel
theorem dX4_judge_56 : decode cX4_judge 56 = .ok (.goto (-38), 3) := by decide +kernel
theorem dX4_judge_59 : decode cX4_judge 59 = .ok (.iload_n 3, 1) := by decide +kernel
theorem dX4_judge_60 : decode cX4_judge 60 = .ok (.aload_n 0, 1) := by decide +kernel
theorem dX4_judge_61 : decode cX4_judge 61 = .ok (.getfield 31, 3) := by decide +kernel
theorem dX4_judge_64 : decode cX4_judge 64 = .ok (.iload_n 1, 1) := by decide +kernel
theorem dX4_judge_65 : decode cX4_judge 65 = .ok (.iaload, 1) := by decide +kernel
theorem dX4_judge_66 : decode cX4_judge 66 = .ok (.if_icmp .ne 7, 3) := by decide +kernel
theorem dX4_judge_69 : decode cX4_judge 69 = .ok (.iconst 0, 1) := by decide +kernel
theorem dX4_judge_70 : decode cX4_judge 70 = .ok (.goto 6, 3) := by decide +kernel
theorem dX4_judge_73 : decode cX4_judge 73 = .ok (.iload_n 3, 1) := by decide +kernel
theorem dX4_judge_74 : decode cX4_judge 74 = .ok (.iconst 1, 1) := by decide +kernel
theorem dX4_judge_75 : decode cX4_judge 75 = .ok (.iadd, 1) := by decide +kernel
theorem dX4_judge_76 : decode cX4_judge 76 = .ok (.ireturn, 1) := by decide +kernel
theorem dX4_image_0 : decode cX4_image 0 = .ok (.aload_n 0, 1) := by decide +kernel
theorem dX4_image_1 : decode cX4_image 1 = .ok (.getfield 9, 3) := by decide +kernel
theorem dX4_image_4 : decode cX4_image 4 = .ok (.aload_n 0, 1) := by decide +kernel
theorem dX4_image_5 : decode cX4_image 5 = .ok (.getfield 13, 3) := by decide +kernel
theorem dX4_image_8 : decode cX4_image 8 = .ok (.invokestatic 51, 3) := by decide +kernel
theorem dX4_image_11 : decode cX4_image 11 = .ok (.aload_n 0, 1) := by decide +kernel
theorem dX4_image_12 : decode cX4_image 12 = .ok (.iconst 1, 1) := by decide +kernel
theorem dX4_image_13 : decode cX4_image 13 = .ok (.putfield 367, 3) := by decide +kernel
theorem dX4_image_16 : decode cX4_image 16 = .ok (.iconst 1, 1) := by decide +kernel
theorem dX4_image_17 : decode cX4_image 17 = .ok (.ireturn, 1) := by decide +kernel
theorem dX4_undo_0 : decode cX4_undo 0 = .ok (.aload_n 0, 1) := by decide +kernel
theorem dX4_undo_1 : decode cX4_undo 1 = .ok (.getfield 367, 3) := by decide +kernel
theorem dX4_undo_4 : decode cX4_undo 4 = .ok (.ifCond .ne 9, 3) := by decide +kernel
theorem dX4_undo_7 : decode cX4_undo 7 = .ok (.aload_n 0, 1) := by decide +kernel
theorem dX4_undo_8 : decode cX4_undo 8 = .ok (.iconst 3, 1) := by decide +kernel
theorem dX4_undo_9 : decode cX4_undo 9 = .ok (.invokevirtual 82, 3) := by decide +kernel
theorem dX4_undo_12 : decode cX4_undo 12 = .ok (.ireturn, 1) := by decide +kernel
theorem dX4_undo_13 : decode cX4_undo 13 = .ok (.aload_n 0, 1) := by decide +kernel
theorem dX4_undo_14 : decode cX4_undo 14 = .ok (.getfield 13, 3) := by decide +kernel
theorem dX4_undo_17 : decode cX4_undo 17 = .ok (.aload_n 0, 1) := by decide +kernel
theorem dX4_undo_18 : decode cX4_undo 18 = .ok (.getfield 9, 3) := by decide +kernel
theorem dX4_undo_21 : decode cX4_undo 21 = .ok (.invokestatic 51, 3) := by decide +kernel
theorem dX4_undo_24 : decode cX4_undo 24 = .ok (.aload_n 0, 1) := by decide +kernel
theorem dX4_undo_25 : decode cX4_undo 25 = .ok (.getfield 9, 3) := by decide +kernel
theorem dX4_undo_28 : decode cX4_undo 28 = .ok (.iconst 0, 1) := by decide +kernel
theorem dX4_undo_29 : decode cX4_undo 29 = .ok (.iaload, 1) := by decide +kernel
theorem dX4_undo_30 : decode cX4_undo 30 = .ok (.ireturn, 1) := by decide +kernel
theorem dX4_tear_0 : decode cX4_tear 0 = .ok (.aload_n 0, 1) := by decide +kernel
theorem dX4_tear_1 : decode cX4_tear 1 = .ok (.getfield 367, 3) := by decide +kernel
theorem dX4_tear_4 : decode cX4_tear 4 = .ok (.ifCond .eq 7, 3) := by decide +kernel
theorem dX4_tear_7 : decode cX4_tear 7 = .ok (.iconst 1, 1) := by decide +kernel
theorem dX4_tear_8 : decode cX4_tear 8 = .ok (.goto 4, 3) := by decide +kernel
theorem dX4_tear_11 : decode cX4_tear 11 = .ok (.iconst 0, 1) := by decide +kernel
theorem dX4_tear_12 : decode cX4_tear 12 = .ok (.istore_n 1, 1) := by decide +kernel
theorem dX4_tear_13 : decode cX4_tear 13 = .ok (.aload_n 0, 1) := by decide +kernel
theorem dX4_tear_14 : decode cX4_tear 14 = .ok (.iconst 0, 1) := by decide +kernel
theorem dX4_tear_15 : decode cX4_tear 15 = .ok (.putfield 367, 3) := by decide +kernel
theorem dX4_tear_18 : decode cX4_tear 18 = .ok (.iload_n 1, 1) := by decide +kernel
theorem dX4_tear_19 : decode cX4_tear 19 = .ok (.ireturn, 1) := by decide +kernel
theorem dX4_atHarbour_0 : decode cX4_atHarbour 0 = .ok (.iconst 0, 1) := by decide +kernel
theorem dX4_atHarbour_1 : decode cX4_atHarbour 1 = .ok (.istore_n 1, 1) := by decide +kernel
theorem dX4_atHarbour_2 : decode cX4_atHarbour 2 = .ok (.iconst 0, 1) := by decide +kernel
theorem dX4_atHarbour_3 : decode cX4_atHarbour 3 = .ok (.istore_n 2, 1) := by decide +kernel
theorem dX4_atHarbour_4 : decode cX4_atHarbour 4 = .ok (.iload_n 2, 1) := by decide +kernel
theorem dX4_atHarbour_5 : decode cX4_atHarbour 5 = .ok (.aload_n 0, 1) := by decide +kernel
theorem dX4_atHarbour_6 : decode cX4_atHarbour 6 = .ok (.getfield 9, 3) := by decide +kernel
theorem dX4_atHarbour_9 : decode cX4_atHarbour 9 = .ok (.iconst 1, 1) := by decide +kernel
theorem dX4_atHarbour_10 : decode cX4_atHarbour 10 = .ok (.iaload, 1) := by decide +kernel
theorem dX4_atHarbour_11 : decode cX4_atHarbour 11 = .ok (.if_icmp .ge 28, 3) := by decide +kernel
theorem dX4_atHarbour_14 : decode cX4_atHarbour 14 = .ok (.iload_n 1, 1) := by decide +kernel
theorem dX4_atHarbour_15 : decode cX4_atHarbour 15 = .ok (.aload_n 0, 1) := by decide +kernel
theorem dX4_atHarbour_16 : decode cX4_atHarbour 16 = .ok (.iload_n 2, 1) := by decide +kernel
theorem dX4_atHarbour_17 : decode cX4_atHarbour 17 = .ok (.iconst 1, 1) := by decide +kernel
theorem dX4_atHarbour_18 : decode cX4_atHarbour 18 = .ok (.invokevirtual 69, 3) := by decide +kernel
theorem dX4_atHarbour_21 : decode cX4_atHarbour 21 = .ok (.bipush 15, 2) := by decide +kernel
theorem dX4_atHarbour_23 : decode cX4_atHarbour 23 = .ok (.if_icmp .ne 7, 3) := by decide +kernel
theorem dX4_atHarbour_26 : decode cX4_atHarbour 26 = .ok (.iconst 1, 1) := by decide +kernel
theorem dX4_atHarbour_27 : decode cX4_atHarbour 27 = .ok (.goto 4, 3) := by decide +kernel
theorem dX4_atHarbour_30 : decode cX4_atHarbour 30 = .ok (.iconst 0, 1) := by decide +kernel
theorem dX4_atHarbour_31 : decode cX4_atHarbour 31 = .ok (.iadd, 1) := by decide +kernel
theorem dX4_atHarbour_32 : decode cX4_atHarbour 32 = .ok (.istore_n 1, 1) := by decide +kernel
theorem dX4_atHarbour_33 : decode cX4_atHarbour 33 = .ok (.iinc 2 1, 3) := by decide +kernel
theorem dX4_atHarbour_36 : decode cX4_atHarbour 36 = .ok (.goto (-32), 3) := by decide +kernel
theorem dX4_atHarbour_39 : decode cX4_atHarbour 39 = .ok (.iload_n 1, 1) := by decide +kernel
theorem dX4_atHarbour_40 : decode cX4_atHarbour 40 = .ok (.ireturn, 1) := by decide +kernel
theorem dX4_allSand_0 : decode cX4_allSand 0 = .ok (.iconst 0, 1) := by decide +kernel
theorem dX4_allSand_1 : decode cX4_allSand 1 = .ok (.istore_n 1, 1) := by decide +kernel
theorem dX4_allSand_2 : decode cX4_allSand 2 = .ok (.iconst 0, 1) := by decide +kernel
theorem dX4_allSand_3 : decode cX4_allSand 3 = .ok (.istore_n 2, 1) := by decide +kernel
theorem dX4_allSand_4 : decode cX4_allSand 4 = .ok (.iload_n 2, 1) := by decide +kernel
theorem dX4_allSand_5 : decode cX4_allSand 5 = .ok (.bipush 16, 2) := by decide +kernel
theorem dX4_allSand_7 : decode cX4_allSand 7 = .ok (.if_icmp .ge 18, 3) := by decide +kernel
theorem dX4_allSand_10 : decode cX4_allSand 10 = .ok (.iload_n 1, 1) := by decide +kernel
theorem dX4_allSand_11 : decode cX4_allSand 11 = .ok (.aload_n 0, 1) := by decide +kernel
theorem dX4_allSand_12 : decode cX4_allSand 12 = .ok (.iload_n 2, 1) := by decide +kernel
theorem dX4_allSand_13 : decode cX4_allSand 13 = .ok (.iconst 2, 1) := by decide +kernel
theorem dX4_allSand_14 : decode cX4_allSand 14 = .ok (.invokevirtual 63, 3) := by decide +kernel
theorem dX4_allSand_17 : decode cX4_allSand 17 = .ok (.iadd, 1) := by decide +kernel
theorem dX4_allSand_18 : decode cX4_allSand 18 = .ok (.istore_n 1, 1) := by decide +kernel
theorem dX4_allSand_19 : decode cX4_allSand 19 = .ok (.iinc 2 1, 3) := by decide +kernel
theorem dX4_allSand_22 : decode cX4_allSand 22 = .ok (.goto (-18), 3) := by decide +kernel
theorem dX4_allSand_25 : decode cX4_allSand 25 = .ok (.iload_n 1, 1) := by decide +kernel
theorem dX4_allSand_26 : decode cX4_allSand 26 = .ok (.ireturn, 1) := by decide +kernel
theorem dX4_held_0 : decode cX4_held 0 = .ok (.iconst 0, 1) := by decide +kernel
theorem dX4_held_1 : decode cX4_held 1 = .ok (.istore_n 1, 1) := by decide +kernel
theorem dX4_held_2 : decode cX4_held 2 = .ok (.iconst 0, 1) := by decide +kernel
theorem dX4_held_3 : decode cX4_held 3 = .ok (.istore_n 2, 1) := by decide +kernel
theorem dX4_held_4 : decode cX4_held 4 = .ok (.iload_n 2, 1) := by decide +kernel
theorem dX4_held_5 : decode cX4_held 5 = .ok (.bipush 10, 2) := by decide +kernel
theorem dX4_held_7 : decode cX4_held 7 = .ok (.if_icmp .ge 29, 3) := by decide +kernel
theorem dX4_held_10 : decode cX4_held 10 = .ok (.iload_n 1, 1) := by decide +kernel
theorem dX4_held_11 : decode cX4_held 11 = .ok (.aload_n 0, 1) := by decide +kernel
theorem dX4_held_12 : decode cX4_held 12 = .ok (.getfield 9, 3) := by decide +kernel
theorem dX4_held_15 : decode cX4_held 15 = .ok (.bipush 109, 2) := by decide +kernel
theorem dX4_held_17 : decode cX4_held 17 = .ok (.iload_n 2, 1) := by decide +kernel
theorem dX4_held_18 : decode cX4_held 18 = .ok (.iadd, 1) := by decide +kernel
theorem dX4_held_19 : decode cX4_held 19 = .ok (.iaload, 1) := by decide +kernel
theorem dX4_held_20 : decode cX4_held 20 = .ok (.ifCond .ge 7, 3) := by decide +kernel
theorem dX4_held_23 : decode cX4_held 23 = .ok (.iconst 0, 1) := by decide +kernel
theorem dX4_held_24 : decode cX4_held 24 = .ok (.goto 4, 3) := by decide +kernel
theorem dX4_held_27 : decode cX4_held 27 = .ok (.iconst 1, 1) := by decide +kernel
theorem dX4_held_28 : decode cX4_held 28 = .ok (.iadd, 1) := by decide +kernel
theorem dX4_held_29 : decode cX4_held 29 = .ok (.istore_n 1, 1) := by decide +kernel
theorem dX4_held_30 : decode cX4_held 30 = .ok (.iinc 2 1, 3) := by decide +kernel
theorem dX4_held_33 : decode cX4_held 33 = .ok (.goto (-29), 3) := by decide +kernel
theorem dX4_held_36 : decode cX4_held 36 = .ok (.iload_n 1, 1) := by decide +kernel
theorem dX4_held_37 : decode cX4_held 37 = .ok (.ireturn, 1) := by decide +kernel
theorem dX4_count_0 : decode cX4_count 0 = .ok (.iload_n 1, 1) := by decide +kernel
theorem dX4_count_1 : decode cX4_count 1 = .ok (.tableswitch 93 0 7 #[47, 54, 61, 66, 71, 76, 81, 88], 47) := by decide +kernel
theorem dX4_count_48 : decode cX4_count 48 = .ok (.aload_n 0, 1) := by decide +kernel
theorem dX4_count_49 : decode cX4_count 49 = .ok (.getfield 9, 3) := by decide +kernel
theorem dX4_count_52 : decode cX4_count 52 = .ok (.iconst 0, 1) := by decide +kernel
theorem dX4_count_53 : decode cX4_count 53 = .ok (.iaload, 1) := by decide +kernel
theorem dX4_count_54 : decode cX4_count 54 = .ok (.ireturn, 1) := by decide +kernel
theorem dX4_count_55 : decode cX4_count 55 = .ok (.aload_n 0, 1) := by decide +kernel
theorem dX4_count_56 : decode cX4_count 56 = .ok (.getfield 9, 3) := by decide +kernel
theorem dX4_count_59 : decode cX4_count 59 = .ok (.iconst 1, 1) := by decide +kernel
theorem dX4_count_60 : decode cX4_count 60 = .ok (.iaload, 1) := by decide +kernel
theorem dX4_count_61 : decode cX4_count 61 = .ok (.ireturn, 1) := by decide +kernel
theorem dX4_count_62 : decode cX4_count 62 = .ok (.aload_n 0, 1) := by decide +kernel
theorem dX4_count_63 : decode cX4_count 63 = .ok (.invokevirtual 370, 3) := by decide +kernel
theorem dX4_count_66 : decode cX4_count 66 = .ok (.ireturn, 1) := by decide +kernel
theorem dX4_count_67 : decode cX4_count 67 = .ok (.aload_n 0, 1) := by decide +kernel
theorem dX4_count_68 : decode cX4_count 68 = .ok (.invokevirtual 159, 3) := by decide +kernel
theorem dX4_count_71 : decode cX4_count 71 = .ok (.ireturn, 1) := by decide +kernel
theorem dX4_count_72 : decode cX4_count 72 = .ok (.aload_n 0, 1) := by decide +kernel
theorem dX4_count_73 : decode cX4_count 73 = .ok (.invokevirtual 373, 3) := by decide +kernel
theorem dX4_count_76 : decode cX4_count 76 = .ok (.ireturn, 1) := by decide +kernel
theorem dX4_count_77 : decode cX4_count 77 = .ok (.aload_n 0, 1) := by decide +kernel
theorem dX4_count_78 : decode cX4_count 78 = .ok (.getfield 260, 3) := by decide +kernel
theorem dX4_count_81 : decode cX4_count 81 = .ok (.ireturn, 1) := by decide +kernel
theorem dX4_count_82 : decode cX4_count 82 = .ok (.aload_n 0, 1) := by decide +kernel
theorem dX4_count_83 : decode cX4_count 83 = .ok (.getfield 9, 3) := by decide +kernel
theorem dX4_count_86 : decode cX4_count 86 = .ok (.iconst 4, 1) := by decide +kernel
theorem dX4_count_87 : decode cX4_count 87 = .ok (.iaload, 1) := by decide +kernel
theorem dX4_count_88 : decode cX4_count 88 = .ok (.ireturn, 1) := by decide +kernel
theorem dX4_count_89 : decode cX4_count 89 = .ok (.aload_n 0, 1) := by decide +kernel
theorem dX4_count_90 : decode cX4_count 90 = .ok (.invokevirtual 376, 3) := by decide +kernel
theorem dX4_count_93 : decode cX4_count 93 = .ok (.ireturn, 1) := by decide +kernel
theorem dX4_count_94 : decode cX4_count 94 = .ok (.aload_n 0, 1) := by decide +kernel
theorem dX4_count_95 : decode cX4_count 95 = .ok (.iconst 0, 1) := by decide +kernel
theorem dX4_count_96 : decode cX4_count 96 = .ok (.invokevirtual 82, 3) := by decide +kernel
theorem dX4_count_99 : decode cX4_count 99 = .ok (.ireturn, 1) := by decide +kernel
theorem dX4_status_0 : decode cX4_status 0 = .ok (.iload_n 1, 1) := by decide +kernel
theorem dX4_status_1 : decode cX4_status 1 = .ok (.i2l, 1) := by decide +kernel
theorem dX4_status_2 : decode cX4_status 2 = .ok (.ldc2_w 379, 3) := by decide +kernel
theorem dX4_status_5 : decode cX4_status 5 = .ok (.ldc2_w 105, 3) := by decide +kernel
theorem dX4_status_8 : decode cX4_status 8 = .ok (.invokestatic 57, 3) := by decide +kernel
theorem dX4_status_11 : decode cX4_status 11 = .ok (.ifCond .ne 9, 3) := by decide +kernel
theorem dX4_status_14 : decode cX4_status 14 = .ok (.aload_n 0, 1) := by decide +kernel
theorem dX4_status_15 : decode cX4_status 15 = .ok (.iconst 0, 1) := by decide +kernel
theorem dX4_status_16 : decode cX4_status 16 = .ok (.invokevirtual 82, 3) := by decide +kernel
theorem dX4_status_19 : decode cX4_status 19 = .ok (.ireturn, 1) := by decide +kernel
theorem dX4_status_20 : decode cX4_status 20 = .ok (.iconst 0, 1) := by decide +kernel
theorem dX4_status_21 : decode cX4_status 21 = .ok (.istore_n 2, 1) := by decide +kernel
theorem dX4_status_22 : decode cX4_status 22 = .ok (.iconst 0, 1) := by decide +kernel
theorem dX4_status_23 : decode cX4_status 23 = .ok (.istore_n 3, 1) := by decide +kernel
theorem dX4_status_24 : decode cX4_status 24 = .ok (.iload_n 3, 1) := by decide +kernel
theorem dX4_status_25 : decode cX4_status 25 = .ok (.bipush 7, 2) := by decide +kernel
theorem dX4_status_27 : decode cX4_status 27 = .ok (.if_icmp .ge 31, 3) := by decide +kernel
theorem dX4_status_30 : decode cX4_status 30 = .ok (.iload_n 2, 1) := by decide +kernel
theorem dX4_status_31 : decode cX4_status 31 = .ok (.iload_n 1, 1) := by decide +kernel
theorem dX4_status_32 : decode cX4_status 32 = .ok (.ifCond .lt 8, 3) := by decide +kernel
theorem dX4_status_35 : decode cX4_status 35 = .ok (.iload_n 1, 1) := by decide +kernel
theorem dX4_status_36 : decode cX4_status 36 = .ok (.iload_n 3, 1) := by decide +kernel
theorem dX4_status_37 : decode cX4_status 37 = .ok (.if_icmp .ne 12, 3) := by decide +kernel
theorem dX4_status_40 : decode cX4_status 40 = .ok (.aload_n 0, 1) := by decide +kernel
theorem dX4_status_41 : decode cX4_status 41 = .ok (.getfield 19, 3) := by decide +kernel
theorem dX4_status_44 : decode cX4_status 44 = .ok (.iload_n 3, 1) := by decide +kernel
theorem dX4_status_45 : decode cX4_status 45 = .ok (.iaload, 1) := by decide +kernel
theorem dX4_status_46 : decode cX4_status 46 = .ok (.goto 4, 3) := by decide +kernel
theorem dX4_status_49 : decode cX4_status 49 = .ok (.iconst 0, 1) := by decide +kernel
theorem dX4_status_50 : decode cX4_status 50 = .ok (.iadd, 1) := by decide +kernel
theorem dX4_status_51 : decode cX4_status 51 = .ok (.istore_n 2, 1) := by decide +kernel
theorem dX4_status_52 : decode cX4_status 52 = .ok (.iinc 3 1, 3) := by decide +kernel
theorem dX4_status_55 : decode cX4_status 55 = .ok (.goto (-31), 3) := by decide +kernel
theorem dX4_status_58 : decode cX4_status 58 = .ok (.iload_n 2, 1) := by decide +kernel
theorem dX4_status_59 : decode cX4_status 59 = .ok (.ireturn, 1) := by decide +kernel
