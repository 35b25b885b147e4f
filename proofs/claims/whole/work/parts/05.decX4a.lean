theorem dX4_init_0 : decode cX4_init 0 = .ok (.aload_n 0, 1) := by decide +kernel
theorem dX4_init_1 : decode cX4_init 1 = .ok (.invokespecial 3, 3) := by decide +kernel
theorem dX4_init_4 : decode cX4_init 4 = .ok (.aload_n 0, 1) := by decide +kernel
theorem dX4_init_5 : decode cX4_init 5 = .ok (.bipush 119, 2) := by decide +kernel
theorem dX4_init_7 : decode cX4_init 7 = .ok (.newarray .int, 2) := by decide +kernel
theorem dX4_init_9 : decode cX4_init 9 = .ok (.putfield 9, 3) := by decide +kernel
theorem dX4_init_12 : decode cX4_init 12 = .ok (.aload_n 0, 1) := by decide +kernel
theorem dX4_init_13 : decode cX4_init 13 = .ok (.bipush 119, 2) := by decide +kernel
theorem dX4_init_15 : decode cX4_init 15 = .ok (.newarray .int, 2) := by decide +kernel
theorem dX4_init_17 : decode cX4_init 17 = .ok (.putfield 13, 3) := by decide +kernel
theorem dX4_init_20 : decode cX4_init 20 = .ok (.aload_n 0, 1) := by decide +kernel
theorem dX4_init_21 : decode cX4_init 21 = .ok (.bipush 119, 2) := by decide +kernel
theorem dX4_init_23 : decode cX4_init 23 = .ok (.newarray .int, 2) := by decide +kernel
theorem dX4_init_25 : decode cX4_init 25 = .ok (.putfield 16, 3) := by decide +kernel
theorem dX4_init_28 : decode cX4_init 28 = .ok (.aload_n 0, 1) := by decide +kernel
theorem dX4_init_29 : decode cX4_init 29 = .ok (.bipush 7, 2) := by decide +kernel
theorem dX4_init_31 : decode cX4_init 31 = .ok (.newarray .int, 2) := by decide +kernel
theorem dX4_init_33 : decode cX4_init 33 = .ok (.putfield 19, 3) := by decide +kernel
theorem dX4_init_36 : decode cX4_init 36 = .ok (.aload_n 0, 1) := by decide +kernel
theorem dX4_init_37 : decode cX4_init 37 = .ok (.bipush 8, 2) := by decide +kernel
theorem dX4_init_39 : decode cX4_init 39 = .ok (.newarray .int, 2) := by decide +kernel
theorem dX4_init_41 : decode cX4_init 41 = .ok (.putfield 22, 3) := by decide +kernel
theorem dX4_init_44 : decode cX4_init 44 = .ok (.aload_n 0, 1) := by decide +kernel
theorem dX4_init_45 : decode cX4_init 45 = .ok (.bipush 120, 2) := by decide +kernel
theorem dX4_init_47 : decode cX4_init 47 = .ok (.newarray .int, 2) := by decide +kernel
theorem dX4_init_49 : decode cX4_init 49 = .ok (.putfield 25, 3) := by decide +kernel
theorem dX4_init_52 : decode cX4_init 52 = .ok (.aload_n 0, 1) := by decide +kernel
theorem dX4_init_53 : decode cX4_init 53 = .ok (.iconst 4, 1) := by decide +kernel
theorem dX4_init_54 : decode cX4_init 54 = .ok (.newarray .int, 2) := by decide +kernel
theorem dX4_init_56 : decode cX4_init 56 = .ok (.putfield 28, 3) := by decide +kernel
theorem dX4_init_59 : decode cX4_init 59 = .ok (.aload_n 0, 1) := by decide +kernel
theorem dX4_init_60 : decode cX4_init 60 = .ok (.iconst 4, 1) := by decide +kernel
theorem dX4_init_61 : decode cX4_init 61 = .ok (.newarray .int, 2) := by decide +kernel
theorem dX4_init_63 : decode cX4_init 63 = .ok (.putfield 31, 3) := by decide +kernel
theorem dX4_init_66 : decode cX4_init 66 = .ok (.aload_n 0, 1) := by decide +kernel
theorem dX4_init_67 : decode cX4_init 67 = .ok (.sipush 160, 3) := by decide +kernel
theorem dX4_init_70 : decode cX4_init 70 = .ok (.newarray .int, 2) := by decide +kernel
theorem dX4_init_72 : decode cX4_init 72 = .ok (.putfield 34, 3) := by decide +kernel
theorem dX4_init_75 : decode cX4_init 75 = .ok (.aload_n 0, 1) := by decide +kernel
theorem dX4_init_76 : decode cX4_init 76 = .ok (.bipush 40, 2) := by decide +kernel
theorem dX4_init_78 : decode cX4_init 78 = .ok (.newarray .int, 2) := by decide +kernel
theorem dX4_init_80 : decode cX4_init 80 = .ok (.putfield 37, 3) := by decide +kernel
theorem dX4_init_83 : decode cX4_init 83 = .ok (.aload_n 0, 1) := by decide +kernel
theorem dX4_init_84 : decode cX4_init 84 = .ok (.getfield 9, 3) := by decide +kernel
theorem dX4_init_87 : decode cX4_init 87 = .ok (.iconst 4, 1) := by decide +kernel
theorem dX4_init_88 : decode cX4_init 88 = .ok (.iconst 1, 1) := by decide +kernel
theorem dX4_init_89 : decode cX4_init 89 = .ok (.iastore, 1) := by decide +kernel
theorem dX4_init_90 : decode cX4_init 90 = .ok (.iconst 0, 1) := by decide +kernel
theorem dX4_init_91 : decode cX4_init 91 = .ok (.istore_n 1, 1) := by decide +kernel
theorem dX4_init_92 : decode cX4_init 92 = .ok (.iload_n 1, 1) := by decide +kernel
theorem dX4_init_93 : decode cX4_init 93 = .ok (.bipush 16, 2) := by decide +kernel
theorem dX4_init_95 : decode cX4_init 95 = .ok (.if_icmp .ge 51, 3) := by decide +kernel
theorem dX4_init_98 : decode cX4_init 98 = .ok (.aload_n 0, 1) := by decide +kernel
theorem dX4_init_99 : decode cX4_init 99 = .ok (.iload_n 1, 1) := by decide +kernel
theorem dX4_init_100 : decode cX4_init 100 = .ok (.iconst 0, 1) := by decide +kernel
theorem dX4_init_101 : decode cX4_init 101 = .ok (.bipush 90, 2) := by decide +kernel
theorem dX4_init_103 : decode cX4_init 103 = .ok (.bipush 6, 2) := by decide +kernel
theorem dX4_init_105 : decode cX4_init 105 = .ok (.iload_n 1, 1) := by decide +kernel
theorem dX4_init_106 : decode cX4_init 106 = .ok (.imul, 1) := by decide +kernel
theorem dX4_init_107 : decode cX4_init 107 = .ok (.isub, 1) := by decide +kernel
theorem dX4_init_108 : decode cX4_init 108 = .ok (.invokevirtual 40, 3) := by decide +kernel
theorem dX4_init_111 : decode cX4_init 111 = .ok (.aload_n 0, 1) := by decide +kernel
theorem dX4_init_112 : decode cX4_init 112 = .ok (.iload_n 1, 1) := by decide +kernel
theorem dX4_init_113 : decode cX4_init 113 = .ok (.iconst 1, 1) := by decide +kernel
theorem dX4_init_114 : decode cX4_init 114 = .ok (.bipush 15, 2) := by decide +kernel
theorem dX4_init_116 : decode cX4_init 116 = .ok (.iload_n 1, 1) := by decide +kernel
theorem dX4_init_117 : decode cX4_init 117 = .ok (.iconst 1, 1) := by decide +kernel
theorem dX4_init_118 : decode cX4_init 118 = .ok (.iadd, 1) := by decide +kernel
theorem dX4_init_119 : decode cX4_init 119 = .ok (.invokestatic 44, 3) := by decide +kernel
theorem dX4_init_122 : decode cX4_init 122 = .ok (.invokevirtual 40, 3) := by decide +kernel
theorem dX4_init_125 : decode cX4_init 125 = .ok (.aload_n 0, 1) := by decide +kernel
theorem dX4_init_126 : decode cX4_init 126 = .ok (.iload_n 1, 1) := by decide +kernel
theorem dX4_init_127 : decode cX4_init 127 = .ok (.iconst 3, 1) := by decide +kernel
theorem dX4_init_128 : decode cX4_init 128 = .ok (.iconst 1, 1) := by decide +kernel
theorem dX4_init_129 : decode cX4_init 129 = .ok (.invokevirtual 40, 3) := by decide +kernel
theorem dX4_init_132 : decode cX4_init 132 = .ok (.aload_n 0, 1) := by decide +kernel
theorem dX4_init_133 : decode cX4_init 133 = .ok (.iload_n 1, 1) := by decide +kernel
theorem dX4_init_134 : decode cX4_init 134 = .ok (.iconst 4, 1) := by decide +kernel
theorem dX4_init_135 : decode cX4_init 135 = .ok (.bipush 50, 2) := by decide +kernel
theorem dX4_init_137 : decode cX4_init 137 = .ok (.invokevirtual 40, 3) := by decide +kernel
theorem dX4_init_140 : decode cX4_init 140 = .ok (.iinc 1 1, 3) := by decide +kernel
theorem dX4_init_143 : decode cX4_init 143 = .ok (.goto (-51), 3) := by decide +kernel
theorem dX4_init_146 : decode cX4_init 146 = .ok (.iconst 0, 1) := by decide +kernel
theorem dX4_init_147 : decode cX4_init 147 = .ok (.istore_n 1, 1) := by decide +kernel
theorem dX4_init_148 : decode cX4_init 148 = .ok (.iload_n 1, 1) := by decide +kernel
theorem dX4_init_149 : decode cX4_init 149 = .ok (.bipush 10, 2) := by decide +kernel
theorem dX4_init_151 : decode cX4_init 151 = .ok (.if_icmp .ge 19, 3) := by decide +kernel
theorem dX4_init_154 : decode cX4_init 154 = .ok (.aload_n 0, 1) := by decide +kernel
theorem dX4_init_155 : decode cX4_init 155 = .ok (.getfield 9, 3) := by decide +kernel
theorem dX4_init_158 : decode cX4_init 158 = .ok (.bipush 109, 2) := by decide +kernel
theorem dX4_init_160 : decode cX4_init 160 = .ok (.iload_n 1, 1) := by decide +kernel
theorem dX4_init_161 : decode cX4_init 161 = .ok (.iadd, 1) := by decide +kernel
theorem dX4_init_162 : decode cX4_init 162 = .ok (.iconst (-1), 1) := by decide +kernel
theorem dX4_init_163 : decode cX4_init 163 = .ok (.iastore, 1) := by decide +kernel
theorem dX4_init_164 : decode cX4_init 164 = .ok (.iinc 1 1, 3) := by decide +kernel
theorem dX4_init_167 : decode cX4_init 167 = .ok (.goto (-19), 3) := by decide +kernel
theorem dX4_init_170 : decode cX4_init 170 = .ok (.return_, 1) := by decide +kernel
theorem dX4_finds_0 : decode cX4_finds 0 = .ok (.aload_n 0, 1) := by decide +kernel
theorem dX4_finds_1 : decode cX4_finds 1 = .ok (.getfield 19, 3) := by decide +kernel
theorem dX4_finds_4 : decode cX4_finds 4 = .ok (.iload_n 1, 1) := by decide +kernel
theorem dX4_finds_5 : decode cX4_finds 5 = .ok (.dup2, 1) := by decide +kernel
theorem dX4_finds_6 : decode cX4_finds 6 = .ok (.iaload, 1) := by decide +kernel
theorem dX4_finds_7 : decode cX4_finds 7 = .ok (.iconst 1, 1) := by decide +kernel
theorem dX4_finds_8 : decode cX4_finds 8 = .ok (.iadd, 1) := by decide +kernel
theorem dX4_finds_9 : decode cX4_finds 9 = .ok (.iastore, 1) := by decide +kernel
theorem dX4_finds_10 : decode cX4_finds 10 = .ok (.ldc 50, 2) := by decide +kernel
theorem dX4_finds_12 : decode cX4_finds 12 = .ok (.iload_n 1, 1) := by decide +kernel
theorem dX4_finds_13 : decode cX4_finds 13 = .ok (.isub, 1) := by decide +kernel
theorem dX4_finds_14 : decode cX4_finds 14 = .ok (.ireturn, 1) := by decide +kernel
theorem dX4_in_0 : decode cX4_in 0 = .ok (.lload_n 0, 1) := by decide +kernel
theorem dX4_in_1 : decode cX4_in 1 = .ok (.lload_n 2, 1) := by decide +kernel
theorem dX4_in_2 : decode cX4_in 2 = .ok (.lcmp, 1) := by decide +kernel
theorem dX4_in_3 : decode cX4_in 3 = .ok (.ifCond .lt 14, 3) := by decide +kernel
theorem dX4_in_6 : decode cX4_in 6 = .ok (.lload_n 0, 1) := by decide +kernel
theorem dX4_in_7 : decode cX4_in 7 = .ok (.lload 4, 2) := by decide +kernel
theorem dX4_in_9 : decode cX4_in 9 = .ok (.lcmp, 1) := by decide +kernel
theorem dX4_in_10 : decode cX4_in 10 = .ok (.ifCond .gt 7, 3) := by decide +kernel
theorem dX4_in_13 : decode cX4_in 13 = .ok (.iconst 1, 1) := by decide +kernel
theorem dX4_in_14 : decode cX4_in 14 = .ok (.goto 4, 3) := by decide +kernel
theorem dX4_in_17 : decode cX4_in 17 = .ok (.iconst 0, 1) := by decide +kernel
theorem dX4_in_18 : decode cX4_in 18 = .ok (.ireturn, 1) := by decide +kernel
theorem dX4_become_0 : decode cX4_become 0 = .ok (.iconst 0, 1) := by decide +kernel
theorem dX4_become_1 : decode cX4_become 1 = .ok (.istore_n 2, 1) := by decide +kernel
theorem dX4_become_2 : decode cX4_become 2 = .ok (.iload_n 2, 1) := by decide +kernel
theorem dX4_become_3 : decode cX4_become 3 = .ok (.bipush 119, 2) := by decide +kernel
theorem dX4_become_5 : decode cX4_become 5 = .ok (.if_icmp .ge 15, 3) := by decide +kernel
theorem dX4_become_8 : decode cX4_become 8 = .ok (.aload_n 1, 1) := by decide +kernel
theorem dX4_become_9 : decode cX4_become 9 = .ok (.iload_n 2, 1) := by decide +kernel
theorem dX4_become_10 : decode cX4_become 10 = .ok (.aload_n 0, 1) := by decide +kernel
theorem dX4_become_11 : decode cX4_become 11 = .ok (.iload_n 2, 1) := by decide +kernel
theorem dX4_become_12 : decode cX4_become 12 = .ok (.iaload, 1) := by decide +kernel
theorem dX4_become_13 : decode cX4_become 13 = .ok (.iastore, 1) := by decide +kernel
theorem dX4_become_14 : decode cX4_become 14 = .ok (.iinc 2 1, 3) := by decide +kernel
theorem dX4_become_17 : decode cX4_become 17 = .ok (.goto (-15), 3) := by decide +kernel
theorem dX4_become_20 : decode cX4_become 20 = .ok (.return_, 1) := by decide +kernel
theorem dX4_lends_0 : decode cX4_lends 0 = .ok (.aload_n 0, 1) := by decide +kernel
theorem dX4_lends_1 : decode cX4_lends 1 = .ok (.getfield 9, 3) := by decide +kernel
theorem dX4_lends_4 : decode cX4_lends 4 = .ok (.aload_n 0, 1) := by decide +kernel
theorem dX4_lends_5 : decode cX4_lends 5 = .ok (.getfield 16, 3) := by decide +kernel
theorem dX4_lends_8 : decode cX4_lends 8 = .ok (.invokestatic 51, 3) := by decide +kernel
theorem dX4_lends_11 : decode cX4_lends 11 = .ok (.return_, 1) := by decide +kernel
theorem dX4_laysBack_0 : decode cX4_laysBack 0 = .ok (.aload_n 0, 1) := by decide +kernel
theorem dX4_laysBack_1 : decode cX4_laysBack 1 = .ok (.getfield 16, 3) := by decide +kernel
theorem dX4_laysBack_4 : decode cX4_laysBack 4 = .ok (.aload_n 0, 1) := by decide +kernel
theorem dX4_laysBack_5 : decode cX4_laysBack 5 = .ok (.getfield 9, 3) := by decide +kernel
theorem dX4_laysBack_8 : decode cX4_laysBack 8 = .ok (.invokestatic 51, 3) := by decide +kernel
theorem dX4_laysBack_11 : decode cX4_laysBack 11 = .ok (.return_, 1) := by decide +kernel
theorem dX4_isCorner_0 : decode cX4_isCorner 0 = .ok (.iload_n 0, 1) := by decide +kernel
theorem dX4_isCorner_1 : decode cX4_isCorner 1 = .ok (.i2l, 1) := by decide +kernel
theorem dX4_isCorner_2 : decode cX4_isCorner 2 = .ok (.lconst 0, 1) := by decide +kernel
theorem dX4_isCorner_3 : decode cX4_isCorner 3 = .ok (.ldc2_w 55, 3) := by decide +kernel
theorem dX4_isCorner_6 : decode cX4_isCorner 6 = .ok (.invokestatic 57, 3) := by decide +kernel
theorem dX4_isCorner_9 : decode cX4_isCorner 9 = .ok (.ireturn, 1) := by decide +kernel
theorem dX4_isWhisper_0 : decode cX4_isWhisper 0 = .ok (.iload_n 1, 1) := by decide +kernel
theorem dX4_isWhisper_1 : decode cX4_isWhisper 1 = .ok (.i2l, 1) := by decide +kernel
theorem dX4_isWhisper_2 : decode cX4_isWhisper 2 = .ok (.lconst 0, 1) := by decide +kernel
theorem dX4_isWhisper_3 : decode cX4_isWhisper 3 = .ok (.aload_n 0, 1) := by decide +kernel
theorem dX4_isWhisper_4 : decode cX4_isWhisper 4 = .ok (.getfield 9, 3) := by decide +kernel
theorem dX4_isWhisper_7 : decode cX4_isWhisper 7 = .ok (.iconst 1, 1) := by decide +kernel
theorem dX4_isWhisper_8 : decode cX4_isWhisper 8 = .ok (.iaload, 1) := by decide +kernel
theorem dX4_isWhisper_9 : decode cX4_isWhisper 9 = .ok (.iconst 1, 1) := by decide +kernel
theorem dX4_isWhisper_10 : decode cX4_isWhisper 10 = .ok (.isub, 1) := by decide +kernel
theorem dX4_isWhisper_11 : decode cX4_isWhisper 11 = .ok (.i2l, 1) := by decide +kernel
theorem dX4_isWhisper_12 : decode cX4_isWhisper 12 = .ok (.invokestatic 57, 3) := by decide +kernel
theorem dX4_isWhisper_15 : decode cX4_isWhisper 15 = .ok (.ireturn, 1) := by decide +kernel
theorem dX4_isSet_0 : decode cX4_isSet 0 = .ok (.iload_n 0, 1) := by decide +kernel
theorem dX4_isSet_1 : decode cX4_isSet 1 = .ok (.i2l, 1) := by decide +kernel
theorem dX4_isSet_2 : decode cX4_isSet 2 = .ok (.lconst 0, 1) := by decide +kernel
theorem dX4_isSet_3 : decode cX4_isSet 3 = .ok (.ldc2_w 61, 3) := by decide +kernel
theorem dX4_isSet_6 : decode cX4_isSet 6 = .ok (.invokestatic 57, 3) := by decide +kernel
theorem dX4_isSet_9 : decode cX4_isSet 9 = .ok (.ireturn, 1) := by decide +kernel
theorem dX4_part_0 : decode cX4_part 0 = .ok (.aload_n 0, 1) := by decide +kernel
theorem dX4_part_1 : decode cX4_part 1 = .ok (.getfield 9, 3) := by decide +kernel
theorem dX4_part_4 : decode cX4_part 4 = .ok (.iconst 5, 1) := by decide +kernel
theorem dX4_part_5 : decode cX4_part 5 = .ok (.iconst 5, 1) := by decide +kernel
theorem dX4_part_6 : decode cX4_part 6 = .ok (.iload_n 1, 1) := by decide +kernel
theorem dX4_part_7 : decode cX4_part 7 = .ok (.imul, 1) := by decide +kernel
theorem dX4_part_8 : decode cX4_part 8 = .ok (.iadd, 1) := by decide +kernel
theorem dX4_part_9 : decode cX4_part 9 = .ok (.iload_n 2, 1) := by decide +kernel
theorem dX4_part_10 : decode cX4_part 10 = .ok (.iadd, 1) := by decide +kernel
theorem dX4_part_11 : decode cX4_part 11 = .ok (.iaload, 1) := by decide +kernel
theorem dX4_part_12 : decode cX4_part 12 = .ok (.ireturn, 1) := by decide +kernel
theorem dX4_builds_0 : decode cX4_builds 0 = .ok (.aload_n 0, 1) := by decide +kernel
theorem dX4_builds_1 : decode cX4_builds 1 = .ok (.getfield 9, 3) := by decide +kernel
theorem dX4_builds_4 : decode cX4_builds 4 = .ok (.iconst 5, 1) := by decide +kernel
theorem dX4_builds_5 : decode cX4_builds 5 = .ok (.iconst 5, 1) := by decide +kernel
theorem dX4_builds_6 : decode cX4_builds 6 = .ok (.iload_n 1, 1) := by decide +kernel
theorem dX4_builds_7 : decode cX4_builds 7 = .ok (.imul, 1) := by decide +kernel
theorem dX4_builds_8 : decode cX4_builds 8 = .ok (.iadd, 1) := by decide +kernel
theorem dX4_builds_9 : decode cX4_builds 9 = .ok (.iload_n 2, 1) := by decide +kernel
theorem dX4_builds_10 : decode cX4_builds 10 = .ok (.iadd, 1) := by decide +kernel
theorem dX4_builds_11 : decode cX4_builds 11 = .ok (.iload_n 3, 1) := by decide +kernel
theorem dX4_builds_12 : decode cX4_builds 12 = .ok (.iastore, 1) := by decide +kernel
theorem dX4_builds_13 : decode cX4_builds 13 = .ok (.return_, 1) := by decide +kernel
theorem dX4_its_0 : decode cX4_its 0 = .ok (.aload_n 0, 1) := by decide +kernel
theorem dX4_its_1 : decode cX4_its 1 = .ok (.getfield 9, 3) := by decide +kernel
theorem dX4_its_4 : decode cX4_its 4 = .ok (.bipush 85, 2) := by decide +kernel
theorem dX4_its_6 : decode cX4_its 6 = .ok (.iconst 3, 1) := by decide +kernel
theorem dX4_its_7 : decode cX4_its 7 = .ok (.iload_n 1, 1) := by decide +kernel
theorem dX4_its_8 : decode cX4_its 8 = .ok (.imul, 1) := by decide +kernel
theorem dX4_its_9 : decode cX4_its 9 = .ok (.iadd, 1) := by decide +kernel
theorem dX4_its_10 : decode cX4_its 10 = .ok (.iload_n 2, 1) := by decide +kernel
theorem dX4_its_11 : decode cX4_its 11 = .ok (.iadd, 1) := by decide +kernel
theorem dX4_its_12 : decode cX4_its 12 = .ok (.iaload, 1) := by decide +kernel
theorem dX4_its_13 : decode cX4_its 13 = .ok (.ireturn, 1) := by decide +kernel
theorem dX4_sets_0 : decode cX4_sets 0 = .ok (.aload_n 0, 1) := by decide +kernel
theorem dX4_sets_1 : decode cX4_sets 1 = .ok (.getfield 9, 3) := by decide +kernel
theorem dX4_sets_4 : decode cX4_sets 4 = .ok (.bipush 85, 2) := by decide +kernel
theorem dX4_sets_6 : decode cX4_sets 6 = .ok (.iconst 3, 1) := by decide +kernel
theorem dX4_sets_7 : decode cX4_sets 7 = .ok (.iload_n 1, 1) := by decide +kernel
theorem dX4_sets_8 : decode cX4_sets 8 = .ok (.imul, 1) := by decide +kernel
theorem dX4_sets_9 : decode cX4_sets 9 = .ok (.iadd, 1) := by decide +kernel
theorem dX4_sets_10 : decode cX4_sets 10 = .ok (.iload_n 2, 1) := by decide +kernel
theorem dX4_sets_11 : decode cX4_sets 11 = .ok (.iadd, 1) := by decide +kernel
theorem dX4_sets_12 : decode cX4_sets 12 = .ok (.iload_n 3, 1) := by decide +kernel
theorem dX4_sets_13 : decode cX4_sets 13 = .ok (.iastore, 1) := by decide +kernel
theorem dX4_sets_14 : decode cX4_sets 14 = .ok (.return_, 1) := by decide +kernel
theorem dX4_becomes_0 : decode cX4_becomes 0 = .ok (.aload_n 0, 1) := by decide +kernel
theorem dX4_becomes_1 : decode cX4_becomes 1 = .ok (.getfield 9, 3) := by decide +kernel
theorem dX4_becomes_4 : decode cX4_becomes 4 = .ok (.iload_n 1, 1) := by decide +kernel
theorem dX4_becomes_5 : decode cX4_becomes 5 = .ok (.iaload, 1) := by decide +kernel
theorem dX4_becomes_6 : decode cX4_becomes 6 = .ok (.istore_n 3, 1) := by decide +kernel
theorem dX4_becomes_7 : decode cX4_becomes 7 = .ok (.aload_n 0, 1) := by decide +kernel
theorem dX4_becomes_8 : decode cX4_becomes 8 = .ok (.getfield 9, 3) := by decide +kernel
theorem dX4_becomes_11 : decode cX4_becomes 11 = .ok (.iload_n 1, 1) := by decide +kernel
theorem dX4_becomes_12 : decode cX4_becomes 12 = .ok (.iload_n 2, 1) := by decide +kernel
theorem dX4_becomes_13 : decode cX4_becomes 13 = .ok (.iastore, 1) := by decide +kernel
theorem dX4_becomes_14 : decode cX4_becomes 14 = .ok (.iload_n 3, 1) := by decide +kernel
theorem dX4_becomes_15 : decode cX4_becomes 15 = .ok (.ireturn, 1) := by decide +kernel
theorem dX4_steep_0 : decode cX4_steep 0 = .ok (.iconst 0, 1) := by decide +kernel
theorem dX4_steep_1 : decode cX4_steep 1 = .ok (.aload_n 0, 1) := by decide +kernel
theorem dX4_steep_2 : decode cX4_steep 2 = .ok (.iload_n 1, 1) := by decide +kernel
theorem dX4_steep_3 : decode cX4_steep 3 = .ok (.iconst 0, 1) := by decide +kernel
theorem dX4_steep_4 : decode cX4_steep 4 = .ok (.invokevirtual 63, 3) := by decide +kernel
theorem dX4_steep_7 : decode cX4_steep 7 = .ok (.aload_n 0, 1) := by decide +kernel
theorem dX4_steep_8 : decode cX4_steep 8 = .ok (.aload_n 0, 1) := by decide +kernel
theorem dX4_steep_9 : decode cX4_steep 9 = .ok (.iload_n 1, 1) := by decide +kernel
theorem dX4_steep_10 : decode cX4_steep 10 = .ok (.iconst 1, 1) := by decide +kernel
theorem dX4_steep_11 : decode cX4_steep 11 = .ok (.invokevirtual 63, 3) := by decide +kernel
theorem dX4_steep_14 : decode cX4_steep 14 = .ok (.iconst 0, 1) := by decide +kernel
theorem dX4_steep_15 : decode cX4_steep 15 = .ok (.invokevirtual 63, 3) := by decide +kernel
theorem dX4_steep_18 : decode cX4_steep 18 = .ok (.isub, 1) := by decide +kernel
theorem dX4_steep_19 : decode cX4_steep 19 = .ok (.invokestatic 66, 3) := by decide +kernel
theorem dX4_steep_22 : decode cX4_steep 22 = .ok (.ireturn, 1) := by decide +kernel
theorem dX4_loudAt_0 : decode cX4_loudAt 0 = .ok (.iconst 0, 1) := by decide +kernel
theorem dX4_loudAt_1 : decode cX4_loudAt 1 = .ok (.istore_n 2, 1) := by decide +kernel
theorem dX4_loudAt_2 : decode cX4_loudAt 2 = .ok (.iconst 0, 1) := by decide +kernel
theorem dX4_loudAt_3 : decode cX4_loudAt 3 = .ok (.istore_n 3, 1) := by decide +kernel
theorem dX4_loudAt_4 : decode cX4_loudAt 4 = .ok (.iload_n 3, 1) := by decide +kernel
theorem dX4_loudAt_5 : decode cX4_loudAt 5 = .ok (.aload_n 0, 1) := by decide +kernel
theorem dX4_loudAt_6 : decode cX4_loudAt 6 = .ok (.getfield 9, 3) := by decide +kernel
theorem dX4_loudAt_9 : decode cX4_loudAt 9 = .ok (.iconst 1, 1) := by decide +kernel
theorem dX4_loudAt_10 : decode cX4_loudAt 10 = .ok (.iaload, 1) := by decide +kernel
theorem dX4_loudAt_11 : decode cX4_loudAt 11 = .ok (.if_icmp .ge 32, 3) := by decide +kernel
theorem dX4_loudAt_14 : decode cX4_loudAt 14 = .ok (.iload_n 2, 1) := by decide +kernel
theorem dX4_loudAt_15 : decode cX4_loudAt 15 = .ok (.aload_n 0, 1) := by decide +kernel
theorem dX4_loudAt_16 : decode cX4_loudAt 16 = .ok (.iload_n 3, 1) := by decide +kernel
theorem dX4_loudAt_17 : decode cX4_loudAt 17 = .ok (.iconst 1, 1) := by decide +kernel
theorem dX4_loudAt_18 : decode cX4_loudAt 18 = .ok (.invokevirtual 69, 3) := by decide +kernel
theorem dX4_loudAt_21 : decode cX4_loudAt 21 = .ok (.iload_n 1, 1) := by decide +kernel
theorem dX4_loudAt_22 : decode cX4_loudAt 22 = .ok (.if_icmp .ne 12, 3) := by decide +kernel
theorem dX4_loudAt_25 : decode cX4_loudAt 25 = .ok (.aload_n 0, 1) := by decide +kernel
theorem dX4_loudAt_26 : decode cX4_loudAt 26 = .ok (.iload_n 3, 1) := by decide +kernel
theorem dX4_loudAt_27 : decode cX4_loudAt 27 = .ok (.iconst 2, 1) := by decide +kernel
theorem dX4_loudAt_28 : decode cX4_loudAt 28 = .ok (.invokevirtual 69, 3) := by decide +kernel
theorem dX4_loudAt_31 : decode cX4_loudAt 31 = .ok (.goto 4, 3) := by decide +kernel
theorem dX4_loudAt_34 : decode cX4_loudAt 34 = .ok (.iconst 0, 1) := by decide +kernel
theorem dX4_loudAt_35 : decode cX4_loudAt 35 = .ok (.iadd, 1) := by decide +kernel
theorem dX4_loudAt_36 : decode cX4_loudAt 36 = .ok (.istore_n 2, 1) := by decide +kernel
theorem dX4_loudAt_37 : decode cX4_loudAt 37 = .ok (.iinc 3 1, 3) := by decide +kernel
theorem dX4_loudAt_40 : decode cX4_loudAt 40 = .ok (.goto (-36), 3) := by decide +kernel
theorem dX4_loudAt_43 : decode cX4_loudAt 43 = .ok (.iload_n 2, 1) := by decide +kernel
theorem dX4_loudAt_44 : decode cX4_loudAt 44 = .ok (.ireturn, 1) := by decide +kernel
theorem dX4_isHeard_0 : decode cX4_isHeard 0 = .ok (.aload_n 0, 1) := by decide +kernel
theorem dX4_isHeard_1 : decode cX4_isHeard 1 = .ok (.iload_n 1, 1) := by decide +kernel
theorem dX4_isHeard_2 : decode cX4_isHeard 2 = .ok (.invokevirtual 72, 3) := by decide +kernel
theorem dX4_isHeard_5 : decode cX4_isHeard 5 = .ok (.aload_n 0, 1) := by decide +kernel
theorem dX4_isHeard_6 : decode cX4_isHeard 6 = .ok (.iload_n 1, 1) := by decide +kernel
theorem dX4_isHeard_7 : decode cX4_isHeard 7 = .ok (.iconst 4, 1) := by decide +kernel
theorem dX4_isHeard_8 : decode cX4_isHeard 8 = .ok (.invokevirtual 63, 3) := by decide +kernel
theorem dX4_isHeard_11 : decode cX4_isHeard 11 = .ok (.if_icmp .lt 7, 3) := by decide +kernel
theorem dX4_isHeard_14 : decode cX4_isHeard 14 = .ok (.iconst 1, 1) := by decide +kernel
theorem dX4_isHeard_15 : decode cX4_isHeard 15 = .ok (.goto 4, 3) := by decide +kernel
theorem dX4_isHeard_18 : decode cX4_isHeard 18 = .ok (.iconst 0, 1) := by decide +kernel
theorem dX4_isHeard_19 : decode cX4_isHeard 19 = .ok (.ireturn, 1) := by decide +kernel
theorem dX4_rent_0 : decode cX4_rent 0 = .ok (.aload_n 0, 1) := by decide +kernel
theorem dX4_rent_1 : decode cX4_rent 1 = .ok (.iload_n 1, 1) := by decide +kernel
theorem dX4_rent_2 : decode cX4_rent 2 = .ok (.iconst 0, 1) := by decide +kernel
theorem dX4_rent_3 : decode cX4_rent 3 = .ok (.invokevirtual 63, 3) := by decide +kernel
theorem dX4_rent_6 : decode cX4_rent 6 = .ok (.iconst 0, 1) := by decide +kernel
theorem dX4_rent_7 : decode cX4_rent 7 = .ok (.bipush 50, 2) := by decide +kernel
theorem dX4_rent_9 : decode cX4_rent 9 = .ok (.aload_n 0, 1) := by decide +kernel
theorem dX4_rent_10 : decode cX4_rent 10 = .ok (.iload_n 1, 1) := by decide +kernel
theorem dX4_rent_11 : decode cX4_rent 11 = .ok (.invokevirtual 72, 3) := by decide +kernel
theorem dX4_rent_14 : decode cX4_rent 14 = .ok (.isub, 1) := by decide +kernel
theorem dX4_rent_15 : decode cX4_rent 15 = .ok (.invokestatic 66, 3) := by decide +kernel
theorem dX4_rent_18 : decode cX4_rent 18 = .ok (.iadd, 1) := by decide +kernel
theorem dX4_rent_19 : decode cX4_rent 19 = .ok (.ireturn, 1) := by decide +kernel
theorem dX4_corner_0 : decode cX4_corner 0 = .ok (.iload_n 1, 1) := by decide +kernel
theorem dX4_corner_1 : decode cX4_corner 1 = .ok (.invokestatic 76, 3) := by decide +kernel
theorem dX4_corner_4 : decode cX4_corner 4 = .ok (.ifCond .eq 15, 3) := by decide +kernel
theorem dX4_corner_7 : decode cX4_corner 7 = .ok (.iload_n 2, 1) := by decide +kernel
theorem dX4_corner_8 : decode cX4_corner 8 = .ok (.i2l, 1) := by decide +kernel
theorem dX4_corner_9 : decode cX4_corner 9 = .ok (.lconst 0, 1) := by decide +kernel
theorem dX4_corner_10 : decode cX4_corner 10 = .ok (.ldc2_w 80, 3) := by decide +kernel
theorem dX4_corner_13 : decode cX4_corner 13 = .ok (.invokestatic 57, 3) := by decide +kernel
theorem dX4_corner_16 : decode cX4_corner 16 = .ok (.ifCond .ne 9, 3) := by decide +kernel
theorem dX4_corner_19 : decode cX4_corner 19 = .ok (.aload_n 0, 1) := by decide +kernel
theorem dX4_corner_20 : decode cX4_corner 20 = .ok (.iconst 0, 1) := by decide +kernel
theorem dX4_corner_21 : decode cX4_corner 21 = .ok (.invokevirtual 82, 3) := by decide +kernel
theorem dX4_corner_24 : decode cX4_corner 24 = .ok (.ireturn, 1) := by decide +kernel
theorem dX4_corner_25 : decode cX4_corner 25 = .ok (.iload_n 2, 1) := by decide +kernel
theorem dX4_corner_26 : decode cX4_corner 26 = .ok (.tableswitch 62 5 8 #[30, 36, 42, 56], 30) := by decide +kernel
theorem dX4_corner_56 : decode cX4_corner 56 = .ok (.aload_n 0, 1) := by decide +kernel
theorem dX4_corner_57 : decode cX4_corner 57 = .ok (.iload_n 1, 1) := by decide +kernel
theorem dX4_corner_58 : decode cX4_corner 58 = .ok (.invokevirtual 85, 3) := by decide +kernel
theorem dX4_corner_61 : decode cX4_corner 61 = .ok (.ireturn, 1) := by decide +kernel
theorem dX4_corner_62 : decode cX4_corner 62 = .ok (.aload_n 0, 1) := by decide +kernel
theorem dX4_corner_63 : decode cX4_corner 63 = .ok (.iload_n 1, 1) := by decide +kernel
theorem dX4_corner_64 : decode cX4_corner 64 = .ok (.invokevirtual 72, 3) := by decide +kernel
theorem dX4_corner_67 : decode cX4_corner 67 = .ok (.ireturn, 1) := by decide +kernel
theorem dX4_corner_68 : decode cX4_corner 68 = .ok (.aload_n 0, 1) := by decide +kernel
theorem dX4_corner_69 : decode cX4_corner 69 = .ok (.iload_n 1, 1) := by decide +kernel
theorem dX4_corner_70 : decode cX4_corner 70 = .ok (.invokevirtual 88, 3) := by decide +kernel
theorem dX4_corner_73 : decode cX4_corner 73 = .ok (.ifCond .eq 7, 3) := by decide +kernel
theorem dX4_corner_76 : decode cX4_corner 76 = .ok (.iconst 1, 1) := by decide +kernel
theorem dX4_corner_77 : decode cX4_corner 77 = .ok (.goto 4, 3) := by decide +kernel
theorem dX4_corner_80 : decode cX4_corner 80 = .ok (.iconst 0, 1) := by decide +kernel
theorem dX4_corner_81 : decode cX4_corner 81 = .ok (.ireturn, 1) := by decide +kernel
theorem dX4_corner_82 : decode cX4_corner 82 = .ok (.aload_n 0, 1) := by decide +kernel
theorem dX4_corner_83 : decode cX4_corner 83 = .ok (.iload_n 1, 1) := by decide +kernel
theorem dX4_corner_84 : decode cX4_corner 84 = .ok (.invokevirtual 91, 3) := by decide +kernel
theorem dX4_corner_87 : decode cX4_corner 87 = .ok (.ireturn, 1) := by decide +kernel
theorem dX4_corner_88 : decode cX4_corner 88 = .ok (.aload_n 0, 1) := by decide +kernel
theorem dX4_corner_89 : decode cX4_corner 89 = .ok (.iload_n 1, 1) := by decide +kernel
theorem dX4_corner_90 : decode cX4_corner 90 = .ok (.iload_n 2, 1) := by decide +kernel
theorem dX4_corner_91 : decode cX4_corner 91 = .ok (.invokevirtual 63, 3) := by decide +kernel
theorem dX4_corner_94 : decode cX4_corner 94 = .ok (.ireturn, 1) := by decide +kernel
theorem dX4_mostOf_0 : decode cX4_mostOf 0 = .ok (.iload_n 0, 1) := by decide +kernel
theorem dX4_mostOf_1 : decode cX4_mostOf 1 = .ok (.iconst 1, 1) := by decide +kernel
theorem dX4_mostOf_2 : decode cX4_mostOf 2 = .ok (.if_icmp .ne 8, 3) := by decide +kernel
theorem dX4_mostOf_5 : decode cX4_mostOf 5 = .ok (.bipush 15, 2) := by decide +kernel
theorem dX4_mostOf_7 : decode cX4_mostOf 7 = .ok (.goto 15, 3) := by decide +kernel
theorem dX4_mostOf_10 : decode cX4_mostOf 10 = .ok (.iload_n 0, 1) := by decide +kernel
theorem dX4_mostOf_11 : decode cX4_mostOf 11 = .ok (.iconst 2, 1) := by decide +kernel
theorem dX4_mostOf_12 : decode cX4_mostOf 12 = .ok (.if_icmp .ne 8, 3) := by decide +kernel
theorem dX4_mostOf_15 : decode cX4_mostOf 15 = .ok (.bipush 9, 2) := by decide +kernel
theorem dX4_mostOf_17 : decode cX4_mostOf 17 = .ok (.goto 5, 3) := by decide +kernel
theorem dX4_mostOf_20 : decode cX4_mostOf 20 = .ok (.bipush 99, 2) := by decide +kernel
theorem dX4_mostOf_22 : decode cX4_mostOf 22 = .ok (.ireturn, 1) := by decide +kernel
theorem dX4_build_0 : decode cX4_build 0 = .ok (.iload_n 1, 1) := by decide +kernel
theorem dX4_build_1 : decode cX4_build 1 = .ok (.invokestatic 76, 3) := by decide +kernel
theorem dX4_build_4 : decode cX4_build 4 = .ok (.ifCond .eq 33, 3) := by decide +kernel
theorem dX4_build_7 : decode cX4_build 7 = .ok (.iload_n 2, 1) := by decide +kernel
theorem dX4_build_8 : decode cX4_build 8 = .ok (.i2l, 1) := by decide +kernel
theorem dX4_build_9 : decode cX4_build 9 = .ok (.lconst 0, 1) := by decide +kernel
theorem dX4_build_10 : decode cX4_build 10 = .ok (.ldc2_w 94, 3) := by decide +kernel
theorem dX4_build_13 : decode cX4_build 13 = .ok (.invokestatic 57, 3) := by decide +kernel
theorem dX4_build_16 : decode cX4_build 16 = .ok (.ifCond .eq 21, 3) := by decide +kernel
theorem dX4_build_19 : decode cX4_build 19 = .ok (.iload_n 3, 1) := by decide +kernel
theorem dX4_build_20 : decode cX4_build 20 = .ok (.i2l, 1) := by decide +kernel
theorem dX4_build_21 : decode cX4_build 21 = .ok (.lconst 0, 1) := by decide +kernel
theorem dX4_build_22 : decode cX4_build 22 = .ok (.iload_n 2, 1) := by decide +kernel
theorem dX4_build_23 : decode cX4_build 23 = .ok (.invokestatic 96, 3) := by decide +kernel
theorem dX4_build_26 : decode cX4_build 26 = .ok (.i2l, 1) := by decide +kernel
theorem dX4_build_27 : decode cX4_build 27 = .ok (.invokestatic 57, 3) := by decide +kernel
theorem dX4_build_30 : decode cX4_build 30 = .ok (.ifCond .eq 7, 3) := by decide +kernel
theorem dX4_build_33 : decode cX4_build 33 = .ok (.iconst 1, 1) := by decide +kernel
theorem dX4_build_34 : decode cX4_build 34 = .ok (.goto 4, 3) := by decide +kernel
theorem dX4_build_37 : decode cX4_build 37 = .ok (.iconst 0, 1) := by decide +kernel
theorem dX4_build_38 : decode cX4_build 38 = .ok (.istore 4, 2) := by decide +kernel
theorem dX4_build_40 : decode cX4_build 40 = .ok (.iload 4, 2) := by decide +kernel
theorem dX4_build_42 : decode cX4_build 42 = .ok (.ifCond .eq 18, 3) := by decide +kernel
theorem dX4_build_45 : decode cX4_build 45 = .ok (.aload_n 0, 1) := by decide +kernel
theorem dX4_build_46 : decode cX4_build 46 = .ok (.iconst 5, 1) := by decide +kernel
theorem dX4_build_47 : decode cX4_build 47 = .ok (.iconst 5, 1) := by decide +kernel
theorem dX4_build_48 : decode cX4_build 48 = .ok (.iload_n 1, 1) := by decide +kernel
theorem dX4_build_49 : decode cX4_build 49 = .ok (.imul, 1) := by decide +kernel
theorem dX4_build_50 : decode cX4_build 50 = .ok (.iadd, 1) := by decide +kernel
theorem dX4_build_51 : decode cX4_build 51 = .ok (.iload_n 2, 1) := by decide +kernel
theorem dX4_build_52 : decode cX4_build 52 = .ok (.iadd, 1) := by decide +kernel
theorem dX4_build_53 : decode cX4_build 53 = .ok (.iload_n 3, 1) := by decide +kernel
theorem dX4_build_54 : decode cX4_build 54 = .ok (.invokevirtual 99, 3) := by decide +kernel
theorem dX4_build_57 : decode cX4_build 57 = .ok (.goto 8, 3) := by decide +kernel
theorem dX4_build_60 : decode cX4_build 60 = .ok (.aload_n 0, 1) := by decide +kernel
theorem dX4_build_61 : decode cX4_build 61 = .ok (.iconst 0, 1) := by decide +kernel
theorem dX4_build_62 : decode cX4_build 62 = .ok (.invokevirtual 82, 3) := by decide +kernel
theorem dX4_build_65 : decode cX4_build 65 = .ok (.ireturn, 1) := by decide +kernel
theorem dX4_aboveOf_0 : decode cX4_aboveOf 0 = .ok (.iload_n 0, 1) := by decide +kernel
theorem dX4_aboveOf_1 : decode cX4_aboveOf 1 = .ok (.iconst 3, 1) := by decide +kernel
theorem dX4_aboveOf_2 : decode cX4_aboveOf 2 = .ok (.if_icmp .ne 7, 3) := by decide +kernel
theorem dX4_aboveOf_5 : decode cX4_aboveOf 5 = .ok (.iconst 2, 1) := by decide +kernel
theorem dX4_aboveOf_6 : decode cX4_aboveOf 6 = .ok (.goto 23, 3) := by decide +kernel
theorem dX4_aboveOf_9 : decode cX4_aboveOf 9 = .ok (.iload_n 0, 1) := by decide +kernel
theorem dX4_aboveOf_10 : decode cX4_aboveOf 10 = .ok (.iconst 4, 1) := by decide +kernel
theorem dX4_aboveOf_11 : decode cX4_aboveOf 11 = .ok (.if_icmp .ne 7, 3) := by decide +kernel
theorem dX4_aboveOf_14 : decode cX4_aboveOf 14 = .ok (.iconst 3, 1) := by decide +kernel
theorem dX4_aboveOf_15 : decode cX4_aboveOf 15 = .ok (.goto 14, 3) := by decide +kernel
theorem dX4_aboveOf_18 : decode cX4_aboveOf 18 = .ok (.iload_n 0, 1) := by decide +kernel
theorem dX4_aboveOf_19 : decode cX4_aboveOf 19 = .ok (.bipush 6, 2) := by decide +kernel
theorem dX4_aboveOf_21 : decode cX4_aboveOf 21 = .ok (.if_icmp .ne 7, 3) := by decide +kernel
theorem dX4_aboveOf_24 : decode cX4_aboveOf 24 = .ok (.iconst 1, 1) := by decide +kernel
theorem dX4_aboveOf_25 : decode cX4_aboveOf 25 = .ok (.goto 4, 3) := by decide +kernel
theorem dX4_aboveOf_28 : decode cX4_aboveOf 28 = .ok (.iconst 0, 1) := by decide +kernel
theorem dX4_aboveOf_29 : decode cX4_aboveOf 29 = .ok (.ireturn, 1) := by decide +kernel
theorem dX4_isUnder_0 : decode cX4_isUnder 0 = .ok (.iload_n 0, 1) := by decide +kernel
theorem dX4_isUnder_1 : decode cX4_isUnder 1 = .ok (.istore_n 2, 1) := by decide +kernel
theorem dX4_isUnder_2 : decode cX4_isUnder 2 = .ok (.iload_n 2, 1) := by decide +kernel
theorem dX4_isUnder_3 : decode cX4_isUnder 3 = .ok (.ifCond .eq 16, 3) := by decide +kernel
theorem dX4_isUnder_6 : decode cX4_isUnder 6 = .ok (.iload_n 2, 1) := by decide +kernel
theorem dX4_isUnder_7 : decode cX4_isUnder 7 = .ok (.iload_n 1, 1) := by decide +kernel
theorem dX4_isUnder_8 : decode cX4_isUnder 8 = .ok (.if_icmp .eq 11, 3) := by decide +kernel
theorem dX4_isUnder_11 : decode cX4_isUnder 11 = .ok (.iload_n 2, 1) := by decide +kernel
theorem dX4_isUnder_12 : decode cX4_isUnder 12 = .ok (.invokestatic 102, 3) := by decide +kernel
theorem dX4_isUnder_15 : decode cX4_isUnder 15 = .ok (.istore_n 2, 1) := by decide +kernel
theorem dX4_isUnder_16 : decode cX4_isUnder 16 = .ok (.goto (-14), 3) := by decide +kernel
theorem dX4_isUnder_19 : decode cX4_isUnder 19 = .ok (.iload_n 2, 1) := by decide +kernel
theorem dX4_isUnder_20 : decode cX4_isUnder 20 = .ok (.iload_n 1, 1) := by decide +kernel
theorem dX4_isUnder_21 : decode cX4_isUnder 21 = .ok (.if_icmp .ne 7, 3) := by decide +kernel
theorem dX4_isUnder_24 : decode cX4_isUnder 24 = .ok (.iconst 1, 1) := by decide +kernel
theorem dX4_isUnder_25 : decode cX4_isUnder 25 = .ok (.goto 4, 3) := by decide +kernel
theorem dX4_isUnder_28 : decode cX4_isUnder 28 = .ok (.iconst 0, 1) := by decide +kernel
theorem dX4_isUnder_29 : decode cX4_isUnder 29 = .ok (.ireturn, 1) := by decide +kernel
theorem dX4_speed_0 : decode cX4_speed 0 = .ok (.aload_n 0, 1) := by decide +kernel
theorem dX4_speed_1 : decode cX4_speed 1 = .ok (.iload_n 1, 1) := by decide +kernel
theorem dX4_speed_2 : decode cX4_speed 2 = .ok (.iconst 1, 1) := by decide +kernel
theorem dX4_speed_3 : decode cX4_speed 3 = .ok (.invokevirtual 69, 3) := by decide +kernel
theorem dX4_speed_6 : decode cX4_speed 6 = .ok (.istore_n 2, 1) := by decide +kernel
theorem dX4_speed_7 : decode cX4_speed 7 = .ok (.iconst 3, 1) := by decide +kernel
theorem dX4_speed_8 : decode cX4_speed 8 = .ok (.aload_n 0, 1) := by decide +kernel
theorem dX4_speed_9 : decode cX4_speed 9 = .ok (.iload_n 2, 1) := by decide +kernel
theorem dX4_speed_10 : decode cX4_speed 10 = .ok (.invokevirtual 85, 3) := by decide +kernel
theorem dX4_speed_13 : decode cX4_speed 13 = .ok (.bipush 10, 2) := by decide +kernel
theorem dX4_speed_15 : decode cX4_speed 15 = .ok (.idiv, 1) := by decide +kernel
theorem dX4_speed_16 : decode cX4_speed 16 = .ok (.invokestatic 44, 3) := by decide +kernel
theorem dX4_speed_19 : decode cX4_speed 19 = .ok (.iconst 1, 1) := by decide +kernel
theorem dX4_speed_20 : decode cX4_speed 20 = .ok (.iadd, 1) := by decide +kernel
theorem dX4_speed_21 : decode cX4_speed 21 = .ok (.istore_n 3, 1) := by decide +kernel
theorem dX4_speed_22 : decode cX4_speed 22 = .ok (.iconst 0, 1) := by decide +kernel
theorem dX4_speed_23 : decode cX4_speed 23 = .ok (.iload_n 3, 1) := by decide +kernel
theorem dX4_speed_24 : decode cX4_speed 24 = .ok (.aload_n 0, 1) := by decide +kernel
theorem dX4_speed_25 : decode cX4_speed 25 = .ok (.iload_n 2, 1) := by decide +kernel
theorem dX4_speed_26 : decode cX4_speed 26 = .ok (.iconst 2, 1) := by decide +kernel
theorem dX4_speed_27 : decode cX4_speed 27 = .ok (.invokevirtual 63, 3) := by decide +kernel
theorem dX4_speed_30 : decode cX4_speed 30 = .ok (.isub, 1) := by decide +kernel
theorem dX4_speed_31 : decode cX4_speed 31 = .ok (.invokestatic 66, 3) := by decide +kernel
theorem dX4_speed_34 : decode cX4_speed 34 = .ok (.istore 4, 2) := by decide +kernel
theorem dX4_speed_36 : decode cX4_speed 36 = .ok (.iload 4, 2) := by decide +kernel
theorem dX4_speed_38 : decode cX4_speed 38 = .ok (.aload_n 0, 1) := by decide +kernel
theorem dX4_speed_39 : decode cX4_speed 39 = .ok (.iload_n 1, 1) := by decide +kernel
theorem dX4_speed_40 : decode cX4_speed 40 = .ok (.iconst 2, 1) := by decide +kernel
theorem dX4_speed_41 : decode cX4_speed 41 = .ok (.invokevirtual 69, 3) := by decide +kernel
theorem dX4_speed_44 : decode cX4_speed 44 = .ok (.bipush 100, 2) := by decide +kernel
theorem dX4_speed_46 : decode cX4_speed 46 = .ok (.idiv, 1) := by decide +kernel
theorem dX4_speed_47 : decode cX4_speed 47 = .ok (.iadd, 1) := by decide +kernel
theorem dX4_speed_48 : decode cX4_speed 48 = .ok (.istore 5, 2) := by decide +kernel
theorem dX4_speed_50 : decode cX4_speed 50 = .ok (.aload_n 0, 1) := by decide +kernel
theorem dX4_speed_51 : decode cX4_speed 51 = .ok (.iload_n 1, 1) := by decide +kernel
theorem dX4_speed_52 : decode cX4_speed 52 = .ok (.iconst 0, 1) := by decide +kernel
theorem dX4_speed_53 : decode cX4_speed 53 = .ok (.invokevirtual 69, 3) := by decide +kernel
theorem dX4_speed_56 : decode cX4_speed 56 = .ok (.tableswitch 100 1 6 #[40, 48, 55, 62, 71, 90], 40) := by decide +kernel
theorem dX4_speed_96 : decode cX4_speed 96 = .ok (.iload_n 3, 1) := by decide +kernel
theorem dX4_speed_97 : decode cX4_speed 97 = .ok (.iconst 1, 1) := by decide +kernel
theorem dX4_speed_98 : decode cX4_speed 98 = .ok (.iadd, 1) := by decide +kernel
theorem dX4_speed_99 : decode cX4_speed 99 = .ok (.istore 6, 2) := by decide +kernel
theorem dX4_speed_101 : decode cX4_speed 101 = .ok (.goto 58, 3) := by decide +kernel
theorem dX4_speed_104 : decode cX4_speed 104 = .ok (.iload 4, 2) := by decide +kernel
theorem dX4_speed_106 : decode cX4_speed 106 = .ok (.istore 6, 2) := by decide +kernel
theorem dX4_speed_108 : decode cX4_speed 108 = .ok (.goto 51, 3) := by decide +kernel
theorem dX4_speed_111 : decode cX4_speed 111 = .ok (.iload 5, 2) := by decide +kernel
theorem dX4_speed_113 : decode cX4_speed 113 = .ok (.istore 6, 2) := by decide +kernel
theorem dX4_speed_115 : decode cX4_speed 115 = .ok (.goto 44, 3) := by decide +kernel
theorem dX4_speed_118 : decode cX4_speed 118 = .ok (.iload 5, 2) := by decide +kernel
theorem dX4_speed_120 : decode cX4_speed 120 = .ok (.iconst 2, 1) := by decide +kernel
theorem dX4_speed_121 : decode cX4_speed 121 = .ok (.iadd, 1) := by decide +kernel
theorem dX4_speed_122 : decode cX4_speed 122 = .ok (.istore 6, 2) := by decide +kernel
theorem dX4_speed_124 : decode cX4_speed 124 = .ok (.goto 35, 3) := by decide +kernel
theorem dX4_speed_127 : decode cX4_speed 127 = .ok (.aload_n 0, 1) := by decide +kernel
theorem dX4_speed_128 : decode cX4_speed 128 = .ok (.iload_n 2, 1) := by decide +kernel
theorem dX4_speed_129 : decode cX4_speed 129 = .ok (.iconst 2, 1) := by decide +kernel
theorem dX4_speed_130 : decode cX4_speed 130 = .ok (.invokevirtual 63, 3) := by decide +kernel
theorem dX4_speed_133 : decode cX4_speed 133 = .ok (.ifCond .le 7, 3) := by decide +kernel
theorem dX4_speed_136 : decode cX4_speed 136 = .ok (.iconst 0, 1) := by decide +kernel
theorem dX4_speed_137 : decode cX4_speed 137 = .ok (.goto 4, 3) := by decide +kernel
theorem dX4_speed_140 : decode cX4_speed 140 = .ok (.iload_n 3, 1) := by decide +kernel
theorem dX4_speed_141 : decode cX4_speed 141 = .ok (.istore 6, 2) := by decide +kernel
theorem dX4_speed_143 : decode cX4_speed 143 = .ok (.goto 16, 3) := by decide +kernel
theorem dX4_speed_146 : decode cX4_speed 146 = .ok (.iconst 2, 1) := by decide +kernel
theorem dX4_speed_147 : decode cX4_speed 147 = .ok (.iload_n 3, 1) := by decide +kernel
theorem dX4_speed_148 : decode cX4_speed 148 = .ok (.iconst 1, 1) := by decide +kernel
theorem dX4_speed_149 : decode cX4_speed 149 = .ok (.iadd, 1) := by decide +kernel
theorem dX4_speed_150 : decode cX4_speed 150 = .ok (.imul, 1) := by decide +kernel
theorem dX4_speed_151 : decode cX4_speed 151 = .ok (.istore 6, 2) := by decide +kernel
theorem dX4_speed_153 : decode cX4_speed 153 = .ok (.goto 6, 3) := by decide +kernel
theorem dX4_speed_156 : decode cX4_speed 156 = .ok (.iload_n 3, 1) := by decide +kernel
theorem dX4_speed_157 : decode cX4_speed 157 = .ok (.istore 6, 2) := by decide +kernel
theorem dX4_speed_159 : decode cX4_speed 159 = .ok (.aload_n 0, 1) := by decide +kernel
theorem dX4_speed_160 : decode cX4_speed 160 = .ok (.getfield 9, 3) := by decide +kernel
theorem dX4_speed_163 : decode cX4_speed 163 = .ok (.iconst 2, 1) := by decide +kernel
theorem dX4_speed_164 : decode cX4_speed 164 = .ok (.iaload, 1) := by decide +kernel
theorem dX4_speed_165 : decode cX4_speed 165 = .ok (.iconst 1, 1) := by decide +kernel
theorem dX4_speed_166 : decode cX4_speed 166 = .ok (.if_icmp .ne 10, 3) := by decide +kernel
theorem dX4_speed_169 : decode cX4_speed 169 = .ok (.iconst 2, 1) := by decide +kernel
theorem dX4_speed_170 : decode cX4_speed 170 = .ok (.iload 6, 2) := by decide +kernel
theorem dX4_speed_172 : decode cX4_speed 172 = .ok (.imul, 1) := by decide +kernel
theorem dX4_speed_173 : decode cX4_speed 173 = .ok (.goto 5, 3) := by decide +kernel
theorem dX4_speed_176 : decode cX4_speed 176 = .ok (.iload 6, 2) := by decide +kernel
theorem dX4_speed_178 : decode cX4_speed 178 = .ok (.ireturn, 1) := by decide +kernel
theorem dX4_gathers_0 : decode cX4_gathers 0 = .ok (.aload_n 0, 1) := by decide +kernel
theorem dX4_gathers_1 : decode cX4_gathers 1 = .ok (.iload_n 1, 1) := by decide +kernel
theorem dX4_gathers_2 : decode cX4_gathers 2 = .ok (.iconst 0, 1) := by decide +kernel
theorem dX4_gathers_3 : decode cX4_gathers 3 = .ok (.invokevirtual 69, 3) := by decide +kernel
theorem dX4_gathers_6 : decode cX4_gathers 6 = .ok (.tableswitch 59 1 6 #[57, 38, 40, 42, 57, 57], 38) := by decide +kernel
theorem dX4_gathers_44 : decode cX4_gathers 44 = .ok (.iconst 2, 1) := by decide +kernel
theorem dX4_gathers_45 : decode cX4_gathers 45 = .ok (.ireturn, 1) := by decide +kernel
theorem dX4_gathers_46 : decode cX4_gathers 46 = .ok (.iconst 4, 1) := by decide +kernel
theorem dX4_gathers_47 : decode cX4_gathers 47 = .ok (.ireturn, 1) := by decide +kernel
theorem dX4_gathers_48 : decode cX4_gathers 48 = .ok (.iconst 4, 1) := by decide +kernel
theorem dX4_gathers_49 : decode cX4_gathers 49 = .ok (.aload_n 0, 1) := by decide +kernel
theorem dX4_gathers_50 : decode cX4_gathers 50 = .ok (.aload_n 0, 1) := by decide +kernel
theorem dX4_gathers_51 : decode cX4_gathers 51 = .ok (.iload_n 1, 1) := by decide +kernel
theorem dX4_gathers_52 : decode cX4_gathers 52 = .ok (.iconst 1, 1) := by decide +kernel
theorem dX4_gathers_53 : decode cX4_gathers 53 = .ok (.invokevirtual 69, 3) := by decide +kernel
theorem dX4_gathers_56 : decode cX4_gathers 56 = .ok (.invokevirtual 85, 3) := by decide +kernel
theorem dX4_gathers_59 : decode cX4_gathers 59 = .ok (.iconst 5, 1) := by decide +kernel
theorem dX4_gathers_60 : decode cX4_gathers 60 = .ok (.idiv, 1) := by decide +kernel
theorem dX4_gathers_61 : decode cX4_gathers 61 = .ok (.iadd, 1) := by decide +kernel
theorem dX4_gathers_62 : decode cX4_gathers 62 = .ok (.ireturn, 1) := by decide +kernel
theorem dX4_gathers_63 : decode cX4_gathers 63 = .ok (.iconst 0, 1) := by decide +kernel
theorem dX4_gathers_64 : decode cX4_gathers 64 = .ok (.ireturn, 1) := by decide +kernel
theorem dX4_gathers_65 : decode cX4_gathers 65 = .ok (.iconst 1, 1) := by decide +kernel
theorem dX4_gathers_66 : decode cX4_gathers 66 = .ok (.ireturn, 1) := by decide +kernel
theorem dX4_isKind_0 : decode cX4_isKind 0 = .ok (.iload_n 0, 1) := by decide +kernel
theorem dX4_isKind_1 : decode cX4_isKind 1 = .ok (.i2l, 1) := by decide +kernel
theorem dX4_isKind_2 : decode cX4_isKind 2 = .ok (.lconst 0, 1) := by decide +kernel
theorem dX4_isKind_3 : decode cX4_isKind 3 = .ok (.ldc2_w 105, 3) := by decide +kernel
theorem dX4_isKind_6 : decode cX4_isKind 6 = .ok (.invokestatic 57, 3) := by decide +kernel
theorem dX4_isKind_9 : decode cX4_isKind 9 = .ok (.ireturn, 1) := by decide +kernel
theorem dX4_adds_0 : decode cX4_adds 0 = .ok (.aload_n 0, 1) := by decide +kernel
theorem dX4_adds_1 : decode cX4_adds 1 = .ok (.getfield 9, 3) := by decide +kernel
theorem dX4_adds_4 : decode cX4_adds 4 = .ok (.iconst 1, 1) := by decide +kernel
theorem dX4_adds_5 : decode cX4_adds 5 = .ok (.iaload, 1) := by decide +kernel
theorem dX4_adds_6 : decode cX4_adds 6 = .ok (.istore 4, 2) := by decide +kernel
theorem dX4_adds_8 : decode cX4_adds 8 = .ok (.aload_n 0, 1) := by decide +kernel
theorem dX4_adds_9 : decode cX4_adds 9 = .ok (.getfield 9, 3) := by decide +kernel
theorem dX4_adds_12 : decode cX4_adds 12 = .ok (.iconst 1, 1) := by decide +kernel
theorem dX4_adds_13 : decode cX4_adds 13 = .ok (.dup2, 1) := by decide +kernel
theorem dX4_adds_14 : decode cX4_adds 14 = .ok (.iaload, 1) := by decide +kernel
theorem dX4_adds_15 : decode cX4_adds 15 = .ok (.iconst 1, 1) := by decide +kernel
theorem dX4_adds_16 : decode cX4_adds 16 = .ok (.iadd, 1) := by decide +kernel
theorem dX4_adds_17 : decode cX4_adds 17 = .ok (.iastore, 1) := by decide +kernel
theorem dX4_adds_18 : decode cX4_adds 18 = .ok (.aload_n 0, 1) := by decide +kernel
theorem dX4_adds_19 : decode cX4_adds 19 = .ok (.iload 4, 2) := by decide +kernel
theorem dX4_adds_21 : decode cX4_adds 21 = .ok (.iconst 0, 1) := by decide +kernel
theorem dX4_adds_22 : decode cX4_adds 22 = .ok (.iload_n 1, 1) := by decide +kernel
theorem dX4_adds_23 : decode cX4_adds 23 = .ok (.invokevirtual 107, 3) := by decide +kernel
theorem dX4_adds_26 : decode cX4_adds 26 = .ok (.aload_n 0, 1) := by decide +kernel
theorem dX4_adds_27 : decode cX4_adds 27 = .ok (.iload 4, 2) := by decide +kernel
theorem dX4_adds_29 : decode cX4_adds 29 = .ok (.iconst 1, 1) := by decide +kernel
theorem dX4_adds_30 : decode cX4_adds 30 = .ok (.iload_n 2, 1) := by decide +kernel
theorem dX4_adds_31 : decode cX4_adds 31 = .ok (.invokevirtual 107, 3) := by decide +kernel
theorem dX4_adds_34 : decode cX4_adds 34 = .ok (.aload_n 0, 1) := by decide +kernel
theorem dX4_adds_35 : decode cX4_adds 35 = .ok (.iload 4, 2) := by decide +kernel
theorem dX4_adds_37 : decode cX4_adds 37 = .ok (.iconst 2, 1) := by decide +kernel
theorem dX4_adds_38 : decode cX4_adds 38 = .ok (.iload_n 3, 1) := by decide +kernel
theorem dX4_adds_39 : decode cX4_adds 39 = .ok (.invokevirtual 107, 3) := by decide +kernel
theorem dX4_adds_42 : decode cX4_adds 42 = .ok (.iload 4, 2) := by decide +kernel
theorem dX4_adds_44 : decode cX4_adds 44 = .ok (.ireturn, 1) := by decide +kernel
theorem dX4_says_0 : decode cX4_says 0 = .ok (.iload_n 1, 1) := by decide +kernel
theorem dX4_says_1 : decode cX4_says 1 = .ok (.invokestatic 110, 3) := by decide +kernel
theorem dX4_says_4 : decode cX4_says 4 = .ok (.ifCond .eq 10, 3) := by decide +kernel
theorem dX4_says_7 : decode cX4_says 7 = .ok (.iload_n 2, 1) := by decide +kernel
theorem dX4_says_8 : decode cX4_says 8 = .ok (.invokestatic 76, 3) := by decide +kernel
theorem dX4_says_11 : decode cX4_says 11 = .ok (.ifCond .ne 9, 3) := by decide +kernel
theorem dX4_says_14 : decode cX4_says 14 = .ok (.aload_n 0, 1) := by decide +kernel
theorem dX4_says_15 : decode cX4_says 15 = .ok (.iconst 0, 1) := by decide +kernel
theorem dX4_says_16 : decode cX4_says 16 = .ok (.invokevirtual 82, 3) := by decide +kernel
theorem dX4_says_19 : decode cX4_says 19 = .ok (.ireturn, 1) := by decide +kernel
theorem dX4_says_20 : decode cX4_says 20 = .ok (.aload_n 0, 1) := by decide +kernel
theorem dX4_says_21 : decode cX4_says 21 = .ok (.getfield 9, 3) := by decide +kernel
theorem dX4_says_24 : decode cX4_says 24 = .ok (.iconst 1, 1) := by decide +kernel
theorem dX4_says_25 : decode cX4_says 25 = .ok (.iaload, 1) := by decide +kernel
theorem dX4_says_26 : decode cX4_says 26 = .ok (.bipush 8, 2) := by decide +kernel
theorem dX4_says_28 : decode cX4_says 28 = .ok (.if_icmp .ne 11, 3) := by decide +kernel
theorem dX4_says_31 : decode cX4_says 31 = .ok (.aload_n 0, 1) := by decide +kernel
theorem dX4_says_32 : decode cX4_says 32 = .ok (.iconst 1, 1) := by decide +kernel
theorem dX4_says_33 : decode cX4_says 33 = .ok (.invokevirtual 82, 3) := by decide +kernel
theorem dX4_says_36 : decode cX4_says 36 = .ok (.goto 10, 3) := by decide +kernel
theorem dX4_says_39 : decode cX4_says 39 = .ok (.aload_n 0, 1) := by decide +kernel
theorem dX4_says_40 : decode cX4_says 40 = .ok (.iload_n 1, 1) := by decide +kernel
theorem dX4_says_41 : decode cX4_says 41 = .ok (.iload_n 2, 1) := by decide +kernel
theorem dX4_says_42 : decode cX4_says 42 = .ok (.iconst 1, 1) := by decide +kernel
theorem dX4_says_43 : decode cX4_says 43 = .ok (.invokevirtual 113, 3) := by decide +kernel
theorem dX4_says_46 : decode cX4_says 46 = .ok (.ireturn, 1) := by decide +kernel
theorem dX4_of_0 : decode cX4_of 0 = .ok (.aload_n 0, 1) := by decide +kernel
theorem dX4_of_1 : decode cX4_of 1 = .ok (.iload_n 1, 1) := by decide +kernel
theorem dX4_of_2 : decode cX4_of 2 = .ok (.invokevirtual 117, 3) := by decide +kernel
theorem dX4_of_5 : decode cX4_of 5 = .ok (.ifCond .eq 15, 3) := by decide +kernel
theorem dX4_of_8 : decode cX4_of 8 = .ok (.iload_n 2, 1) := by decide +kernel
theorem dX4_of_9 : decode cX4_of 9 = .ok (.i2l, 1) := by decide +kernel
theorem dX4_of_10 : decode cX4_of 10 = .ok (.lconst 0, 1) := by decide +kernel
theorem dX4_of_11 : decode cX4_of 11 = .ok (.ldc2_w 94, 3) := by decide +kernel
theorem dX4_of_14 : decode cX4_of 14 = .ok (.invokestatic 57, 3) := by decide +kernel
theorem dX4_of_17 : decode cX4_of 17 = .ok (.ifCond .ne 9, 3) := by decide +kernel
theorem dX4_of_20 : decode cX4_of 20 = .ok (.aload_n 0, 1) := by decide +kernel
theorem dX4_of_21 : decode cX4_of 21 = .ok (.iconst 0, 1) := by decide +kernel
theorem dX4_of_22 : decode cX4_of 22 = .ok (.invokevirtual 82, 3) := by decide +kernel
theorem dX4_of_25 : decode cX4_of 25 = .ok (.ireturn, 1) := by decide +kernel
theorem dX4_of_26 : decode cX4_of 26 = .ok (.iload_n 2, 1) := by decide +kernel
theorem dX4_of_27 : decode cX4_of 27 = .ok (.iconst 3, 1) := by decide +kernel
theorem dX4_of_28 : decode cX4_of 28 = .ok (.if_icmp .ge 12, 3) := by decide +kernel
theorem dX4_of_31 : decode cX4_of 31 = .ok (.aload_n 0, 1) := by decide +kernel
theorem dX4_of_32 : decode cX4_of 32 = .ok (.iload_n 1, 1) := by decide +kernel
theorem dX4_of_33 : decode cX4_of 33 = .ok (.iload_n 2, 1) := by decide +kernel
theorem dX4_of_34 : decode cX4_of 34 = .ok (.invokevirtual 69, 3) := by decide +kernel
theorem dX4_of_37 : decode cX4_of 37 = .ok (.goto 21, 3) := by decide +kernel
theorem dX4_of_40 : decode cX4_of 40 = .ok (.iload_n 2, 1) := by decide +kernel
theorem dX4_of_41 : decode cX4_of 41 = .ok (.iconst 3, 1) := by decide +kernel
theorem dX4_of_42 : decode cX4_of 42 = .ok (.if_icmp .ne 11, 3) := by decide +kernel
theorem dX4_of_45 : decode cX4_of 45 = .ok (.aload_n 0, 1) := by decide +kernel
theorem dX4_of_46 : decode cX4_of 46 = .ok (.iload_n 1, 1) := by decide +kernel
theorem dX4_of_47 : decode cX4_of 47 = .ok (.invokevirtual 120, 3) := by decide +kernel
theorem dX4_of_50 : decode cX4_of 50 = .ok (.goto 8, 3) := by decide +kernel
theorem dX4_of_53 : decode cX4_of 53 = .ok (.aload_n 0, 1) := by decide +kernel
theorem dX4_of_54 : decode cX4_of 54 = .ok (.iload_n 1, 1) := by decide +kernel
theorem dX4_of_55 : decode cX4_of 55 = .ok (.invokevirtual 123, 3) := by decide +kernel
theorem dX4_of_58 : decode cX4_of 58 = .ok (.ireturn, 1) := by decide +kernel
theorem dX4_mayBe_0 : decode cX4_mayBe 0 = .ok (.iload_n 0, 1) := by decide +kernel
theorem dX4_mayBe_1 : decode cX4_mayBe 1 = .ok (.ifCond .ne 10, 3) := by decide +kernel
theorem dX4_mayBe_4 : decode cX4_mayBe 4 = .ok (.iload_n 1, 1) := by decide +kernel
theorem dX4_mayBe_5 : decode cX4_mayBe 5 = .ok (.invokestatic 110, 3) := by decide +kernel
theorem dX4_mayBe_8 : decode cX4_mayBe 8 = .ok (.goto 37, 3) := by decide +kernel
theorem dX4_mayBe_11 : decode cX4_mayBe 11 = .ok (.iload_n 0, 1) := by decide +kernel
theorem dX4_mayBe_12 : decode cX4_mayBe 12 = .ok (.iconst 1, 1) := by decide +kernel
theorem dX4_mayBe_13 : decode cX4_mayBe 13 = .ok (.if_icmp .ne 10, 3) := by decide +kernel
theorem dX4_mayBe_16 : decode cX4_mayBe 16 = .ok (.iload_n 1, 1) := by decide +kernel
theorem dX4_mayBe_17 : decode cX4_mayBe 17 = .ok (.invokestatic 76, 3) := by decide +kernel
theorem dX4_mayBe_20 : decode cX4_mayBe 20 = .ok (.goto 25, 3) := by decide +kernel
theorem dX4_mayBe_23 : decode cX4_mayBe 23 = .ok (.iload_n 0, 1) := by decide +kernel
theorem dX4_mayBe_24 : decode cX4_mayBe 24 = .ok (.iconst 2, 1) := by decide +kernel
theorem dX4_mayBe_25 : decode cX4_mayBe 25 = .ok (.if_icmp .ne 19, 3) := by decide +kernel
theorem dX4_mayBe_28 : decode cX4_mayBe 28 = .ok (.iload_n 1, 1) := by decide +kernel
theorem dX4_mayBe_29 : decode cX4_mayBe 29 = .ok (.i2l, 1) := by decide +kernel
theorem dX4_mayBe_30 : decode cX4_mayBe 30 = .ok (.lconst 1, 1) := by decide +kernel
theorem dX4_mayBe_31 : decode cX4_mayBe 31 = .ok (.ldc2_w 126, 3) := by decide +kernel
theorem dX4_mayBe_34 : decode cX4_mayBe 34 = .ok (.invokestatic 57, 3) := by decide +kernel
theorem dX4_mayBe_37 : decode cX4_mayBe 37 = .ok (.ifCond .eq 7, 3) := by decide +kernel
theorem dX4_mayBe_40 : decode cX4_mayBe 40 = .ok (.iconst 1, 1) := by decide +kernel
theorem dX4_mayBe_41 : decode cX4_mayBe 41 = .ok (.goto 4, 3) := by decide +kernel
theorem dX4_mayBe_44 : decode cX4_mayBe 44 = .ok (.iconst 0, 1) := by decide +kernel
theorem dX4_mayBe_45 : decode cX4_mayBe 45 = .ok (.ireturn, 1) := by decide +kernel
theorem dX4_change_0 : decode cX4_change 0 = .ok (.aload_n 0, 1) := by decide +kernel
theorem dX4_change_1 : decode cX4_change 1 = .ok (.iload_n 1, 1) := by decide +kernel
theorem dX4_change_2 : decode cX4_change 2 = .ok (.invokevirtual 117, 3) := by decide +kernel
theorem dX4_change_5 : decode cX4_change 5 = .ok (.ifCond .eq 27, 3) := by decide +kernel
theorem dX4_change_8 : decode cX4_change 8 = .ok (.iload_n 2, 1) := by decide +kernel
theorem dX4_change_9 : decode cX4_change 9 = .ok (.iload_n 3, 1) := by decide +kernel
theorem dX4_change_10 : decode cX4_change 10 = .ok (.invokestatic 128, 3) := by decide +kernel
theorem dX4_change_13 : decode cX4_change 13 = .ok (.ifCond .eq 19, 3) := by decide +kernel
theorem dX4_change_16 : decode cX4_change 16 = .ok (.aload_n 0, 1) := by decide +kernel
theorem dX4_change_17 : decode cX4_change 17 = .ok (.bipush 85, 2) := by decide +kernel
theorem dX4_change_19 : decode cX4_change 19 = .ok (.iconst 3, 1) := by decide +kernel
theorem dX4_change_20 : decode cX4_change 20 = .ok (.iload_n 1, 1) := by decide +kernel
theorem dX4_change_21 : decode cX4_change 21 = .ok (.imul, 1) := by decide +kernel
theorem dX4_change_22 : decode cX4_change 22 = .ok (.iadd, 1) := by decide +kernel
theorem dX4_change_23 : decode cX4_change 23 = .ok (.iload_n 2, 1) := by decide +kernel
theorem dX4_change_24 : decode cX4_change 24 = .ok (.iadd, 1) := by decide +kernel
theorem dX4_change_25 : decode cX4_change 25 = .ok (.iload_n 3, 1) := by decide +kernel
theorem dX4_change_26 : decode cX4_change 26 = .ok (.invokevirtual 99, 3) := by decide +kernel
theorem dX4_change_29 : decode cX4_change 29 = .ok (.goto 8, 3) := by decide +kernel
theorem dX4_change_32 : decode cX4_change 32 = .ok (.aload_n 0, 1) := by decide +kernel
theorem dX4_change_33 : decode cX4_change 33 = .ok (.iconst 0, 1) := by decide +kernel
theorem dX4_change_34 : decode cX4_change 34 = .ok (.invokevirtual 82, 3) := by decide +kernel
theorem dX4_change_37 : decode cX4_change 37 = .ok (.ireturn, 1) := by decide +kernel
theorem dX4_aunts_0 : decode cX4_aunts 0 = .ok (.iload_n 1, 1) := by decide +kernel
theorem dX4_aunts_1 : decode cX4_aunts 1 = .ok (.invokestatic 132, 3) := by decide +kernel
theorem dX4_aunts_4 : decode cX4_aunts 4 = .ok (.ifCond .eq 12, 3) := by decide +kernel
theorem dX4_aunts_7 : decode cX4_aunts 7 = .ok (.aload_n 0, 1) := by decide +kernel
theorem dX4_aunts_8 : decode cX4_aunts 8 = .ok (.iconst 3, 1) := by decide +kernel
theorem dX4_aunts_9 : decode cX4_aunts 9 = .ok (.iload_n 1, 1) := by decide +kernel
theorem dX4_aunts_10 : decode cX4_aunts 10 = .ok (.invokevirtual 99, 3) := by decide +kernel
theorem dX4_aunts_13 : decode cX4_aunts 13 = .ok (.goto 8, 3) := by decide +kernel
theorem dX4_aunts_16 : decode cX4_aunts 16 = .ok (.aload_n 0, 1) := by decide +kernel
theorem dX4_aunts_17 : decode cX4_aunts 17 = .ok (.iconst 0, 1) := by decide +kernel
theorem dX4_aunts_18 : decode cX4_aunts 18 = .ok (.invokevirtual 82, 3) := by decide +kernel
theorem dX4_aunts_21 : decode cX4_aunts 21 = .ok (.ireturn, 1) := by decide +kernel
theorem dX4_frost_0 : decode cX4_frost 0 = .ok (.iload_n 1, 1) := by decide +kernel
theorem dX4_frost_1 : decode cX4_frost 1 = .ok (.i2l, 1) := by decide +kernel
theorem dX4_frost_2 : decode cX4_frost 2 = .ok (.lconst 0, 1) := by decide +kernel
theorem dX4_frost_3 : decode cX4_frost 3 = .ok (.lconst 1, 1) := by decide +kernel
theorem dX4_frost_4 : decode cX4_frost 4 = .ok (.invokestatic 57, 3) := by decide +kernel
theorem dX4_frost_7 : decode cX4_frost 7 = .ok (.ifCond .eq 12, 3) := by decide +kernel
theorem dX4_frost_10 : decode cX4_frost 10 = .ok (.aload_n 0, 1) := by decide +kernel
theorem dX4_frost_11 : decode cX4_frost 11 = .ok (.iconst 2, 1) := by decide +kernel
theorem dX4_frost_12 : decode cX4_frost 12 = .ok (.iload_n 1, 1) := by decide +kernel
theorem dX4_frost_13 : decode cX4_frost 13 = .ok (.invokevirtual 99, 3) := by decide +kernel
theorem dX4_frost_16 : decode cX4_frost 16 = .ok (.goto 8, 3) := by decide +kernel
theorem dX4_frost_19 : decode cX4_frost 19 = .ok (.aload_n 0, 1) := by decide +kernel
theorem dX4_frost_20 : decode cX4_frost 20 = .ok (.iconst 0, 1) := by decide +kernel
theorem dX4_frost_21 : decode cX4_frost 21 = .ok (.invokevirtual 82, 3) := by decide +kernel
theorem dX4_frost_24 : decode cX4_frost 24 = .ok (.ireturn, 1) := by decide +kernel
theorem dX4_rolls_0 : decode cX4_rolls 0 = .ok (.aload_n 0, 1) := by decide +kernel
theorem dX4_rolls_1 : decode cX4_rolls 1 = .ok (.iload_n 1, 1) := by decide +kernel
theorem dX4_rolls_2 : decode cX4_rolls 2 = .ok (.invokevirtual 120, 3) := by decide +kernel
theorem dX4_rolls_5 : decode cX4_rolls 5 = .ok (.istore_n 2, 1) := by decide +kernel
theorem dX4_rolls_6 : decode cX4_rolls 6 = .ok (.iconst 1, 1) := by decide +kernel
theorem dX4_rolls_7 : decode cX4_rolls 7 = .ok (.istore_n 3, 1) := by decide +kernel
theorem dX4_rolls_8 : decode cX4_rolls 8 = .ok (.iload_n 2, 1) := by decide +kernel
theorem dX4_rolls_9 : decode cX4_rolls 9 = .ok (.ifCond .le 120, 3) := by decide +kernel
theorem dX4_rolls_12 : decode cX4_rolls 12 = .ok (.iload_n 3, 1) := by decide +kernel
theorem dX4_rolls_13 : decode cX4_rolls 13 = .ok (.ifCond .eq 116, 3) := by decide +kernel
theorem dX4_rolls_16 : decode cX4_rolls 16 = .ok (.aload_n 0, 1) := by decide +kernel
theorem dX4_rolls_17 : decode cX4_rolls 17 = .ok (.aload_n 0, 1) := by decide +kernel
theorem dX4_rolls_18 : decode cX4_rolls 18 = .ok (.iload_n 1, 1) := by decide +kernel
theorem dX4_rolls_19 : decode cX4_rolls 19 = .ok (.iconst 1, 1) := by decide +kernel
theorem dX4_rolls_20 : decode cX4_rolls 20 = .ok (.invokevirtual 69, 3) := by decide +kernel
theorem dX4_rolls_23 : decode cX4_rolls 23 = .ok (.invokevirtual 85, 3) := by decide +kernel
theorem dX4_rolls_26 : decode cX4_rolls 26 = .ok (.ifCond .le 103, 3) := by decide +kernel
theorem dX4_rolls_29 : decode cX4_rolls 29 = .ok (.aload_n 0, 1) := by decide +kernel
theorem dX4_rolls_30 : decode cX4_rolls 30 = .ok (.iload_n 1, 1) := by decide +kernel
theorem dX4_rolls_31 : decode cX4_rolls 31 = .ok (.iconst 2, 1) := by decide +kernel
theorem dX4_rolls_32 : decode cX4_rolls 32 = .ok (.sipush 999, 3) := by decide +kernel
theorem dX4_rolls_35 : decode cX4_rolls 35 = .ok (.aload_n 0, 1) := by decide +kernel
theorem dX4_rolls_36 : decode cX4_rolls 36 = .ok (.iload_n 1, 1) := by decide +kernel
theorem dX4_rolls_37 : decode cX4_rolls 37 = .ok (.iconst 2, 1) := by decide +kernel
theorem dX4_rolls_38 : decode cX4_rolls 38 = .ok (.invokevirtual 69, 3) := by decide +kernel
theorem dX4_rolls_41 : decode cX4_rolls 41 = .ok (.aload_n 0, 1) := by decide +kernel
theorem dX4_rolls_42 : decode cX4_rolls 42 = .ok (.iload_n 1, 1) := by decide +kernel
theorem dX4_rolls_43 : decode cX4_rolls 43 = .ok (.invokevirtual 123, 3) := by decide +kernel
theorem dX4_rolls_46 : decode cX4_rolls 46 = .ok (.iadd, 1) := by decide +kernel
theorem dX4_rolls_47 : decode cX4_rolls 47 = .ok (.invokestatic 44, 3) := by decide +kernel
theorem dX4_rolls_50 : decode cX4_rolls 50 = .ok (.invokevirtual 107, 3) := by decide +kernel
theorem dX4_rolls_53 : decode cX4_rolls 53 = .ok (.aload_n 0, 1) := by decide +kernel
theorem dX4_rolls_54 : decode cX4_rolls 54 = .ok (.iload_n 1, 1) := by decide +kernel
theorem dX4_rolls_55 : decode cX4_rolls 55 = .ok (.iconst 1, 1) := by decide +kernel
theorem dX4_rolls_56 : decode cX4_rolls 56 = .ok (.aload_n 0, 1) := by decide +kernel
theorem dX4_rolls_57 : decode cX4_rolls 57 = .ok (.aload_n 0, 1) := by decide +kernel
theorem dX4_rolls_58 : decode cX4_rolls 58 = .ok (.iload_n 1, 1) := by decide +kernel
theorem dX4_rolls_59 : decode cX4_rolls 59 = .ok (.iconst 1, 1) := by decide +kernel
theorem dX4_rolls_60 : decode cX4_rolls 60 = .ok (.invokevirtual 69, 3) := by decide +kernel
theorem dX4_rolls_63 : decode cX4_rolls 63 = .ok (.iconst 1, 1) := by decide +kernel
theorem dX4_rolls_64 : decode cX4_rolls 64 = .ok (.invokevirtual 63, 3) := by decide +kernel
theorem dX4_rolls_67 : decode cX4_rolls 67 = .ok (.invokevirtual 107, 3) := by decide +kernel
theorem dX4_rolls_70 : decode cX4_rolls 70 = .ok (.aload_n 0, 1) := by decide +kernel
theorem dX4_rolls_71 : decode cX4_rolls 71 = .ok (.dup, 1) := by decide +kernel
theorem dX4_rolls_72 : decode cX4_rolls 72 = .ok (.getfield 135, 3) := by decide +kernel
theorem dX4_rolls_75 : decode cX4_rolls 75 = .ok (.iload_n 1, 1) := by decide +kernel
theorem dX4_rolls_76 : decode cX4_rolls 76 = .ok (.aload_n 0, 1) := by decide +kernel
theorem dX4_rolls_77 : decode cX4_rolls 77 = .ok (.getfield 139, 3) := by decide +kernel
theorem dX4_rolls_80 : decode cX4_rolls 80 = .ok (.if_icmp .ne 14, 3) := by decide +kernel
theorem dX4_rolls_83 : decode cX4_rolls 83 = .ok (.iconst 1, 1) := by decide +kernel
theorem dX4_rolls_84 : decode cX4_rolls 84 = .ok (.aload_n 0, 1) := by decide +kernel
theorem dX4_rolls_85 : decode cX4_rolls 85 = .ok (.iload_n 1, 1) := by decide +kernel
theorem dX4_rolls_86 : decode cX4_rolls 86 = .ok (.iconst 1, 1) := by decide +kernel
theorem dX4_rolls_87 : decode cX4_rolls 87 = .ok (.invokevirtual 69, 3) := by decide +kernel
theorem dX4_rolls_90 : decode cX4_rolls 90 = .ok (.ishl, 1) := by decide +kernel
theorem dX4_rolls_91 : decode cX4_rolls 91 = .ok (.goto 4, 3) := by decide +kernel
theorem dX4_rolls_94 : decode cX4_rolls 94 = .ok (.iconst 0, 1) := by decide +kernel
theorem dX4_rolls_95 : decode cX4_rolls 95 = .ok (.ior, 1) := by decide +kernel
theorem dX4_rolls_96 : decode cX4_rolls 96 = .ok (.putfield 135, 3) := by decide +kernel
theorem dX4_rolls_99 : decode cX4_rolls 99 = .ok (.aload_n 0, 1) := by decide +kernel
theorem dX4_rolls_100 : decode cX4_rolls 100 = .ok (.getfield 9, 3) := by decide +kernel
theorem dX4_rolls_103 : decode cX4_rolls 103 = .ok (.iconst 3, 1) := by decide +kernel
theorem dX4_rolls_104 : decode cX4_rolls 104 = .ok (.iaload, 1) := by decide +kernel
theorem dX4_rolls_105 : decode cX4_rolls 105 = .ok (.aload_n 0, 1) := by decide +kernel
theorem dX4_rolls_106 : decode cX4_rolls 106 = .ok (.iload_n 1, 1) := by decide +kernel
theorem dX4_rolls_107 : decode cX4_rolls 107 = .ok (.iconst 1, 1) := by decide +kernel
theorem dX4_rolls_108 : decode cX4_rolls 108 = .ok (.invokevirtual 69, 3) := by decide +kernel
theorem dX4_rolls_111 : decode cX4_rolls 111 = .ok (.ishr, 1) := by decide +kernel
theorem dX4_rolls_112 : decode cX4_rolls 112 = .ok (.iconst 1, 1) := by decide +kernel
theorem dX4_rolls_113 : decode cX4_rolls 113 = .ok (.iand, 1) := by decide +kernel
theorem dX4_rolls_114 : decode cX4_rolls 114 = .ok (.ifCond .ne 7, 3) := by decide +kernel
theorem dX4_rolls_117 : decode cX4_rolls 117 = .ok (.iconst 1, 1) := by decide +kernel
theorem dX4_rolls_118 : decode cX4_rolls 118 = .ok (.goto 4, 3) := by decide +kernel
theorem dX4_rolls_121 : decode cX4_rolls 121 = .ok (.iconst 0, 1) := by decide +kernel
theorem dX4_rolls_122 : decode cX4_rolls 122 = .ok (.istore_n 3, 1) := by decide +kernel
theorem dX4_rolls_123 : decode cX4_rolls 123 = .ok (.iinc 2 (-1), 3) := by decide +kernel
theorem dX4_rolls_126 : decode cX4_rolls 126 = .ok (.goto (-118), 3) := by decide +kernel
theorem dX4_rolls_129 : decode cX4_rolls 129 = .ok (.return_, 1) := by decide +kernel
theorem dX4_aMinute_0 : decode cX4_aMinute 0 = .ok (.iconst 0, 1) := by decide +kernel
theorem dX4_aMinute_1 : decode cX4_aMinute 1 = .ok (.istore_n 1, 1) := by decide +kernel
theorem dX4_aMinute_2 : decode cX4_aMinute 2 = .ok (.iload_n 1, 1) := by decide +kernel
theorem dX4_aMinute_3 : decode cX4_aMinute 3 = .ok (.aload_n 0, 1) := by decide +kernel
theorem dX4_aMinute_4 : decode cX4_aMinute 4 = .ok (.getfield 9, 3) := by decide +kernel
theorem dX4_aMinute_7 : decode cX4_aMinute 7 = .ok (.iconst 1, 1) := by decide +kernel
theorem dX4_aMinute_8 : decode cX4_aMinute 8 = .ok (.iaload, 1) := by decide +kernel
theorem dX4_aMinute_9 : decode cX4_aMinute 9 = .ok (.if_icmp .ge 14, 3) := by decide +kernel
theorem dX4_aMinute_12 : decode cX4_aMinute 12 = .ok (.aload_n 0, 1) := by decide +kernel
theorem dX4_aMinute_13 : decode cX4_aMinute 13 = .ok (.iload_n 1, 1) := by decide +kernel
theorem dX4_aMinute_14 : decode cX4_aMinute 14 = .ok (.invokevirtual 142, 3) := by decide +kernel
theorem dX4_aMinute_17 : decode cX4_aMinute 17 = .ok (.iinc 1 1, 3) := by decide +kernel
theorem dX4_aMinute_20 : decode cX4_aMinute 20 = .ok (.goto (-18), 3) := by decide +kernel
theorem dX4_aMinute_23 : decode cX4_aMinute 23 = .ok (.aload_n 0, 1) := by decide +kernel
theorem dX4_aMinute_24 : decode cX4_aMinute 24 = .ok (.getfield 9, 3) := by decide +kernel
theorem dX4_aMinute_27 : decode cX4_aMinute 27 = .ok (.iconst 0, 1) := by decide +kernel
theorem dX4_aMinute_28 : decode cX4_aMinute 28 = .ok (.dup2, 1) := by decide +kernel
theorem dX4_aMinute_29 : decode cX4_aMinute 29 = .ok (.iaload, 1) := by decide +kernel
theorem dX4_aMinute_30 : decode cX4_aMinute 30 = .ok (.iconst 1, 1) := by decide +kernel
theorem dX4_aMinute_31 : decode cX4_aMinute 31 = .ok (.iadd, 1) := by decide +kernel
theorem dX4_aMinute_32 : decode cX4_aMinute 32 = .ok (.iastore, 1) := by decide +kernel
theorem dX4_aMinute_33 : decode cX4_aMinute 33 = .ok (.return_, 1) := by decide +kernel
theorem dX4_minutes_0 : decode cX4_minutes 0 = .ok (.iconst 0, 1) := by decide +kernel
theorem dX4_minutes_1 : decode cX4_minutes 1 = .ok (.istore_n 2, 1) := by decide +kernel
theorem dX4_minutes_2 : decode cX4_minutes 2 = .ok (.iload_n 2, 1) := by decide +kernel
theorem dX4_minutes_3 : decode cX4_minutes 3 = .ok (.iload_n 1, 1) := by decide +kernel
theorem dX4_minutes_4 : decode cX4_minutes 4 = .ok (.if_icmp .ge 13, 3) := by decide +kernel
theorem dX4_minutes_7 : decode cX4_minutes 7 = .ok (.aload_n 0, 1) := by decide +kernel
theorem dX4_minutes_8 : decode cX4_minutes 8 = .ok (.invokevirtual 146, 3) := by decide +kernel
theorem dX4_minutes_11 : decode cX4_minutes 11 = .ok (.iinc 2 1, 3) := by decide +kernel
theorem dX4_minutes_14 : decode cX4_minutes 14 = .ok (.goto (-12), 3) := by decide +kernel
theorem dX4_minutes_17 : decode cX4_minutes 17 = .ok (.return_, 1) := by decide +kernel
theorem dX4_go_0 : decode cX4_go 0 = .ok (.iload_n 1, 1) := by decide +kernel
theorem dX4_go_1 : decode cX4_go 1 = .ok (.i2l, 1) := by decide +kernel
theorem dX4_go_2 : decode cX4_go 2 = .ok (.lconst 1, 1) := by decide +kernel
theorem dX4_go_3 : decode cX4_go 3 = .ok (.ldc2_w 149, 3) := by decide +kernel
theorem dX4_go_6 : decode cX4_go 6 = .ok (.invokestatic 57, 3) := by decide +kernel
theorem dX4_go_9 : decode cX4_go 9 = .ok (.ifCond .ne 9, 3) := by decide +kernel
theorem dX4_go_12 : decode cX4_go 12 = .ok (.aload_n 0, 1) := by decide +kernel
theorem dX4_go_13 : decode cX4_go 13 = .ok (.iconst 0, 1) := by decide +kernel
theorem dX4_go_14 : decode cX4_go 14 = .ok (.invokevirtual 82, 3) := by decide +kernel
theorem dX4_go_17 : decode cX4_go 17 = .ok (.ireturn, 1) := by decide +kernel
theorem dX4_go_18 : decode cX4_go 18 = .ok (.aload_n 0, 1) := by decide +kernel
theorem dX4_go_19 : decode cX4_go 19 = .ok (.getfield 9, 3) := by decide +kernel
theorem dX4_go_22 : decode cX4_go 22 = .ok (.iconst 0, 1) := by decide +kernel
theorem dX4_go_23 : decode cX4_go 23 = .ok (.iaload, 1) := by decide +kernel
theorem dX4_go_24 : decode cX4_go 24 = .ok (.iload_n 1, 1) := by decide +kernel
theorem dX4_go_25 : decode cX4_go 25 = .ok (.iadd, 1) := by decide +kernel
theorem dX4_go_26 : decode cX4_go 26 = .ok (.ldc 151, 2) := by decide +kernel
theorem dX4_go_28 : decode cX4_go 28 = .ok (.if_icmp .le 9, 3) := by decide +kernel
theorem dX4_go_31 : decode cX4_go 31 = .ok (.aload_n 0, 1) := by decide +kernel
theorem dX4_go_32 : decode cX4_go 32 = .ok (.iconst 4, 1) := by decide +kernel
theorem dX4_go_33 : decode cX4_go 33 = .ok (.invokevirtual 82, 3) := by decide +kernel
theorem dX4_go_36 : decode cX4_go 36 = .ok (.ireturn, 1) := by decide +kernel
theorem dX4_go_37 : decode cX4_go 37 = .ok (.aload_n 0, 1) := by decide +kernel
theorem dX4_go_38 : decode cX4_go 38 = .ok (.iload_n 1, 1) := by decide +kernel
theorem dX4_go_39 : decode cX4_go 39 = .ok (.invokevirtual 152, 3) := by decide +kernel
theorem dX4_go_42 : decode cX4_go 42 = .ok (.aload_n 0, 1) := by decide +kernel
theorem dX4_go_43 : decode cX4_go 43 = .ok (.bipush 15, 2) := by decide +kernel
theorem dX4_go_45 : decode cX4_go 45 = .ok (.invokevirtual 72, 3) := by decide +kernel
theorem dX4_go_48 : decode cX4_go 48 = .ok (.ireturn, 1) := by decide +kernel
theorem dX4_allWeight_0 : decode cX4_allWeight 0 = .ok (.iconst 0, 1) := by decide +kernel
theorem dX4_allWeight_1 : decode cX4_allWeight 1 = .ok (.istore_n 1, 1) := by decide +kernel
theorem dX4_allWeight_2 : decode cX4_allWeight 2 = .ok (.iconst 0, 1) := by decide +kernel
theorem dX4_allWeight_3 : decode cX4_allWeight 3 = .ok (.istore_n 2, 1) := by decide +kernel
theorem dX4_allWeight_4 : decode cX4_allWeight 4 = .ok (.iload_n 2, 1) := by decide +kernel
theorem dX4_allWeight_5 : decode cX4_allWeight 5 = .ok (.aload_n 0, 1) := by decide +kernel
theorem dX4_allWeight_6 : decode cX4_allWeight 6 = .ok (.getfield 9, 3) := by decide +kernel
theorem dX4_allWeight_9 : decode cX4_allWeight 9 = .ok (.iconst 1, 1) := by decide +kernel
theorem dX4_allWeight_10 : decode cX4_allWeight 10 = .ok (.iaload, 1) := by decide +kernel
theorem dX4_allWeight_11 : decode cX4_allWeight 11 = .ok (.if_icmp .ge 18, 3) := by decide +kernel
theorem dX4_allWeight_14 : decode cX4_allWeight 14 = .ok (.iload_n 1, 1) := by decide +kernel
theorem dX4_allWeight_15 : decode cX4_allWeight 15 = .ok (.aload_n 0, 1) := by decide +kernel
theorem dX4_allWeight_16 : decode cX4_allWeight 16 = .ok (.iload_n 2, 1) := by decide +kernel
theorem dX4_allWeight_17 : decode cX4_allWeight 17 = .ok (.iconst 2, 1) := by decide +kernel
theorem dX4_allWeight_18 : decode cX4_allWeight 18 = .ok (.invokevirtual 69, 3) := by decide +kernel
theorem dX4_allWeight_21 : decode cX4_allWeight 21 = .ok (.iadd, 1) := by decide +kernel
theorem dX4_allWeight_22 : decode cX4_allWeight 22 = .ok (.istore_n 1, 1) := by decide +kernel
theorem dX4_allWeight_23 : decode cX4_allWeight 23 = .ok (.iinc 2 1, 3) := by decide +kernel
theorem dX4_allWeight_26 : decode cX4_allWeight 26 = .ok (.goto (-22), 3) := by decide +kernel
theorem dX4_allWeight_29 : decode cX4_allWeight 29 = .ok (.iload_n 1, 1) := by decide +kernel
theorem dX4_allWeight_30 : decode cX4_allWeight 30 = .ok (.ireturn, 1) := by decide +kernel
theorem dX4_cornersThat_0 : decode cX4_cornersThat 0 = .ok (.iconst 0, 1) := by decide +kernel
theorem dX4_cornersThat_1 : decode cX4_cornersThat 1 = .ok (.istore_n 2, 1) := by decide +kernel
theorem dX4_cornersThat_2 : decode cX4_cornersThat 2 = .ok (.iconst 0, 1) := by decide +kernel
theorem dX4_cornersThat_3 : decode cX4_cornersThat 3 = .ok (.istore_n 3, 1) := by decide +kernel
theorem dX4_cornersThat_4 : decode cX4_cornersThat 4 = .ok (.iload_n 3, 1) := by decide +kernel
theorem dX4_cornersThat_5 : decode cX4_cornersThat 5 = .ok (.bipush 16, 2) := by decide +kernel
theorem dX4_cornersThat_7 : decode cX4_cornersThat 7 = .ok (.if_icmp .ge 42, 3) := by decide +kernel
theorem dX4_cornersThat_10 : decode cX4_cornersThat 10 = .ok (.iload_n 2, 1) := by decide +kernel
theorem dX4_cornersThat_11 : decode cX4_cornersThat 11 = .ok (.iload_n 1, 1) := by decide +kernel
theorem dX4_cornersThat_12 : decode cX4_cornersThat 12 = .ok (.ifCond .eq 14, 3) := by decide +kernel
theorem dX4_cornersThat_15 : decode cX4_cornersThat 15 = .ok (.aload_n 0, 1) := by decide +kernel
theorem dX4_cornersThat_16 : decode cX4_cornersThat 16 = .ok (.iload_n 3, 1) := by decide +kernel
theorem dX4_cornersThat_17 : decode cX4_cornersThat 17 = .ok (.invokevirtual 88, 3) := by decide +kernel
theorem dX4_cornersThat_20 : decode cX4_cornersThat 20 = .ok (.ifCond .eq 20, 3) := by decide +kernel
theorem dX4_cornersThat_23 : decode cX4_cornersThat 23 = .ok (.goto 11, 3) := by decide +kernel
theorem dX4_cornersThat_26 : decode cX4_cornersThat 26 = .ok (.aload_n 0, 1) := by decide +kernel
theorem dX4_cornersThat_27 : decode cX4_cornersThat 27 = .ok (.iload_n 3, 1) := by decide +kernel
theorem dX4_cornersThat_28 : decode cX4_cornersThat 28 = .ok (.invokevirtual 85, 3) := by decide +kernel
theorem dX4_cornersThat_31 : decode cX4_cornersThat 31 = .ok (.ifCond .le 9, 3) := by decide +kernel
theorem dX4_cornersThat_34 : decode cX4_cornersThat 34 = .ok (.iconst 1, 1) := by decide +kernel
theorem dX4_cornersThat_35 : decode cX4_cornersThat 35 = .ok (.iload_n 3, 1) := by decide +kernel
theorem dX4_cornersThat_36 : decode cX4_cornersThat 36 = .ok (.ishl, 1) := by decide +kernel
theorem dX4_cornersThat_37 : decode cX4_cornersThat 37 = .ok (.goto 4, 3) := by decide +kernel
theorem dX4_cornersThat_40 : decode cX4_cornersThat 40 = .ok (.iconst 0, 1) := by decide +kernel
theorem dX4_cornersThat_41 : decode cX4_cornersThat 41 = .ok (.ior, 1) := by decide +kernel
theorem dX4_cornersThat_42 : decode cX4_cornersThat 42 = .ok (.istore_n 2, 1) := by decide +kernel
theorem dX4_cornersThat_43 : decode cX4_cornersThat 43 = .ok (.iinc 3 1, 3) := by decide +kernel
theorem dX4_cornersThat_46 : decode cX4_cornersThat 46 = .ok (.goto (-42), 3) := by decide +kernel
theorem dX4_cornersThat_49 : decode cX4_cornersThat 49 = .ok (.iload_n 2, 1) := by decide +kernel
theorem dX4_cornersThat_50 : decode cX4_cornersThat 50 = .ok (.ireturn, 1) := by decide +kernel
theorem dX4_now_0 : decode cX4_now 0 = .ok (.iload_n 1, 1) := by decide +kernel
theorem dX4_now_1 : decode cX4_now 1 = .ok (.tableswitch 77 0 5 #[39, 46, 52, 57, 64, 71], 39) := by decide +kernel
theorem dX4_now_40 : decode cX4_now 40 = .ok (.aload_n 0, 1) := by decide +kernel
theorem dX4_now_41 : decode cX4_now 41 = .ok (.getfield 9, 3) := by decide +kernel
theorem dX4_now_44 : decode cX4_now 44 = .ok (.iconst 0, 1) := by decide +kernel
theorem dX4_now_45 : decode cX4_now 45 = .ok (.iaload, 1) := by decide +kernel
theorem dX4_now_46 : decode cX4_now 46 = .ok (.ireturn, 1) := by decide +kernel
theorem dX4_now_47 : decode cX4_now 47 = .ok (.aload_n 0, 1) := by decide +kernel
theorem dX4_now_48 : decode cX4_now 48 = .ok (.iconst 1, 1) := by decide +kernel
theorem dX4_now_49 : decode cX4_now 49 = .ok (.invokevirtual 155, 3) := by decide +kernel
theorem dX4_now_52 : decode cX4_now 52 = .ok (.ireturn, 1) := by decide +kernel
theorem dX4_now_53 : decode cX4_now 53 = .ok (.aload_n 0, 1) := by decide +kernel
theorem dX4_now_54 : decode cX4_now 54 = .ok (.invokevirtual 159, 3) := by decide +kernel
theorem dX4_now_57 : decode cX4_now 57 = .ok (.ireturn, 1) := by decide +kernel
theorem dX4_now_58 : decode cX4_now 58 = .ok (.aload_n 0, 1) := by decide +kernel
theorem dX4_now_59 : decode cX4_now 59 = .ok (.getfield 9, 3) := by decide +kernel
theorem dX4_now_62 : decode cX4_now 62 = .ok (.iconst 2, 1) := by decide +kernel
theorem dX4_now_63 : decode cX4_now 63 = .ok (.iaload, 1) := by decide +kernel
theorem dX4_now_64 : decode cX4_now 64 = .ok (.ireturn, 1) := by decide +kernel
theorem dX4_now_65 : decode cX4_now 65 = .ok (.aload_n 0, 1) := by decide +kernel
theorem dX4_now_66 : decode cX4_now 66 = .ok (.getfield 9, 3) := by decide +kernel
theorem dX4_now_69 : decode cX4_now 69 = .ok (.iconst 3, 1) := by decide +kernel
theorem dX4_now_70 : decode cX4_now 70 = .ok (.iaload, 1) := by decide +kernel
theorem dX4_now_71 : decode cX4_now 71 = .ok (.ireturn, 1) := by decide +kernel
theorem dX4_now_72 : decode cX4_now 72 = .ok (.aload_n 0, 1) := by decide +kernel
theorem dX4_now_73 : decode cX4_now 73 = .ok (.iconst 0, 1) := by decide +kernel
theorem dX4_now_74 : decode cX4_now 74 = .ok (.invokevirtual 155, 3) := by decide +kernel
theorem dX4_now_77 : decode cX4_now 77 = .ok (.ireturn, 1) := by decide +kernel
theorem dX4_now_78 : decode cX4_now 78 = .ok (.aload_n 0, 1) := by decide +kernel
theorem dX4_now_79 : decode cX4_now 79 = .ok (.iconst 0, 1) := by decide +kernel
theorem dX4_now_80 : decode cX4_now 80 = .ok (.invokevirtual 82, 3) := by decide +kernel
theorem dX4_now_83 : decode cX4_now 83 = .ok (.ireturn, 1) := by decide +kernel
theorem dX4_merge_0 : decode cX4_merge 0 = .ok (.iload_n 1, 1) := by decide +kernel
theorem dX4_merge_1 : decode cX4_merge 1 = .ok (.invokestatic 76, 3) := by decide +kernel
theorem dX4_merge_4 : decode cX4_merge 4 = .ok (.ifCond .ne 9, 3) := by decide +kernel
theorem dX4_merge_7 : decode cX4_merge 7 = .ok (.aload_n 0, 1) := by decide +kernel
theorem dX4_merge_8 : decode cX4_merge 8 = .ok (.iconst 0, 1) := by decide +kernel
theorem dX4_merge_9 : decode cX4_merge 9 = .ok (.invokevirtual 82, 3) := by decide +kernel
theorem dX4_merge_12 : decode cX4_merge 12 = .ok (.ireturn, 1) := by decide +kernel
theorem dX4_merge_13 : decode cX4_merge 13 = .ok (.iconst 0, 1) := by decide +kernel
theorem dX4_merge_14 : decode cX4_merge 14 = .ok (.istore_n 2, 1) := by decide +kernel
theorem dX4_merge_15 : decode cX4_merge 15 = .ok (.iconst (-1), 1) := by decide +kernel
theorem dX4_merge_16 : decode cX4_merge 16 = .ok (.istore_n 3, 1) := by decide +kernel
theorem dX4_merge_17 : decode cX4_merge 17 = .ok (.aload_n 0, 1) := by decide +kernel
theorem dX4_merge_18 : decode cX4_merge 18 = .ok (.iload_n 1, 1) := by decide +kernel
theorem dX4_merge_19 : decode cX4_merge 19 = .ok (.invokevirtual 72, 3) := by decide +kernel
theorem dX4_merge_22 : decode cX4_merge 22 = .ok (.istore 4, 2) := by decide +kernel
theorem dX4_merge_24 : decode cX4_merge 24 = .ok (.iconst 0, 1) := by decide +kernel
theorem dX4_merge_25 : decode cX4_merge 25 = .ok (.istore 5, 2) := by decide +kernel
theorem dX4_merge_27 : decode cX4_merge 27 = .ok (.iload 5, 2) := by decide +kernel
theorem dX4_merge_29 : decode cX4_merge 29 = .ok (.aload_n 0, 1) := by decide +kernel
theorem dX4_merge_30 : decode cX4_merge 30 = .ok (.getfield 9, 3) := by decide +kernel
theorem dX4_merge_33 : decode cX4_merge 33 = .ok (.iconst 1, 1) := by decide +kernel
theorem dX4_merge_34 : decode cX4_merge 34 = .ok (.iaload, 1) := by decide +kernel
theorem dX4_merge_35 : decode cX4_merge 35 = .ok (.if_icmp .ge 65, 3) := by decide +kernel
theorem dX4_merge_38 : decode cX4_merge 38 = .ok (.aload_n 0, 1) := by decide +kernel
theorem dX4_merge_39 : decode cX4_merge 39 = .ok (.iload 5, 2) := by decide +kernel
theorem dX4_merge_41 : decode cX4_merge 41 = .ok (.iconst 1, 1) := by decide +kernel
theorem dX4_merge_42 : decode cX4_merge 42 = .ok (.invokevirtual 69, 3) := by decide +kernel
theorem dX4_merge_45 : decode cX4_merge 45 = .ok (.iload_n 1, 1) := by decide +kernel
theorem dX4_merge_46 : decode cX4_merge 46 = .ok (.if_icmp .ne 48, 3) := by decide +kernel
theorem dX4_merge_49 : decode cX4_merge 49 = .ok (.iinc 2 1, 3) := by decide +kernel
theorem dX4_merge_52 : decode cX4_merge 52 = .ok (.iload_n 3, 1) := by decide +kernel
theorem dX4_merge_53 : decode cX4_merge 53 = .ok (.ifCond .ge 24, 3) := by decide +kernel
theorem dX4_merge_56 : decode cX4_merge 56 = .ok (.iload 5, 2) := by decide +kernel
theorem dX4_merge_58 : decode cX4_merge 58 = .ok (.istore_n 3, 1) := by decide +kernel
theorem dX4_merge_59 : decode cX4_merge 59 = .ok (.aload_n 0, 1) := by decide +kernel
theorem dX4_merge_60 : decode cX4_merge 60 = .ok (.iload 5, 2) := by decide +kernel
theorem dX4_merge_62 : decode cX4_merge 62 = .ok (.iconst 2, 1) := by decide +kernel
theorem dX4_merge_63 : decode cX4_merge 63 = .ok (.sipush 999, 3) := by decide +kernel
theorem dX4_merge_66 : decode cX4_merge 66 = .ok (.iload 4, 2) := by decide +kernel
theorem dX4_merge_68 : decode cX4_merge 68 = .ok (.invokestatic 44, 3) := by decide +kernel
theorem dX4_merge_71 : decode cX4_merge 71 = .ok (.invokevirtual 107, 3) := by decide +kernel
theorem dX4_merge_74 : decode cX4_merge 74 = .ok (.goto 20, 3) := by decide +kernel
theorem dX4_merge_77 : decode cX4_merge 77 = .ok (.aload_n 0, 1) := by decide +kernel
theorem dX4_merge_78 : decode cX4_merge 78 = .ok (.iload 5, 2) := by decide +kernel
theorem dX4_merge_80 : decode cX4_merge 80 = .ok (.iconst 1, 1) := by decide +kernel
theorem dX4_merge_81 : decode cX4_merge 81 = .ok (.bipush 15, 2) := by decide +kernel
theorem dX4_merge_83 : decode cX4_merge 83 = .ok (.invokevirtual 107, 3) := by decide +kernel
theorem dX4_merge_86 : decode cX4_merge 86 = .ok (.aload_n 0, 1) := by decide +kernel
theorem dX4_merge_87 : decode cX4_merge 87 = .ok (.iload 5, 2) := by decide +kernel
theorem dX4_merge_89 : decode cX4_merge 89 = .ok (.iconst 2, 1) := by decide +kernel
theorem dX4_merge_90 : decode cX4_merge 90 = .ok (.iconst 1, 1) := by decide +kernel
theorem dX4_merge_91 : decode cX4_merge 91 = .ok (.invokevirtual 107, 3) := by decide +kernel
theorem dX4_merge_94 : decode cX4_merge 94 = .ok (.iinc 5 1, 3) := by decide +kernel
theorem dX4_merge_97 : decode cX4_merge 97 = .ok (.goto (-70), 3) := by decide +kernel
theorem dX4_merge_100 : decode cX4_merge 100 = .ok (.iload_n 2, 1) := by decide +kernel
theorem dX4_merge_101 : decode cX4_merge 101 = .ok (.ifCond .ne 11, 3) := by decide +kernel
theorem dX4_merge_104 : decode cX4_merge 104 = .ok (.aload_n 0, 1) := by decide +kernel
theorem dX4_merge_105 : decode cX4_merge 105 = .ok (.iconst 3, 1) := by decide +kernel
theorem dX4_merge_106 : decode cX4_merge 106 = .ok (.invokevirtual 82, 3) := by decide +kernel
theorem dX4_merge_109 : decode cX4_merge 109 = .ok (.goto 4, 3) := by decide +kernel
theorem dX4_merge_112 : decode cX4_merge 112 = .ok (.iload_n 2, 1) := by decide +kernel
theorem dX4_merge_113 : decode cX4_merge 113 = .ok (.ireturn, 1) := by decide +kernel
theorem dX4_isAhead_0 : decode cX4_isAhead 0 = .ok (.iload_n 0, 1) := by decide +kernel
theorem dX4_isAhead_1 : decode cX4_isAhead 1 = .ok (.i2l, 1) := by decide +kernel
theorem dX4_isAhead_2 : decode cX4_isAhead 2 = .ok (.lconst 0, 1) := by decide +kernel
theorem dX4_isAhead_3 : decode cX4_isAhead 3 = .ok (.ldc2_w 163, 3) := by decide +kernel
theorem dX4_isAhead_6 : decode cX4_isAhead 6 = .ok (.invokestatic 57, 3) := by decide +kernel
theorem dX4_isAhead_9 : decode cX4_isAhead 9 = .ok (.ireturn, 1) := by decide +kernel
theorem dX4_ahead_0 : decode cX4_ahead 0 = .ok (.aload_n 0, 1) := by decide +kernel
theorem dX4_ahead_1 : decode cX4_ahead 1 = .ok (.iload_n 1, 1) := by decide +kernel
theorem dX4_ahead_2 : decode cX4_ahead 2 = .ok (.invokevirtual 117, 3) := by decide +kernel
theorem dX4_ahead_5 : decode cX4_ahead 5 = .ok (.ifCond .eq 10, 3) := by decide +kernel
theorem dX4_ahead_8 : decode cX4_ahead 8 = .ok (.iload_n 2, 1) := by decide +kernel
theorem dX4_ahead_9 : decode cX4_ahead 9 = .ok (.invokestatic 165, 3) := by decide +kernel
theorem dX4_ahead_12 : decode cX4_ahead 12 = .ok (.ifCond .ne 9, 3) := by decide +kernel
theorem dX4_ahead_15 : decode cX4_ahead 15 = .ok (.aload_n 0, 1) := by decide +kernel
theorem dX4_ahead_16 : decode cX4_ahead 16 = .ok (.iconst 0, 1) := by decide +kernel
theorem dX4_ahead_17 : decode cX4_ahead 17 = .ok (.invokevirtual 82, 3) := by decide +kernel
theorem dX4_ahead_20 : decode cX4_ahead 20 = .ok (.ireturn, 1) := by decide +kernel
theorem dX4_ahead_21 : decode cX4_ahead 21 = .ok (.aload_n 0, 1) := by decide +kernel
theorem dX4_ahead_22 : decode cX4_ahead 22 = .ok (.invokevirtual 168, 3) := by decide +kernel
theorem dX4_ahead_25 : decode cX4_ahead 25 = .ok (.aload_n 0, 1) := by decide +kernel
theorem dX4_ahead_26 : decode cX4_ahead 26 = .ok (.iload_n 2, 1) := by decide +kernel
theorem dX4_ahead_27 : decode cX4_ahead 27 = .ok (.invokevirtual 152, 3) := by decide +kernel
theorem dX4_ahead_30 : decode cX4_ahead 30 = .ok (.aload_n 0, 1) := by decide +kernel
theorem dX4_ahead_31 : decode cX4_ahead 31 = .ok (.iload_n 1, 1) := by decide +kernel
theorem dX4_ahead_32 : decode cX4_ahead 32 = .ok (.iconst 1, 1) := by decide +kernel
theorem dX4_ahead_33 : decode cX4_ahead 33 = .ok (.invokevirtual 69, 3) := by decide +kernel
theorem dX4_ahead_36 : decode cX4_ahead 36 = .ok (.istore_n 3, 1) := by decide +kernel
theorem dX4_ahead_37 : decode cX4_ahead 37 = .ok (.aload_n 0, 1) := by decide +kernel
theorem dX4_ahead_38 : decode cX4_ahead 38 = .ok (.invokevirtual 171, 3) := by decide +kernel
theorem dX4_ahead_41 : decode cX4_ahead 41 = .ok (.iload_n 3, 1) := by decide +kernel
theorem dX4_ahead_42 : decode cX4_ahead 42 = .ok (.ireturn, 1) := by decide +kernel
theorem dX4_loudBy_0 : decode cX4_loudBy 0 = .ok (.aload_n 0, 1) := by decide +kernel
theorem dX4_loudBy_1 : decode cX4_loudBy 1 = .ok (.invokevirtual 168, 3) := by decide +kernel
theorem dX4_loudBy_4 : decode cX4_loudBy 4 = .ok (.aload_n 0, 1) := by decide +kernel
theorem dX4_loudBy_5 : decode cX4_loudBy 5 = .ok (.iload_n 2, 1) := by decide +kernel
theorem dX4_loudBy_6 : decode cX4_loudBy 6 = .ok (.invokevirtual 152, 3) := by decide +kernel
theorem dX4_loudBy_9 : decode cX4_loudBy 9 = .ok (.aload_n 0, 1) := by decide +kernel
theorem dX4_loudBy_10 : decode cX4_loudBy 10 = .ok (.iload_n 1, 1) := by decide +kernel
theorem dX4_loudBy_11 : decode cX4_loudBy 11 = .ok (.invokevirtual 72, 3) := by decide +kernel
theorem dX4_loudBy_14 : decode cX4_loudBy 14 = .ok (.istore_n 3, 1) := by decide +kernel
theorem dX4_loudBy_15 : decode cX4_loudBy 15 = .ok (.aload_n 0, 1) := by decide +kernel
theorem dX4_loudBy_16 : decode cX4_loudBy 16 = .ok (.invokevirtual 171, 3) := by decide +kernel
theorem dX4_loudBy_19 : decode cX4_loudBy 19 = .ok (.iload_n 3, 1) := by decide +kernel
theorem dX4_loudBy_20 : decode cX4_loudBy 20 = .ok (.ireturn, 1) := by decide +kernel
theorem dX4_loud_0 : decode cX4_loud 0 = .ok (.iload_n 1, 1) := by decide +kernel
theorem dX4_loud_1 : decode cX4_loud 1 = .ok (.invokestatic 76, 3) := by decide +kernel
theorem dX4_loud_4 : decode cX4_loud 4 = .ok (.ifCond .eq 19, 3) := by decide +kernel
theorem dX4_loud_7 : decode cX4_loud 7 = .ok (.iload_n 2, 1) := by decide +kernel
theorem dX4_loud_8 : decode cX4_loud 8 = .ok (.invokestatic 165, 3) := by decide +kernel
theorem dX4_loud_11 : decode cX4_loud 11 = .ok (.ifCond .eq 12, 3) := by decide +kernel
theorem dX4_loud_14 : decode cX4_loud 14 = .ok (.aload_n 0, 1) := by decide +kernel
theorem dX4_loud_15 : decode cX4_loud 15 = .ok (.iload_n 1, 1) := by decide +kernel
theorem dX4_loud_16 : decode cX4_loud 16 = .ok (.iload_n 2, 1) := by decide +kernel
theorem dX4_loud_17 : decode cX4_loud 17 = .ok (.invokevirtual 174, 3) := by decide +kernel
theorem dX4_loud_20 : decode cX4_loud 20 = .ok (.goto 8, 3) := by decide +kernel
theorem dX4_loud_23 : decode cX4_loud 23 = .ok (.aload_n 0, 1) := by decide +kernel
theorem dX4_loud_24 : decode cX4_loud 24 = .ok (.iconst 0, 1) := by decide +kernel
theorem dX4_loud_25 : decode cX4_loud 25 = .ok (.invokevirtual 82, 3) := by decide +kernel
theorem dX4_loud_28 : decode cX4_loud 28 = .ok (.ireturn, 1) := by decide +kernel
theorem dX4_heard_0 : decode cX4_heard 0 = .ok (.iload_n 1, 1) := by decide +kernel
theorem dX4_heard_1 : decode cX4_heard 1 = .ok (.invokestatic 76, 3) := by decide +kernel
theorem dX4_heard_4 : decode cX4_heard 4 = .ok (.ifCond .ne 9, 3) := by decide +kernel
theorem dX4_heard_7 : decode cX4_heard 7 = .ok (.aload_n 0, 1) := by decide +kernel
theorem dX4_heard_8 : decode cX4_heard 8 = .ok (.iconst 0, 1) := by decide +kernel
theorem dX4_heard_9 : decode cX4_heard 9 = .ok (.invokevirtual 82, 3) := by decide +kernel
theorem dX4_heard_12 : decode cX4_heard 12 = .ok (.ireturn, 1) := by decide +kernel
theorem dX4_heard_13 : decode cX4_heard 13 = .ok (.aload_n 0, 1) := by decide +kernel
theorem dX4_heard_14 : decode cX4_heard 14 = .ok (.invokevirtual 168, 3) := by decide +kernel
theorem dX4_heard_17 : decode cX4_heard 17 = .ok (.iconst 0, 1) := by decide +kernel
theorem dX4_heard_18 : decode cX4_heard 18 = .ok (.istore_n 2, 1) := by decide +kernel
theorem dX4_heard_19 : decode cX4_heard 19 = .ok (.iload_n 2, 1) := by decide +kernel
theorem dX4_heard_20 : decode cX4_heard 20 = .ok (.bipush 100, 2) := by decide +kernel
theorem dX4_heard_22 : decode cX4_heard 22 = .ok (.if_icmp .gt 21, 3) := by decide +kernel
theorem dX4_heard_25 : decode cX4_heard 25 = .ok (.aload_n 0, 1) := by decide +kernel
theorem dX4_heard_26 : decode cX4_heard 26 = .ok (.iload_n 1, 1) := by decide +kernel
theorem dX4_heard_27 : decode cX4_heard 27 = .ok (.invokevirtual 88, 3) := by decide +kernel
theorem dX4_heard_30 : decode cX4_heard 30 = .ok (.ifCond .ne 13, 3) := by decide +kernel
theorem dX4_heard_33 : decode cX4_heard 33 = .ok (.aload_n 0, 1) := by decide +kernel
theorem dX4_heard_34 : decode cX4_heard 34 = .ok (.invokevirtual 146, 3) := by decide +kernel
theorem dX4_heard_37 : decode cX4_heard 37 = .ok (.iinc 2 1, 3) := by decide +kernel
theorem dX4_heard_40 : decode cX4_heard 40 = .ok (.goto (-21), 3) := by decide +kernel
theorem dX4_heard_43 : decode cX4_heard 43 = .ok (.aload_n 0, 1) := by decide +kernel
theorem dX4_heard_44 : decode cX4_heard 44 = .ok (.invokevirtual 171, 3) := by decide +kernel
theorem dX4_heard_47 : decode cX4_heard 47 = .ok (.iload_n 2, 1) := by decide +kernel
theorem dX4_heard_48 : decode cX4_heard 48 = .ok (.bipush 100, 2) := by decide +kernel
theorem dX4_heard_50 : decode cX4_heard 50 = .ok (.if_icmp .gt 7, 3) := by decide +kernel
theorem dX4_heard_53 : decode cX4_heard 53 = .ok (.iload_n 2, 1) := by decide +kernel
theorem dX4_heard_54 : decode cX4_heard 54 = .ok (.goto 8, 3) := by decide +kernel
theorem dX4_heard_57 : decode cX4_heard 57 = .ok (.aload_n 0, 1) := by decide +kernel
theorem dX4_heard_58 : decode cX4_heard 58 = .ok (.iconst 3, 1) := by decide +kernel
theorem dX4_heard_59 : decode cX4_heard 59 = .ok (.invokevirtual 82, 3) := by decide +kernel
theorem dX4_heard_62 : decode cX4_heard 62 = .ok (.ireturn, 1) := by decide +kernel
theorem dX4_moves_0 : decode cX4_moves 0 = .ok (.aload_n 0, 1) := by decide +kernel
theorem dX4_moves_1 : decode cX4_moves 1 = .ok (.aload_n 0, 1) := by decide +kernel
theorem dX4_moves_2 : decode cX4_moves 2 = .ok (.iload_n 1, 1) := by decide +kernel
theorem dX4_moves_3 : decode cX4_moves 3 = .ok (.iconst 1, 1) := by decide +kernel
theorem dX4_moves_4 : decode cX4_moves 4 = .ok (.invokevirtual 69, 3) := by decide +kernel
theorem dX4_moves_7 : decode cX4_moves 7 = .ok (.invokevirtual 85, 3) := by decide +kernel
theorem dX4_moves_10 : decode cX4_moves 10 = .ok (.ifCond .le 15, 3) := by decide +kernel
theorem dX4_moves_13 : decode cX4_moves 13 = .ok (.aload_n 0, 1) := by decide +kernel
theorem dX4_moves_14 : decode cX4_moves 14 = .ok (.iload_n 1, 1) := by decide +kernel
theorem dX4_moves_15 : decode cX4_moves 15 = .ok (.invokevirtual 120, 3) := by decide +kernel
theorem dX4_moves_18 : decode cX4_moves 18 = .ok (.ifCond .le 7, 3) := by decide +kernel
theorem dX4_moves_21 : decode cX4_moves 21 = .ok (.iconst 1, 1) := by decide +kernel
theorem dX4_moves_22 : decode cX4_moves 22 = .ok (.goto 4, 3) := by decide +kernel
theorem dX4_moves_25 : decode cX4_moves 25 = .ok (.iconst 0, 1) := by decide +kernel
theorem dX4_moves_26 : decode cX4_moves 26 = .ok (.ireturn, 1) := by decide +kernel
theorem dX4_isStill_0 : decode cX4_isStill 0 = .ok (.iconst 1, 1) := by decide +kernel
theorem dX4_isStill_1 : decode cX4_isStill 1 = .ok (.istore_n 1, 1) := by decide +kernel
theorem dX4_isStill_2 : decode cX4_isStill 2 = .ok (.iconst 0, 1) := by decide +kernel
theorem dX4_isStill_3 : decode cX4_isStill 3 = .ok (.istore_n 2, 1) := by decide +kernel
theorem dX4_isStill_4 : decode cX4_isStill 4 = .ok (.iload_n 2, 1) := by decide +kernel
theorem dX4_isStill_5 : decode cX4_isStill 5 = .ok (.aload_n 0, 1) := by decide +kernel
theorem dX4_isStill_6 : decode cX4_isStill 6 = .ok (.getfield 9, 3) := by decide +kernel
theorem dX4_isStill_9 : decode cX4_isStill 9 = .ok (.iconst 1, 1) := by decide +kernel
theorem dX4_isStill_10 : decode cX4_isStill 10 = .ok (.iaload, 1) := by decide +kernel
theorem dX4_isStill_11 : decode cX4_isStill 11 = .ok (.if_icmp .ge 27, 3) := by decide +kernel
theorem dX4_isStill_14 : decode cX4_isStill 14 = .ok (.iload_n 1, 1) := by decide +kernel
theorem dX4_isStill_15 : decode cX4_isStill 15 = .ok (.ifCond .eq 15, 3) := by decide +kernel
theorem dX4_isStill_18 : decode cX4_isStill 18 = .ok (.aload_n 0, 1) := by decide +kernel
theorem dX4_isStill_19 : decode cX4_isStill 19 = .ok (.iload_n 2, 1) := by decide +kernel
theorem dX4_isStill_20 : decode cX4_isStill 20 = .ok (.invokevirtual 177, 3) := by decide +kernel
theorem dX4_isStill_23 : decode cX4_isStill 23 = .ok (.ifCond .ne 7, 3) := by decide +kernel
theorem dX4_isStill_26 : decode cX4_isStill 26 = .ok (.iconst 1, 1) := by decide +kernel
theorem dX4_isStill_27 : decode cX4_isStill 27 = .ok (.goto 4, 3) := by decide +kernel
theorem dX4_isStill_30 : decode cX4_isStill 30 = .ok (.iconst 0, 1) := by decide +kernel
theorem dX4_isStill_31 : decode cX4_isStill 31 = .ok (.istore_n 1, 1) := by decide +kernel
theorem dX4_isStill_32 : decode cX4_isStill 32 = .ok (.iinc 2 1, 3) := by decide +kernel
theorem dX4_isStill_35 : decode cX4_isStill 35 = .ok (.goto (-31), 3) := by decide +kernel
theorem dX4_isStill_38 : decode cX4_isStill 38 = .ok (.iload_n 1, 1) := by decide +kernel
theorem dX4_isStill_39 : decode cX4_isStill 39 = .ok (.ireturn, 1) := by decide +kernel
theorem dX4_still_0 : decode cX4_still 0 = .ok (.aload_n 0, 1) := by decide +kernel
theorem dX4_still_1 : decode cX4_still 1 = .ok (.invokevirtual 168, 3) := by decide +kernel
theorem dX4_still_4 : decode cX4_still 4 = .ok (.iconst 0, 1) := by decide +kernel
theorem dX4_still_5 : decode cX4_still 5 = .ok (.istore_n 1, 1) := by decide +kernel
theorem dX4_still_6 : decode cX4_still 6 = .ok (.iload_n 1, 1) := by decide +kernel
theorem dX4_still_7 : decode cX4_still 7 = .ok (.bipush 100, 2) := by decide +kernel
theorem dX4_still_9 : decode cX4_still 9 = .ok (.if_icmp .gt 20, 3) := by decide +kernel
theorem dX4_still_12 : decode cX4_still 12 = .ok (.aload_n 0, 1) := by decide +kernel
theorem dX4_still_13 : decode cX4_still 13 = .ok (.invokevirtual 180, 3) := by decide +kernel
theorem dX4_still_16 : decode cX4_still 16 = .ok (.ifCond .ne 13, 3) := by decide +kernel
theorem dX4_still_19 : decode cX4_still 19 = .ok (.aload_n 0, 1) := by decide +kernel
theorem dX4_still_20 : decode cX4_still 20 = .ok (.invokevirtual 146, 3) := by decide +kernel
theorem dX4_still_23 : decode cX4_still 23 = .ok (.iinc 1 1, 3) := by decide +kernel
theorem dX4_still_26 : decode cX4_still 26 = .ok (.goto (-20), 3) := by decide +kernel
theorem dX4_still_29 : decode cX4_still 29 = .ok (.aload_n 0, 1) := by decide +kernel
theorem dX4_still_30 : decode cX4_still 30 = .ok (.invokevirtual 171, 3) := by decide +kernel
theorem dX4_still_33 : decode cX4_still 33 = .ok (.iload_n 1, 1) := by decide +kernel
theorem dX4_still_34 : decode cX4_still 34 = .ok (.bipush 100, 2) := by decide +kernel
theorem dX4_still_36 : decode cX4_still 36 = .ok (.if_icmp .gt 7, 3) := by decide +kernel
theorem dX4_still_39 : decode cX4_still 39 = .ok (.iload_n 1, 1) := by decide +kernel
theorem dX4_still_40 : decode cX4_still 40 = .ok (.goto 8, 3) := by decide +kernel
theorem dX4_still_43 : decode cX4_still 43 = .ok (.aload_n 0, 1) := by decide +kernel
theorem dX4_still_44 : decode cX4_still 44 = .ok (.iconst 3, 1) := by decide +kernel
theorem dX4_still_45 : decode cX4_still 45 = .ok (.invokevirtual 82, 3) := by decide +kernel
theorem dX4_still_48 : decode cX4_still 48 = .ok (.ireturn, 1) := by decide +kernel
theorem dX4_comesHome_0 : decode cX4_comesHome 0 = .ok (.aload_n 0, 1) := by decide +kernel
theorem dX4_comesHome_1 : decode cX4_comesHome 1 = .ok (.invokevirtual 168, 3) := by decide +kernel
theorem dX4_comesHome_4 : decode cX4_comesHome 4 = .ok (.iconst 0, 1) := by decide +kernel
theorem dX4_comesHome_5 : decode cX4_comesHome 5 = .ok (.istore_n 2, 1) := by decide +kernel
theorem dX4_comesHome_6 : decode cX4_comesHome 6 = .ok (.iload_n 2, 1) := by decide +kernel
theorem dX4_comesHome_7 : decode cX4_comesHome 7 = .ok (.bipush 100, 2) := by decide +kernel
theorem dX4_comesHome_9 : decode cX4_comesHome 9 = .ok (.if_icmp .gt 24, 3) := by decide +kernel
theorem dX4_comesHome_12 : decode cX4_comesHome 12 = .ok (.aload_n 0, 1) := by decide +kernel
theorem dX4_comesHome_13 : decode cX4_comesHome 13 = .ok (.iload_n 1, 1) := by decide +kernel
theorem dX4_comesHome_14 : decode cX4_comesHome 14 = .ok (.iconst 1, 1) := by decide +kernel
theorem dX4_comesHome_15 : decode cX4_comesHome 15 = .ok (.invokevirtual 69, 3) := by decide +kernel
theorem dX4_comesHome_18 : decode cX4_comesHome 18 = .ok (.bipush 15, 2) := by decide +kernel
theorem dX4_comesHome_20 : decode cX4_comesHome 20 = .ok (.if_icmp .eq 13, 3) := by decide +kernel
theorem dX4_comesHome_23 : decode cX4_comesHome 23 = .ok (.aload_n 0, 1) := by decide +kernel
theorem dX4_comesHome_24 : decode cX4_comesHome 24 = .ok (.invokevirtual 146, 3) := by decide +kernel
theorem dX4_comesHome_27 : decode cX4_comesHome 27 = .ok (.iinc 2 1, 3) := by decide +kernel
theorem dX4_comesHome_30 : decode cX4_comesHome 30 = .ok (.goto (-24), 3) := by decide +kernel
theorem dX4_comesHome_33 : decode cX4_comesHome 33 = .ok (.aload_n 0, 1) := by decide +kernel
theorem dX4_comesHome_34 : decode cX4_comesHome 34 = .ok (.invokevirtual 171, 3) := by decide +kernel
theorem dX4_comesHome_37 : decode cX4_comesHome 37 = .ok (.iload_n 2, 1) := by decide +kernel
theorem dX4_comesHome_38 : decode cX4_comesHome 38 = .ok (.ireturn, 1) := by decide +kernel
theorem dX4_harbour_0 : decode cX4_harbour 0 = .ok (.aload_n 0, 1) := by decide +kernel
theorem dX4_harbour_1 : decode cX4_harbour 1 = .ok (.iload_n 1, 1) := by decide +kernel
theorem dX4_harbour_2 : decode cX4_harbour 2 = .ok (.invokevirtual 117, 3) := by decide +kernel
theorem dX4_harbour_5 : decode cX4_harbour 5 = .ok (.ifCond .ne 9, 3) := by decide +kernel
theorem dX4_harbour_8 : decode cX4_harbour 8 = .ok (.aload_n 0, 1) := by decide +kernel
theorem dX4_harbour_9 : decode cX4_harbour 9 = .ok (.iconst 0, 1) := by decide +kernel
theorem dX4_harbour_10 : decode cX4_harbour 10 = .ok (.invokevirtual 82, 3) := by decide +kernel
theorem dX4_harbour_13 : decode cX4_harbour 13 = .ok (.ireturn, 1) := by decide +kernel
theorem dX4_harbour_14 : decode cX4_harbour 14 = .ok (.aload_n 0, 1) := by decide +kernel
theorem dX4_harbour_15 : decode cX4_harbour 15 = .ok (.iload_n 1, 1) := by decide +kernel
theorem dX4_harbour_16 : decode cX4_harbour 16 = .ok (.invokevirtual 184, 3) := by decide +kernel
theorem dX4_harbour_19 : decode cX4_harbour 19 = .ok (.istore_n 2, 1) := by decide +kernel
theorem dX4_harbour_20 : decode cX4_harbour 20 = .ok (.iload_n 2, 1) := by decide +kernel
theorem dX4_harbour_21 : decode cX4_harbour 21 = .ok (.bipush 100, 2) := by decide +kernel
theorem dX4_harbour_23 : decode cX4_harbour 23 = .ok (.if_icmp .gt 7, 3) := by decide +kernel
theorem dX4_harbour_26 : decode cX4_harbour 26 = .ok (.iload_n 2, 1) := by decide +kernel
theorem dX4_harbour_27 : decode cX4_harbour 27 = .ok (.goto 8, 3) := by decide +kernel
theorem dX4_harbour_30 : decode cX4_harbour 30 = .ok (.aload_n 0, 1) := by decide +kernel
theorem dX4_harbour_31 : decode cX4_harbour 31 = .ok (.iconst 3, 1) := by decide +kernel
theorem dX4_harbour_32 : decode cX4_harbour 32 = .ok (.invokevirtual 82, 3) := by decide +kernel
theorem dX4_harbour_35 : decode cX4_harbour 35 = .ok (.ireturn, 1) := by decide +kernel
theorem dX4_loudest_0 : decode cX4_loudest 0 = .ok (.iload_n 1, 1) := by decide +kernel
theorem dX4_loudest_1 : decode cX4_loudest 1 = .ok (.invokestatic 76, 3) := by decide +kernel
theorem dX4_loudest_4 : decode cX4_loudest 4 = .ok (.ifCond .eq 10, 3) := by decide +kernel
theorem dX4_loudest_7 : decode cX4_loudest 7 = .ok (.iload_n 2, 1) := by decide +kernel
theorem dX4_loudest_8 : decode cX4_loudest 8 = .ok (.invokestatic 165, 3) := by decide +kernel
theorem dX4_loudest_11 : decode cX4_loudest 11 = .ok (.ifCond .ne 9, 3) := by decide +kernel
theorem dX4_loudest_14 : decode cX4_loudest 14 = .ok (.aload_n 0, 1) := by decide +kernel
theorem dX4_loudest_15 : decode cX4_loudest 15 = .ok (.iconst 0, 1) := by decide +kernel
theorem dX4_loudest_16 : decode cX4_loudest 16 = .ok (.invokevirtual 82, 3) := by decide +kernel
theorem dX4_loudest_19 : decode cX4_loudest 19 = .ok (.ireturn, 1) := by decide +kernel
theorem dX4_loudest_20 : decode cX4_loudest 20 = .ok (.aload_n 0, 1) := by decide +kernel
theorem dX4_loudest_21 : decode cX4_loudest 21 = .ok (.invokevirtual 168, 3) := by decide +kernel
theorem dX4_loudest_24 : decode cX4_loudest 24 = .ok (.aload_n 0, 1) := by decide +kernel
theorem dX4_loudest_25 : decode cX4_loudest 25 = .ok (.iload_n 1, 1) := by decide +kernel
theorem dX4_loudest_26 : decode cX4_loudest 26 = .ok (.invokevirtual 72, 3) := by decide +kernel
theorem dX4_loudest_29 : decode cX4_loudest 29 = .ok (.istore_n 3, 1) := by decide +kernel
theorem dX4_loudest_30 : decode cX4_loudest 30 = .ok (.iconst 0, 1) := by decide +kernel
theorem dX4_loudest_31 : decode cX4_loudest 31 = .ok (.istore 4, 2) := by decide +kernel
theorem dX4_loudest_33 : decode cX4_loudest 33 = .ok (.iload 4, 2) := by decide +kernel
theorem dX4_loudest_35 : decode cX4_loudest 35 = .ok (.iload_n 2, 1) := by decide +kernel
theorem dX4_loudest_36 : decode cX4_loudest 36 = .ok (.if_icmp .ge 23, 3) := by decide +kernel
theorem dX4_loudest_39 : decode cX4_loudest 39 = .ok (.aload_n 0, 1) := by decide +kernel
theorem dX4_loudest_40 : decode cX4_loudest 40 = .ok (.invokevirtual 146, 3) := by decide +kernel
theorem dX4_loudest_43 : decode cX4_loudest 43 = .ok (.iload_n 3, 1) := by decide +kernel
theorem dX4_loudest_44 : decode cX4_loudest 44 = .ok (.aload_n 0, 1) := by decide +kernel
theorem dX4_loudest_45 : decode cX4_loudest 45 = .ok (.iload_n 1, 1) := by decide +kernel
theorem dX4_loudest_46 : decode cX4_loudest 46 = .ok (.invokevirtual 72, 3) := by decide +kernel
theorem dX4_loudest_49 : decode cX4_loudest 49 = .ok (.invokestatic 66, 3) := by decide +kernel
theorem dX4_loudest_52 : decode cX4_loudest 52 = .ok (.istore_n 3, 1) := by decide +kernel
theorem dX4_loudest_53 : decode cX4_loudest 53 = .ok (.iinc 4 1, 3) := by decide +kernel
theorem dX4_loudest_56 : decode cX4_loudest 56 = .ok (.goto (-23), 3) := by decide +kernel
theorem dX4_loudest_59 : decode cX4_loudest 59 = .ok (.aload_n 0, 1) := by decide +kernel
theorem dX4_loudest_60 : decode cX4_loudest 60 = .ok (.invokevirtual 171, 3) := by decide +kernel
theorem dX4_loudest_63 : decode cX4_loudest 63 = .ok (.iload_n 3, 1) := by decide +kernel
theorem dX4_loudest_64 : decode cX4_loudest 64 = .ok (.ireturn, 1) := by decide +kernel
theorem dX4_heightOf_0 : decode cX4_heightOf 0 = .ok (.aload_n 0, 1) := by decide +kernel
theorem dX4_heightOf_1 : decode cX4_heightOf 1 = .ok (.aload_n 0, 1) := by decide +kernel
theorem dX4_heightOf_2 : decode cX4_heightOf 2 = .ok (.iload_n 1, 1) := by decide +kernel
theorem dX4_heightOf_3 : decode cX4_heightOf 3 = .ok (.iconst 1, 1) := by decide +kernel
theorem dX4_heightOf_4 : decode cX4_heightOf 4 = .ok (.invokevirtual 69, 3) := by decide +kernel
theorem dX4_heightOf_7 : decode cX4_heightOf 7 = .ok (.iconst 0, 1) := by decide +kernel
theorem dX4_heightOf_8 : decode cX4_heightOf 8 = .ok (.invokevirtual 63, 3) := by decide +kernel
theorem dX4_heightOf_11 : decode cX4_heightOf 11 = .ok (.ireturn, 1) := by decide +kernel
theorem dX4_overtakes_0 : decode cX4_overtakes 0 = .ok (.aload_n 0, 1) := by decide +kernel
theorem dX4_overtakes_1 : decode cX4_overtakes 1 = .ok (.iload_n 1, 1) := by decide +kernel
theorem dX4_overtakes_2 : decode cX4_overtakes 2 = .ok (.invokevirtual 117, 3) := by decide +kernel
theorem dX4_overtakes_5 : decode cX4_overtakes 5 = .ok (.ifCond .eq 16, 3) := by decide +kernel
theorem dX4_overtakes_8 : decode cX4_overtakes 8 = .ok (.aload_n 0, 1) := by decide +kernel
theorem dX4_overtakes_9 : decode cX4_overtakes 9 = .ok (.iload_n 2, 1) := by decide +kernel
theorem dX4_overtakes_10 : decode cX4_overtakes 10 = .ok (.invokevirtual 117, 3) := by decide +kernel
theorem dX4_overtakes_13 : decode cX4_overtakes 13 = .ok (.ifCond .eq 8, 3) := by decide +kernel
theorem dX4_overtakes_16 : decode cX4_overtakes 16 = .ok (.iload_n 1, 1) := by decide +kernel
theorem dX4_overtakes_17 : decode cX4_overtakes 17 = .ok (.iload_n 2, 1) := by decide +kernel
theorem dX4_overtakes_18 : decode cX4_overtakes 18 = .ok (.if_icmp .ne 9, 3) := by decide +kernel
theorem dX4_overtakes_21 : decode cX4_overtakes 21 = .ok (.aload_n 0, 1) := by decide +kernel
theorem dX4_overtakes_22 : decode cX4_overtakes 22 = .ok (.iconst 0, 1) := by decide +kernel
theorem dX4_overtakes_23 : decode cX4_overtakes 23 = .ok (.invokevirtual 82, 3) := by decide +kernel
theorem dX4_overtakes_26 : decode cX4_overtakes 26 = .ok (.ireturn, 1) := by decide +kernel
theorem dX4_overtakes_27 : decode cX4_overtakes 27 = .ok (.aload_n 0, 1) := by decide +kernel
theorem dX4_overtakes_28 : decode cX4_overtakes 28 = .ok (.invokevirtual 168, 3) := by decide +kernel
theorem dX4_overtakes_31 : decode cX4_overtakes 31 = .ok (.iconst 0, 1) := by decide +kernel
theorem dX4_overtakes_32 : decode cX4_overtakes 32 = .ok (.istore_n 3, 1) := by decide +kernel
theorem dX4_overtakes_33 : decode cX4_overtakes 33 = .ok (.iload_n 3, 1) := by decide +kernel
theorem dX4_overtakes_34 : decode cX4_overtakes 34 = .ok (.bipush 100, 2) := by decide +kernel
theorem dX4_overtakes_36 : decode cX4_overtakes 36 = .ok (.if_icmp .gt 26, 3) := by decide +kernel
theorem dX4_overtakes_39 : decode cX4_overtakes 39 = .ok (.aload_n 0, 1) := by decide +kernel
theorem dX4_overtakes_40 : decode cX4_overtakes 40 = .ok (.iload_n 1, 1) := by decide +kernel
theorem dX4_overtakes_41 : decode cX4_overtakes 41 = .ok (.invokevirtual 187, 3) := by decide +kernel
theorem dX4_overtakes_44 : decode cX4_overtakes 44 = .ok (.aload_n 0, 1) := by decide +kernel
theorem dX4_overtakes_45 : decode cX4_overtakes 45 = .ok (.iload_n 2, 1) := by decide +kernel
theorem dX4_overtakes_46 : decode cX4_overtakes 46 = .ok (.invokevirtual 187, 3) := by decide +kernel
theorem dX4_overtakes_49 : decode cX4_overtakes 49 = .ok (.if_icmp .lt 13, 3) := by decide +kernel
theorem dX4_overtakes_52 : decode cX4_overtakes 52 = .ok (.aload_n 0, 1) := by decide +kernel
theorem dX4_overtakes_53 : decode cX4_overtakes 53 = .ok (.invokevirtual 146, 3) := by decide +kernel
theorem dX4_overtakes_56 : decode cX4_overtakes 56 = .ok (.iinc 3 1, 3) := by decide +kernel
theorem dX4_overtakes_59 : decode cX4_overtakes 59 = .ok (.goto (-26), 3) := by decide +kernel
theorem dX4_overtakes_62 : decode cX4_overtakes 62 = .ok (.aload_n 0, 1) := by decide +kernel
theorem dX4_overtakes_63 : decode cX4_overtakes 63 = .ok (.invokevirtual 171, 3) := by decide +kernel
theorem dX4_overtakes_66 : decode cX4_overtakes 66 = .ok (.iload_n 3, 1) := by decide +kernel
theorem dX4_overtakes_67 : decode cX4_overtakes 67 = .ok (.bipush 100, 2) := by decide +kernel
theorem dX4_overtakes_69 : decode cX4_overtakes 69 = .ok (.if_icmp .gt 7, 3) := by decide +kernel
theorem dX4_overtakes_72 : decode cX4_overtakes 72 = .ok (.iload_n 3, 1) := by decide +kernel
theorem dX4_overtakes_73 : decode cX4_overtakes 73 = .ok (.goto 8, 3) := by decide +kernel
theorem dX4_overtakes_76 : decode cX4_overtakes 76 = .ok (.aload_n 0, 1) := by decide +kernel
theorem dX4_overtakes_77 : decode cX4_overtakes 77 = .ok (.iconst 3, 1) := by decide +kernel
theorem dX4_overtakes_78 : decode cX4_overtakes 78 = .ok (.invokevirtual 82, 3) := by decide +kernel
theorem dX4_overtakes_81 : decode cX4_overtakes 81 = .ok (.ireturn, 1) := by decide +kernel
theorem dX4_kindFor_0 : decode cX4_kindFor 0 = .ok (.aload_n 0, 1) := by decide +kernel
theorem dX4_kindFor_1 : decode cX4_kindFor 1 = .ok (.iload_n 1, 1) := by decide +kernel
theorem dX4_kindFor_2 : decode cX4_kindFor 2 = .ok (.invokevirtual 117, 3) := by decide +kernel
theorem dX4_kindFor_5 : decode cX4_kindFor 5 = .ok (.ifCond .ne 9, 3) := by decide +kernel
theorem dX4_kindFor_8 : decode cX4_kindFor 8 = .ok (.aload_n 0, 1) := by decide +kernel
theorem dX4_kindFor_9 : decode cX4_kindFor 9 = .ok (.iconst 0, 1) := by decide +kernel
theorem dX4_kindFor_10 : decode cX4_kindFor 10 = .ok (.invokevirtual 82, 3) := by decide +kernel
theorem dX4_kindFor_13 : decode cX4_kindFor 13 = .ok (.ireturn, 1) := by decide +kernel
theorem dX4_kindFor_14 : decode cX4_kindFor 14 = .ok (.aload_n 0, 1) := by decide +kernel
theorem dX4_kindFor_15 : decode cX4_kindFor 15 = .ok (.iload_n 1, 1) := by decide +kernel
theorem dX4_kindFor_16 : decode cX4_kindFor 16 = .ok (.iconst 0, 1) := by decide +kernel
theorem dX4_kindFor_17 : decode cX4_kindFor 17 = .ok (.invokevirtual 69, 3) := by decide +kernel
theorem dX4_kindFor_20 : decode cX4_kindFor 20 = .ok (.istore_n 2, 1) := by decide +kernel
theorem dX4_kindFor_21 : decode cX4_kindFor 21 = .ok (.iconst (-1), 1) := by decide +kernel
theorem dX4_kindFor_22 : decode cX4_kindFor 22 = .ok (.istore_n 3, 1) := by decide +kernel
theorem dX4_kindFor_23 : decode cX4_kindFor 23 = .ok (.bipush 101, 2) := by decide +kernel
theorem dX4_kindFor_25 : decode cX4_kindFor 25 = .ok (.istore 4, 2) := by decide +kernel
theorem dX4_kindFor_27 : decode cX4_kindFor 27 = .ok (.iconst 0, 1) := by decide +kernel
theorem dX4_kindFor_28 : decode cX4_kindFor 28 = .ok (.istore 5, 2) := by decide +kernel
theorem dX4_kindFor_30 : decode cX4_kindFor 30 = .ok (.iload 5, 2) := by decide +kernel
theorem dX4_kindFor_32 : decode cX4_kindFor 32 = .ok (.bipush 6, 2) := by decide +kernel
theorem dX4_kindFor_34 : decode cX4_kindFor 34 = .ok (.if_icmp .gt 47, 3) := by decide +kernel
theorem dX4_kindFor_37 : decode cX4_kindFor 37 = .ok (.aload_n 0, 1) := by decide +kernel
theorem dX4_kindFor_38 : decode cX4_kindFor 38 = .ok (.iload_n 1, 1) := by decide +kernel
theorem dX4_kindFor_39 : decode cX4_kindFor 39 = .ok (.iconst 0, 1) := by decide +kernel
theorem dX4_kindFor_40 : decode cX4_kindFor 40 = .ok (.iload 5, 2) := by decide +kernel
theorem dX4_kindFor_42 : decode cX4_kindFor 42 = .ok (.invokevirtual 107, 3) := by decide +kernel
theorem dX4_kindFor_45 : decode cX4_kindFor 45 = .ok (.aload_n 0, 1) := by decide +kernel
theorem dX4_kindFor_46 : decode cX4_kindFor 46 = .ok (.iload_n 1, 1) := by decide +kernel
theorem dX4_kindFor_47 : decode cX4_kindFor 47 = .ok (.invokevirtual 184, 3) := by decide +kernel
theorem dX4_kindFor_50 : decode cX4_kindFor 50 = .ok (.istore 6, 2) := by decide +kernel
theorem dX4_kindFor_52 : decode cX4_kindFor 52 = .ok (.iload 6, 2) := by decide +kernel
theorem dX4_kindFor_54 : decode cX4_kindFor 54 = .ok (.iload 4, 2) := by decide +kernel
theorem dX4_kindFor_56 : decode cX4_kindFor 56 = .ok (.if_icmp .ge 8, 3) := by decide +kernel
theorem dX4_kindFor_59 : decode cX4_kindFor 59 = .ok (.iload 5, 2) := by decide +kernel
theorem dX4_kindFor_61 : decode cX4_kindFor 61 = .ok (.goto 4, 3) := by decide +kernel
theorem dX4_kindFor_64 : decode cX4_kindFor 64 = .ok (.iload_n 3, 1) := by decide +kernel
theorem dX4_kindFor_65 : decode cX4_kindFor 65 = .ok (.istore_n 3, 1) := by decide +kernel
theorem dX4_kindFor_66 : decode cX4_kindFor 66 = .ok (.iload 4, 2) := by decide +kernel
theorem dX4_kindFor_68 : decode cX4_kindFor 68 = .ok (.iload 6, 2) := by decide +kernel
theorem dX4_kindFor_70 : decode cX4_kindFor 70 = .ok (.invokestatic 44, 3) := by decide +kernel
theorem dX4_kindFor_73 : decode cX4_kindFor 73 = .ok (.istore 4, 2) := by decide +kernel
theorem dX4_kindFor_75 : decode cX4_kindFor 75 = .ok (.iinc 5 1, 3) := by decide +kernel
theorem dX4_kindFor_78 : decode cX4_kindFor 78 = .ok (.goto (-48), 3) := by decide +kernel
theorem dX4_kindFor_81 : decode cX4_kindFor 81 = .ok (.aload_n 0, 1) := by decide +kernel
theorem dX4_kindFor_82 : decode cX4_kindFor 82 = .ok (.iload_n 1, 1) := by decide +kernel
theorem dX4_kindFor_83 : decode cX4_kindFor 83 = .ok (.iconst 0, 1) := by decide +kernel
theorem dX4_kindFor_84 : decode cX4_kindFor 84 = .ok (.iload_n 2, 1) := by decide +kernel
theorem dX4_kindFor_85 : decode cX4_kindFor 85 = .ok (.invokevirtual 107, 3) := by decide +kernel
theorem dX4_kindFor_88 : decode cX4_kindFor 88 = .ok (.iload_n 3, 1) := by decide +kernel
theorem dX4_kindFor_89 : decode cX4_kindFor 89 = .ok (.ifCond .ge 11, 3) := by decide +kernel
theorem dX4_kindFor_92 : decode cX4_kindFor 92 = .ok (.aload_n 0, 1) := by decide +kernel
theorem dX4_kindFor_93 : decode cX4_kindFor 93 = .ok (.iconst 3, 1) := by decide +kernel
theorem dX4_kindFor_94 : decode cX4_kindFor 94 = .ok (.invokevirtual 82, 3) := by decide +kernel
theorem dX4_kindFor_97 : decode cX4_kindFor 97 = .ok (.goto 4, 3) := by decide +kernel
theorem dX4_kindFor_100 : decode cX4_kindFor 100 = .ok (.iload_n 3, 1) := by decide +kernel
theorem dX4_kindFor_101 : decode cX4_kindFor 101 = .ok (.ireturn, 1) := by decide +kernel
theorem dX4_goesFrom_0 : decode cX4_goesFrom 0 = .ok (.aload_n 0, 1) := by decide +kernel
theorem dX4_goesFrom_1 : decode cX4_goesFrom 1 = .ok (.invokevirtual 168, 3) := by decide +kernel
theorem dX4_goesFrom_4 : decode cX4_goesFrom 4 = .ok (.aload_n 0, 1) := by decide +kernel
theorem dX4_goesFrom_5 : decode cX4_goesFrom 5 = .ok (.iload_n 1, 1) := by decide +kernel
theorem dX4_goesFrom_6 : decode cX4_goesFrom 6 = .ok (.iconst 1, 1) := by decide +kernel
theorem dX4_goesFrom_7 : decode cX4_goesFrom 7 = .ok (.iload_n 2, 1) := by decide +kernel
theorem dX4_goesFrom_8 : decode cX4_goesFrom 8 = .ok (.invokevirtual 107, 3) := by decide +kernel
theorem dX4_goesFrom_11 : decode cX4_goesFrom 11 = .ok (.aload_n 0, 1) := by decide +kernel
theorem dX4_goesFrom_12 : decode cX4_goesFrom 12 = .ok (.iconst 1, 1) := by decide +kernel
theorem dX4_goesFrom_13 : decode cX4_goesFrom 13 = .ok (.iload_n 2, 1) := by decide +kernel
theorem dX4_goesFrom_14 : decode cX4_goesFrom 14 = .ok (.ishl, 1) := by decide +kernel
theorem dX4_goesFrom_15 : decode cX4_goesFrom 15 = .ok (.putfield 135, 3) := by decide +kernel
theorem dX4_goesFrom_18 : decode cX4_goesFrom 18 = .ok (.aload_n 0, 1) := by decide +kernel
theorem dX4_goesFrom_19 : decode cX4_goesFrom 19 = .ok (.iload_n 1, 1) := by decide +kernel
theorem dX4_goesFrom_20 : decode cX4_goesFrom 20 = .ok (.putfield 139, 3) := by decide +kernel
theorem dX4_goesFrom_23 : decode cX4_goesFrom 23 = .ok (.aload_n 0, 1) := by decide +kernel
theorem dX4_goesFrom_24 : decode cX4_goesFrom 24 = .ok (.bipush 100, 2) := by decide +kernel
theorem dX4_goesFrom_26 : decode cX4_goesFrom 26 = .ok (.invokevirtual 152, 3) := by decide +kernel
theorem dX4_goesFrom_29 : decode cX4_goesFrom 29 = .ok (.aload_n 0, 1) := by decide +kernel
theorem dX4_goesFrom_30 : decode cX4_goesFrom 30 = .ok (.invokevirtual 171, 3) := by decide +kernel
theorem dX4_goesFrom_33 : decode cX4_goesFrom 33 = .ok (.aload_n 0, 1) := by decide +kernel
theorem dX4_goesFrom_34 : decode cX4_goesFrom 34 = .ok (.getfield 135, 3) := by decide +kernel
theorem dX4_goesFrom_37 : decode cX4_goesFrom 37 = .ok (.ireturn, 1) := by decide +kernel
theorem dX4_goesBy_0 : decode cX4_goesBy 0 = .ok (.aload_n 0, 1) := by decide +kernel
theorem dX4_goesBy_1 : decode cX4_goesBy 1 = .ok (.iload_n 1, 1) := by decide +kernel
theorem dX4_goesBy_2 : decode cX4_goesBy 2 = .ok (.invokevirtual 117, 3) := by decide +kernel
theorem dX4_goesBy_5 : decode cX4_goesBy 5 = .ok (.ifCond .eq 17, 3) := by decide +kernel
theorem dX4_goesBy_8 : decode cX4_goesBy 8 = .ok (.aload_n 0, 1) := by decide +kernel
theorem dX4_goesBy_9 : decode cX4_goesBy 9 = .ok (.iload_n 1, 1) := by decide +kernel
theorem dX4_goesBy_10 : decode cX4_goesBy 10 = .ok (.aload_n 0, 1) := by decide +kernel
theorem dX4_goesBy_11 : decode cX4_goesBy 11 = .ok (.iload_n 1, 1) := by decide +kernel
theorem dX4_goesBy_12 : decode cX4_goesBy 12 = .ok (.iconst 1, 1) := by decide +kernel
theorem dX4_goesBy_13 : decode cX4_goesBy 13 = .ok (.invokevirtual 69, 3) := by decide +kernel
theorem dX4_goesBy_16 : decode cX4_goesBy 16 = .ok (.invokevirtual 190, 3) := by decide +kernel
theorem dX4_goesBy_19 : decode cX4_goesBy 19 = .ok (.goto 8, 3) := by decide +kernel
theorem dX4_goesBy_22 : decode cX4_goesBy 22 = .ok (.aload_n 0, 1) := by decide +kernel
theorem dX4_goesBy_23 : decode cX4_goesBy 23 = .ok (.iconst 0, 1) := by decide +kernel
theorem dX4_goesBy_24 : decode cX4_goesBy 24 = .ok (.invokevirtual 82, 3) := by decide +kernel
theorem dX4_goesBy_27 : decode cX4_goesBy 27 = .ok (.ireturn, 1) := by decide +kernel
theorem dX4_findPlaces_0 : decode cX4_findPlaces 0 = .ok (.aload_n 0, 1) := by decide +kernel
theorem dX4_findPlaces_1 : decode cX4_findPlaces 1 = .ok (.iconst (-1), 1) := by decide +kernel
theorem dX4_findPlaces_2 : decode cX4_findPlaces 2 = .ok (.putfield 193, 3) := by decide +kernel
theorem dX4_findPlaces_5 : decode cX4_findPlaces 5 = .ok (.aload_n 0, 1) := by decide +kernel
theorem dX4_findPlaces_6 : decode cX4_findPlaces 6 = .ok (.iconst 0, 1) := by decide +kernel
theorem dX4_findPlaces_7 : decode cX4_findPlaces 7 = .ok (.putfield 196, 3) := by decide +kernel
theorem dX4_findPlaces_10 : decode cX4_findPlaces 10 = .ok (.iconst 0, 1) := by decide +kernel
theorem dX4_findPlaces_11 : decode cX4_findPlaces 11 = .ok (.istore 4, 2) := by decide +kernel
theorem dX4_findPlaces_13 : decode cX4_findPlaces 13 = .ok (.iload 4, 2) := by decide +kernel
theorem dX4_findPlaces_15 : decode cX4_findPlaces 15 = .ok (.bipush 16, 2) := by decide +kernel
theorem dX4_findPlaces_17 : decode cX4_findPlaces 17 = .ok (.if_icmp .ge 82, 3) := by decide +kernel
theorem dX4_findPlaces_20 : decode cX4_findPlaces 20 = .ok (.aload_n 0, 1) := by decide +kernel
theorem dX4_findPlaces_21 : decode cX4_findPlaces 21 = .ok (.iload_n 1, 1) := by decide +kernel
theorem dX4_findPlaces_22 : decode cX4_findPlaces 22 = .ok (.iload 4, 2) := by decide +kernel
theorem dX4_findPlaces_24 : decode cX4_findPlaces 24 = .ok (.invokevirtual 190, 3) := by decide +kernel
theorem dX4_findPlaces_27 : decode cX4_findPlaces 27 = .ok (.istore 5, 2) := by decide +kernel
theorem dX4_findPlaces_29 : decode cX4_findPlaces 29 = .ok (.iload 5, 2) := by decide +kernel
theorem dX4_findPlaces_31 : decode cX4_findPlaces 31 = .ok (.iload_n 2, 1) := by decide +kernel
theorem dX4_findPlaces_32 : decode cX4_findPlaces 32 = .ok (.iand, 1) := by decide +kernel
theorem dX4_findPlaces_33 : decode cX4_findPlaces 33 = .ok (.iload_n 2, 1) := by decide +kernel
theorem dX4_findPlaces_34 : decode cX4_findPlaces 34 = .ok (.if_icmp .ne 59, 3) := by decide +kernel
theorem dX4_findPlaces_37 : decode cX4_findPlaces 37 = .ok (.iload 5, 2) := by decide +kernel
theorem dX4_findPlaces_39 : decode cX4_findPlaces 39 = .ok (.iload_n 3, 1) := by decide +kernel
theorem dX4_findPlaces_40 : decode cX4_findPlaces 40 = .ok (.iand, 1) := by decide +kernel
theorem dX4_findPlaces_41 : decode cX4_findPlaces 41 = .ok (.ifCond .ne 52, 3) := by decide +kernel
theorem dX4_findPlaces_44 : decode cX4_findPlaces 44 = .ok (.aload_n 0, 1) := by decide +kernel
theorem dX4_findPlaces_45 : decode cX4_findPlaces 45 = .ok (.dup, 1) := by decide +kernel
theorem dX4_findPlaces_46 : decode cX4_findPlaces 46 = .ok (.getfield 196, 3) := by decide +kernel
theorem dX4_findPlaces_49 : decode cX4_findPlaces 49 = .ok (.iconst 1, 1) := by decide +kernel
theorem dX4_findPlaces_50 : decode cX4_findPlaces 50 = .ok (.iadd, 1) := by decide +kernel
theorem dX4_findPlaces_51 : decode cX4_findPlaces 51 = .ok (.putfield 196, 3) := by decide +kernel
theorem dX4_findPlaces_54 : decode cX4_findPlaces 54 = .ok (.aload_n 0, 1) := by decide +kernel
theorem dX4_findPlaces_55 : decode cX4_findPlaces 55 = .ok (.aload_n 0, 1) := by decide +kernel
theorem dX4_findPlaces_56 : decode cX4_findPlaces 56 = .ok (.getfield 193, 3) := by decide +kernel
theorem dX4_findPlaces_59 : decode cX4_findPlaces 59 = .ok (.ifCond .lt 22, 3) := by decide +kernel
theorem dX4_findPlaces_62 : decode cX4_findPlaces 62 = .ok (.aload_n 0, 1) := by decide +kernel
theorem dX4_findPlaces_63 : decode cX4_findPlaces 63 = .ok (.iload 4, 2) := by decide +kernel
theorem dX4_findPlaces_65 : decode cX4_findPlaces 65 = .ok (.iconst 0, 1) := by decide +kernel
theorem dX4_findPlaces_66 : decode cX4_findPlaces 66 = .ok (.invokevirtual 63, 3) := by decide +kernel
theorem dX4_findPlaces_69 : decode cX4_findPlaces 69 = .ok (.aload_n 0, 1) := by decide +kernel
theorem dX4_findPlaces_70 : decode cX4_findPlaces 70 = .ok (.aload_n 0, 1) := by decide +kernel
theorem dX4_findPlaces_71 : decode cX4_findPlaces 71 = .ok (.getfield 193, 3) := by decide +kernel
theorem dX4_findPlaces_74 : decode cX4_findPlaces 74 = .ok (.iconst 0, 1) := by decide +kernel
theorem dX4_findPlaces_75 : decode cX4_findPlaces 75 = .ok (.invokevirtual 63, 3) := by decide +kernel
theorem dX4_findPlaces_78 : decode cX4_findPlaces 78 = .ok (.if_icmp .le 8, 3) := by decide +kernel
theorem dX4_findPlaces_81 : decode cX4_findPlaces 81 = .ok (.iload 4, 2) := by decide +kernel
theorem dX4_findPlaces_83 : decode cX4_findPlaces 83 = .ok (.goto 7, 3) := by decide +kernel
theorem dX4_findPlaces_86 : decode cX4_findPlaces 86 = .ok (.aload_n 0, 1) := by decide +kernel
theorem dX4_findPlaces_87 : decode cX4_findPlaces 87 = .ok (.getfield 193, 3) := by decide +kernel
theorem dX4_findPlaces_90 : decode cX4_findPlaces 90 = .ok (.putfield 193, 3) := by decide +kernel
theorem dX4_findPlaces_93 : decode cX4_findPlaces 93 = .ok (.iinc 4 1, 3) := by decide +kernel
theorem dX4_findPlaces_96 : decode cX4_findPlaces 96 = .ok (.goto (-83), 3) := by decide +kernel
theorem dX4_findPlaces_99 : decode cX4_findPlaces 99 = .ok (.return_, 1) := by decide +kernel
theorem dX4_arePlaces_0 : decode cX4_arePlaces 0 = .ok (.aload_n 0, 1) := by decide +kernel
theorem dX4_arePlaces_1 : decode cX4_arePlaces 1 = .ok (.iload_n 1, 1) := by decide +kernel
theorem dX4_arePlaces_2 : decode cX4_arePlaces 2 = .ok (.invokevirtual 117, 3) := by decide +kernel
theorem dX4_arePlaces_5 : decode cX4_arePlaces 5 = .ok (.ifCond .eq 21, 3) := by decide +kernel
theorem dX4_arePlaces_8 : decode cX4_arePlaces 8 = .ok (.iload_n 2, 1) := by decide +kernel
theorem dX4_arePlaces_9 : decode cX4_arePlaces 9 = .ok (.invokestatic 132, 3) := by decide +kernel
theorem dX4_arePlaces_12 : decode cX4_arePlaces 12 = .ok (.ifCond .eq 14, 3) := by decide +kernel
theorem dX4_arePlaces_15 : decode cX4_arePlaces 15 = .ok (.iload_n 3, 1) := by decide +kernel
theorem dX4_arePlaces_16 : decode cX4_arePlaces 16 = .ok (.invokestatic 132, 3) := by decide +kernel
theorem dX4_arePlaces_19 : decode cX4_arePlaces 19 = .ok (.ifCond .eq 7, 3) := by decide +kernel
theorem dX4_arePlaces_22 : decode cX4_arePlaces 22 = .ok (.iconst 1, 1) := by decide +kernel
theorem dX4_arePlaces_23 : decode cX4_arePlaces 23 = .ok (.goto 4, 3) := by decide +kernel
theorem dX4_arePlaces_26 : decode cX4_arePlaces 26 = .ok (.iconst 0, 1) := by decide +kernel
theorem dX4_arePlaces_27 : decode cX4_arePlaces 27 = .ok (.ireturn, 1) := by decide +kernel
theorem dX4_where_0 : decode cX4_where 0 = .ok (.aload_n 0, 1) := by decide +kernel
theorem dX4_where_1 : decode cX4_where 1 = .ok (.iload_n 1, 1) := by decide +kernel
theorem dX4_where_2 : decode cX4_where 2 = .ok (.iload_n 2, 1) := by decide +kernel
theorem dX4_where_3 : decode cX4_where 3 = .ok (.iload_n 3, 1) := by decide +kernel
theorem dX4_where_4 : decode cX4_where 4 = .ok (.invokevirtual 199, 3) := by decide +kernel
theorem dX4_where_7 : decode cX4_where 7 = .ok (.ifCond .ne 9, 3) := by decide +kernel
theorem dX4_where_10 : decode cX4_where 10 = .ok (.aload_n 0, 1) := by decide +kernel
theorem dX4_where_11 : decode cX4_where 11 = .ok (.iconst 0, 1) := by decide +kernel
theorem dX4_where_12 : decode cX4_where 12 = .ok (.invokevirtual 82, 3) := by decide +kernel
theorem dX4_where_15 : decode cX4_where 15 = .ok (.ireturn, 1) := by decide +kernel
theorem dX4_where_16 : decode cX4_where 16 = .ok (.aload_n 0, 1) := by decide +kernel
theorem dX4_where_17 : decode cX4_where 17 = .ok (.iload_n 1, 1) := by decide +kernel
theorem dX4_where_18 : decode cX4_where 18 = .ok (.iload_n 2, 1) := by decide +kernel
theorem dX4_where_19 : decode cX4_where 19 = .ok (.iload_n 3, 1) := by decide +kernel
theorem dX4_where_20 : decode cX4_where 20 = .ok (.invokevirtual 203, 3) := by decide +kernel
theorem dX4_where_23 : decode cX4_where 23 = .ok (.aload_n 0, 1) := by decide +kernel
theorem dX4_where_24 : decode cX4_where 24 = .ok (.getfield 193, 3) := by decide +kernel
theorem dX4_where_27 : decode cX4_where 27 = .ok (.ifCond .ge 11, 3) := by decide +kernel
theorem dX4_where_30 : decode cX4_where 30 = .ok (.aload_n 0, 1) := by decide +kernel
theorem dX4_where_31 : decode cX4_where 31 = .ok (.iconst 3, 1) := by decide +kernel
theorem dX4_where_32 : decode cX4_where 32 = .ok (.invokevirtual 82, 3) := by decide +kernel
theorem dX4_where_35 : decode cX4_where 35 = .ok (.goto 7, 3) := by decide +kernel
theorem dX4_where_38 : decode cX4_where 38 = .ok (.aload_n 0, 1) := by decide +kernel
theorem dX4_where_39 : decode cX4_where 39 = .ok (.getfield 193, 3) := by decide +kernel
theorem dX4_where_42 : decode cX4_where 42 = .ok (.ireturn, 1) := by decide +kernel
theorem dX4_places_0 : decode cX4_places 0 = .ok (.aload_n 0, 1) := by decide +kernel
theorem dX4_places_1 : decode cX4_places 1 = .ok (.iload_n 1, 1) := by decide +kernel
theorem dX4_places_2 : decode cX4_places 2 = .ok (.iload_n 2, 1) := by decide +kernel
theorem dX4_places_3 : decode cX4_places 3 = .ok (.iload_n 3, 1) := by decide +kernel
theorem dX4_places_4 : decode cX4_places 4 = .ok (.invokevirtual 199, 3) := by decide +kernel
theorem dX4_places_7 : decode cX4_places 7 = .ok (.ifCond .ne 9, 3) := by decide +kernel
theorem dX4_places_10 : decode cX4_places 10 = .ok (.aload_n 0, 1) := by decide +kernel
theorem dX4_places_11 : decode cX4_places 11 = .ok (.iconst 0, 1) := by decide +kernel
theorem dX4_places_12 : decode cX4_places 12 = .ok (.invokevirtual 82, 3) := by decide +kernel
theorem dX4_places_15 : decode cX4_places 15 = .ok (.ireturn, 1) := by decide +kernel
theorem dX4_places_16 : decode cX4_places 16 = .ok (.aload_n 0, 1) := by decide +kernel
theorem dX4_places_17 : decode cX4_places 17 = .ok (.iload_n 1, 1) := by decide +kernel
theorem dX4_places_18 : decode cX4_places 18 = .ok (.iload_n 2, 1) := by decide +kernel
theorem dX4_places_19 : decode cX4_places 19 = .ok (.iload_n 3, 1) := by decide +kernel
theorem dX4_places_20 : decode cX4_places 20 = .ok (.invokevirtual 203, 3) := by decide +kernel
theorem dX4_places_23 : decode cX4_places 23 = .ok (.aload_n 0, 1) := by decide +kernel
theorem dX4_places_24 : decode cX4_places 24 = .ok (.getfield 196, 3) := by decide +kernel
theorem dX4_places_27 : decode cX4_places 27 = .ok (.ireturn, 1) := by decide +kernel
theorem dX4_isShort_0 : decode cX4_isShort 0 = .ok (.iload_n 0, 1) := by decide +kernel
theorem dX4_isShort_1 : decode cX4_isShort 1 = .ok (.i2l, 1) := by decide +kernel
theorem dX4_isShort_2 : decode cX4_isShort 2 = .ok (.lconst 0, 1) := by decide +kernel
theorem dX4_isShort_3 : decode cX4_isShort 3 = .ok (.ldc2_w 206, 3) := by decide +kernel
theorem dX4_isShort_6 : decode cX4_isShort 6 = .ok (.invokestatic 57, 3) := by decide +kernel
theorem dX4_isShort_9 : decode cX4_isShort 9 = .ok (.ireturn, 1) := by decide +kernel
theorem dX4_weightFor_0 : decode cX4_weightFor 0 = .ok (.aload_n 0, 1) := by decide +kernel
theorem dX4_weightFor_1 : decode cX4_weightFor 1 = .ok (.iload_n 1, 1) := by decide +kernel
theorem dX4_weightFor_2 : decode cX4_weightFor 2 = .ok (.invokevirtual 117, 3) := by decide +kernel
theorem dX4_weightFor_5 : decode cX4_weightFor 5 = .ok (.ifCond .eq 17, 3) := by decide +kernel
theorem dX4_weightFor_8 : decode cX4_weightFor 8 = .ok (.iload_n 2, 1) := by decide +kernel
theorem dX4_weightFor_9 : decode cX4_weightFor 9 = .ok (.invokestatic 76, 3) := by decide +kernel
theorem dX4_weightFor_12 : decode cX4_weightFor 12 = .ok (.ifCond .eq 10, 3) := by decide +kernel
theorem dX4_weightFor_15 : decode cX4_weightFor 15 = .ok (.iload_n 3, 1) := by decide +kernel
theorem dX4_weightFor_16 : decode cX4_weightFor 16 = .ok (.invokestatic 208, 3) := by decide +kernel
theorem dX4_weightFor_19 : decode cX4_weightFor 19 = .ok (.ifCond .ne 9, 3) := by decide +kernel
theorem dX4_weightFor_22 : decode cX4_weightFor 22 = .ok (.aload_n 0, 1) := by decide +kernel
theorem dX4_weightFor_23 : decode cX4_weightFor 23 = .ok (.iconst 0, 1) := by decide +kernel
theorem dX4_weightFor_24 : decode cX4_weightFor 24 = .ok (.invokevirtual 82, 3) := by decide +kernel
theorem dX4_weightFor_27 : decode cX4_weightFor 27 = .ok (.ireturn, 1) := by decide +kernel
theorem dX4_weightFor_28 : decode cX4_weightFor 28 = .ok (.aload_n 0, 1) := by decide +kernel
theorem dX4_weightFor_29 : decode cX4_weightFor 29 = .ok (.iload_n 1, 1) := by decide +kernel
theorem dX4_weightFor_30 : decode cX4_weightFor 30 = .ok (.iconst 2, 1) := by decide +kernel
theorem dX4_weightFor_31 : decode cX4_weightFor 31 = .ok (.invokevirtual 69, 3) := by decide +kernel
theorem dX4_weightFor_34 : decode cX4_weightFor 34 = .ok (.istore 4, 2) := by decide +kernel
theorem dX4_weightFor_36 : decode cX4_weightFor 36 = .ok (.iconst 0, 1) := by decide +kernel
theorem dX4_weightFor_37 : decode cX4_weightFor 37 = .ok (.istore 5, 2) := by decide +kernel
theorem dX4_weightFor_39 : decode cX4_weightFor 39 = .ok (.iconst 0, 1) := by decide +kernel
theorem dX4_weightFor_40 : decode cX4_weightFor 40 = .ok (.istore 6, 2) := by decide +kernel
theorem dX4_weightFor_42 : decode cX4_weightFor 42 = .ok (.iload 5, 2) := by decide +kernel
theorem dX4_weightFor_44 : decode cX4_weightFor 44 = .ok (.sipush 999, 3) := by decide +kernel
theorem dX4_weightFor_47 : decode cX4_weightFor 47 = .ok (.if_icmp .ge 44, 3) := by decide +kernel
theorem dX4_weightFor_50 : decode cX4_weightFor 50 = .ok (.iload 6, 2) := by decide +kernel
theorem dX4_weightFor_52 : decode cX4_weightFor 52 = .ok (.ifCond .ne 39, 3) := by decide +kernel
theorem dX4_weightFor_55 : decode cX4_weightFor 55 = .ok (.iinc 5 1, 3) := by decide +kernel
theorem dX4_weightFor_58 : decode cX4_weightFor 58 = .ok (.aload_n 0, 1) := by decide +kernel
theorem dX4_weightFor_59 : decode cX4_weightFor 59 = .ok (.iload_n 1, 1) := by decide +kernel
theorem dX4_weightFor_60 : decode cX4_weightFor 60 = .ok (.iconst 2, 1) := by decide +kernel
theorem dX4_weightFor_61 : decode cX4_weightFor 61 = .ok (.iload 5, 2) := by decide +kernel
theorem dX4_weightFor_63 : decode cX4_weightFor 63 = .ok (.invokevirtual 107, 3) := by decide +kernel
theorem dX4_weightFor_66 : decode cX4_weightFor 66 = .ok (.aload_n 0, 1) := by decide +kernel
theorem dX4_weightFor_67 : decode cX4_weightFor 67 = .ok (.iload_n 2, 1) := by decide +kernel
theorem dX4_weightFor_68 : decode cX4_weightFor 68 = .ok (.iload_n 3, 1) := by decide +kernel
theorem dX4_weightFor_69 : decode cX4_weightFor 69 = .ok (.invokevirtual 174, 3) := by decide +kernel
theorem dX4_weightFor_72 : decode cX4_weightFor 72 = .ok (.aload_n 0, 1) := by decide +kernel
theorem dX4_weightFor_73 : decode cX4_weightFor 73 = .ok (.iload_n 2, 1) := by decide +kernel
theorem dX4_weightFor_74 : decode cX4_weightFor 74 = .ok (.iconst 4, 1) := by decide +kernel
theorem dX4_weightFor_75 : decode cX4_weightFor 75 = .ok (.invokevirtual 63, 3) := by decide +kernel
theorem dX4_weightFor_78 : decode cX4_weightFor 78 = .ok (.if_icmp .lt 7, 3) := by decide +kernel
theorem dX4_weightFor_81 : decode cX4_weightFor 81 = .ok (.iconst 1, 1) := by decide +kernel
theorem dX4_weightFor_82 : decode cX4_weightFor 82 = .ok (.goto 4, 3) := by decide +kernel
theorem dX4_weightFor_85 : decode cX4_weightFor 85 = .ok (.iconst 0, 1) := by decide +kernel
theorem dX4_weightFor_86 : decode cX4_weightFor 86 = .ok (.istore 6, 2) := by decide +kernel
theorem dX4_weightFor_88 : decode cX4_weightFor 88 = .ok (.goto (-46), 3) := by decide +kernel
theorem dX4_weightFor_91 : decode cX4_weightFor 91 = .ok (.aload_n 0, 1) := by decide +kernel
theorem dX4_weightFor_92 : decode cX4_weightFor 92 = .ok (.iload_n 1, 1) := by decide +kernel
theorem dX4_weightFor_93 : decode cX4_weightFor 93 = .ok (.iconst 2, 1) := by decide +kernel
theorem dX4_weightFor_94 : decode cX4_weightFor 94 = .ok (.iload 4, 2) := by decide +kernel
theorem dX4_weightFor_96 : decode cX4_weightFor 96 = .ok (.invokevirtual 107, 3) := by decide +kernel
theorem dX4_weightFor_99 : decode cX4_weightFor 99 = .ok (.iload 6, 2) := by decide +kernel
theorem dX4_weightFor_101 : decode cX4_weightFor 101 = .ok (.ifCond .eq 8, 3) := by decide +kernel
theorem dX4_weightFor_104 : decode cX4_weightFor 104 = .ok (.iload 5, 2) := by decide +kernel
theorem dX4_weightFor_106 : decode cX4_weightFor 106 = .ok (.goto 8, 3) := by decide +kernel
theorem dX4_weightFor_109 : decode cX4_weightFor 109 = .ok (.aload_n 0, 1) := by decide +kernel
theorem dX4_weightFor_110 : decode cX4_weightFor 110 = .ok (.iconst 3, 1) := by decide +kernel
theorem dX4_weightFor_111 : decode cX4_weightFor 111 = .ok (.invokevirtual 82, 3) := by decide +kernel
theorem dX4_weightFor_114 : decode cX4_weightFor 114 = .ok (.ireturn, 1) := by decide +kernel
theorem dX4_costOf_0 : decode cX4_costOf 0 = .ok (.iconst 0, 1) := by decide +kernel
theorem dX4_costOf_1 : decode cX4_costOf 1 = .ok (.istore_n 2, 1) := by decide +kernel
theorem dX4_costOf_2 : decode cX4_costOf 2 = .ok (.iconst 0, 1) := by decide +kernel
theorem dX4_costOf_3 : decode cX4_costOf 3 = .ok (.istore_n 3, 1) := by decide +kernel
theorem dX4_costOf_4 : decode cX4_costOf 4 = .ok (.iload_n 3, 1) := by decide +kernel
theorem dX4_costOf_5 : decode cX4_costOf 5 = .ok (.bipush 8, 2) := by decide +kernel
theorem dX4_costOf_7 : decode cX4_costOf 7 = .ok (.if_icmp .ge 24, 3) := by decide +kernel
theorem dX4_costOf_10 : decode cX4_costOf 10 = .ok (.iload_n 2, 1) := by decide +kernel
theorem dX4_costOf_11 : decode cX4_costOf 11 = .ok (.iload_n 1, 1) := by decide +kernel
theorem dX4_costOf_12 : decode cX4_costOf 12 = .ok (.iload_n 3, 1) := by decide +kernel
theorem dX4_costOf_13 : decode cX4_costOf 13 = .ok (.ishr, 1) := by decide +kernel
theorem dX4_costOf_14 : decode cX4_costOf 14 = .ok (.iconst 1, 1) := by decide +kernel
theorem dX4_costOf_15 : decode cX4_costOf 15 = .ok (.iand, 1) := by decide +kernel
theorem dX4_costOf_16 : decode cX4_costOf 16 = .ok (.aload_n 0, 1) := by decide +kernel
theorem dX4_costOf_17 : decode cX4_costOf 17 = .ok (.iload_n 3, 1) := by decide +kernel
theorem dX4_costOf_18 : decode cX4_costOf 18 = .ok (.iconst 3, 1) := by decide +kernel
theorem dX4_costOf_19 : decode cX4_costOf 19 = .ok (.invokevirtual 63, 3) := by decide +kernel
theorem dX4_costOf_22 : decode cX4_costOf 22 = .ok (.imul, 1) := by decide +kernel
theorem dX4_costOf_23 : decode cX4_costOf 23 = .ok (.iadd, 1) := by decide +kernel
theorem dX4_costOf_24 : decode cX4_costOf 24 = .ok (.istore_n 2, 1) := by decide +kernel
theorem dX4_costOf_25 : decode cX4_costOf 25 = .ok (.iinc 3 1, 3) := by decide +kernel
theorem dX4_costOf_28 : decode cX4_costOf 28 = .ok (.goto (-24), 3) := by decide +kernel
theorem dX4_costOf_31 : decode cX4_costOf 31 = .ok (.iload_n 2, 1) := by decide +kernel
theorem dX4_costOf_32 : decode cX4_costOf 32 = .ok (.ireturn, 1) := by decide +kernel
theorem dX4_loudWith_0 : decode cX4_loudWith 0 = .ok (.aload_n 0, 1) := by decide +kernel
theorem dX4_loudWith_1 : decode cX4_loudWith 1 = .ok (.getfield 22, 3) := by decide +kernel
theorem dX4_loudWith_4 : decode cX4_loudWith 4 = .ok (.astore 4, 2) := by decide +kernel
theorem dX4_loudWith_6 : decode cX4_loudWith 6 = .ok (.iconst 0, 1) := by decide +kernel
theorem dX4_loudWith_7 : decode cX4_loudWith 7 = .ok (.istore 5, 2) := by decide +kernel
theorem dX4_loudWith_9 : decode cX4_loudWith 9 = .ok (.iload 5, 2) := by decide +kernel
theorem dX4_loudWith_11 : decode cX4_loudWith 11 = .ok (.bipush 8, 2) := by decide +kernel
theorem dX4_loudWith_13 : decode cX4_loudWith 13 = .ok (.if_icmp .ge 48, 3) := by decide +kernel
theorem dX4_loudWith_16 : decode cX4_loudWith 16 = .ok (.aload 4, 2) := by decide +kernel
theorem dX4_loudWith_18 : decode cX4_loudWith 18 = .ok (.iload 5, 2) := by decide +kernel
theorem dX4_loudWith_20 : decode cX4_loudWith 20 = .ok (.aload_n 0, 1) := by decide +kernel
theorem dX4_loudWith_21 : decode cX4_loudWith 21 = .ok (.iload 5, 2) := by decide +kernel
theorem dX4_loudWith_23 : decode cX4_loudWith 23 = .ok (.iconst 2, 1) := by decide +kernel
theorem dX4_loudWith_24 : decode cX4_loudWith 24 = .ok (.invokevirtual 63, 3) := by decide +kernel
theorem dX4_loudWith_27 : decode cX4_loudWith 27 = .ok (.iastore, 1) := by decide +kernel
theorem dX4_loudWith_28 : decode cX4_loudWith 28 = .ok (.aload_n 0, 1) := by decide +kernel
theorem dX4_loudWith_29 : decode cX4_loudWith 29 = .ok (.iload 5, 2) := by decide +kernel
theorem dX4_loudWith_31 : decode cX4_loudWith 31 = .ok (.iconst 2, 1) := by decide +kernel
theorem dX4_loudWith_32 : decode cX4_loudWith 32 = .ok (.iload_n 1, 1) := by decide +kernel
theorem dX4_loudWith_33 : decode cX4_loudWith 33 = .ok (.iload 5, 2) := by decide +kernel
theorem dX4_loudWith_35 : decode cX4_loudWith 35 = .ok (.ishr, 1) := by decide +kernel
theorem dX4_loudWith_36 : decode cX4_loudWith 36 = .ok (.iconst 1, 1) := by decide +kernel
theorem dX4_loudWith_37 : decode cX4_loudWith 37 = .ok (.iand, 1) := by decide +kernel
theorem dX4_loudWith_38 : decode cX4_loudWith 38 = .ok (.iconst 1, 1) := by decide +kernel
theorem dX4_loudWith_39 : decode cX4_loudWith 39 = .ok (.if_icmp .ne 8, 3) := by decide +kernel
theorem dX4_loudWith_42 : decode cX4_loudWith 42 = .ok (.bipush 9, 2) := by decide +kernel
theorem dX4_loudWith_44 : decode cX4_loudWith 44 = .ok (.goto 8, 3) := by decide +kernel
theorem dX4_loudWith_47 : decode cX4_loudWith 47 = .ok (.aload 4, 2) := by decide +kernel
theorem dX4_loudWith_49 : decode cX4_loudWith 49 = .ok (.iload 5, 2) := by decide +kernel
theorem dX4_loudWith_51 : decode cX4_loudWith 51 = .ok (.iaload, 1) := by decide +kernel
theorem dX4_loudWith_52 : decode cX4_loudWith 52 = .ok (.invokevirtual 40, 3) := by decide +kernel
theorem dX4_loudWith_55 : decode cX4_loudWith 55 = .ok (.iinc 5 1, 3) := by decide +kernel
theorem dX4_loudWith_58 : decode cX4_loudWith 58 = .ok (.goto (-49), 3) := by decide +kernel
theorem dX4_loudWith_61 : decode cX4_loudWith 61 = .ok (.aload_n 0, 1) := by decide +kernel
theorem dX4_loudWith_62 : decode cX4_loudWith 62 = .ok (.iload_n 2, 1) := by decide +kernel
theorem dX4_loudWith_63 : decode cX4_loudWith 63 = .ok (.iload_n 3, 1) := by decide +kernel
theorem dX4_loudWith_64 : decode cX4_loudWith 64 = .ok (.invokevirtual 174, 3) := by decide +kernel
theorem dX4_loudWith_67 : decode cX4_loudWith 67 = .ok (.istore 5, 2) := by decide +kernel
theorem dX4_loudWith_69 : decode cX4_loudWith 69 = .ok (.iconst 0, 1) := by decide +kernel
theorem dX4_loudWith_70 : decode cX4_loudWith 70 = .ok (.istore 6, 2) := by decide +kernel
theorem dX4_loudWith_72 : decode cX4_loudWith 72 = .ok (.iload 6, 2) := by decide +kernel
theorem dX4_loudWith_74 : decode cX4_loudWith 74 = .ok (.bipush 8, 2) := by decide +kernel
theorem dX4_loudWith_76 : decode cX4_loudWith 76 = .ok (.if_icmp .ge 21, 3) := by decide +kernel
theorem dX4_loudWith_79 : decode cX4_loudWith 79 = .ok (.aload_n 0, 1) := by decide +kernel
theorem dX4_loudWith_80 : decode cX4_loudWith 80 = .ok (.iload 6, 2) := by decide +kernel
theorem dX4_loudWith_82 : decode cX4_loudWith 82 = .ok (.iconst 2, 1) := by decide +kernel
theorem dX4_loudWith_83 : decode cX4_loudWith 83 = .ok (.aload 4, 2) := by decide +kernel
theorem dX4_loudWith_85 : decode cX4_loudWith 85 = .ok (.iload 6, 2) := by decide +kernel
theorem dX4_loudWith_87 : decode cX4_loudWith 87 = .ok (.iaload, 1) := by decide +kernel
theorem dX4_loudWith_88 : decode cX4_loudWith 88 = .ok (.invokevirtual 40, 3) := by decide +kernel
theorem dX4_loudWith_91 : decode cX4_loudWith 91 = .ok (.iinc 6 1, 3) := by decide +kernel
theorem dX4_loudWith_94 : decode cX4_loudWith 94 = .ok (.goto (-22), 3) := by decide +kernel
theorem dX4_loudWith_97 : decode cX4_loudWith 97 = .ok (.iload 5, 2) := by decide +kernel
theorem dX4_loudWith_99 : decode cX4_loudWith 99 = .ok (.ireturn, 1) := by decide +kernel
theorem dX4_findSand_0 : decode cX4_findSand 0 = .ok (.aload_n 0, 1) := by decide +kernel
theorem dX4_findSand_1 : decode cX4_findSand 1 = .ok (.iconst (-1), 1) := by decide +kernel
theorem dX4_findSand_2 : decode cX4_findSand 2 = .ok (.putfield 211, 3) := by decide +kernel
theorem dX4_findSand_5 : decode cX4_findSand 5 = .ok (.iconst 0, 1) := by decide +kernel
theorem dX4_findSand_6 : decode cX4_findSand 6 = .ok (.istore 4, 2) := by decide +kernel
theorem dX4_findSand_8 : decode cX4_findSand 8 = .ok (.iload 4, 2) := by decide +kernel
theorem dX4_findSand_10 : decode cX4_findSand 10 = .ok (.sipush 256, 3) := by decide +kernel
theorem dX4_findSand_13 : decode cX4_findSand 13 = .ok (.if_icmp .ge 57, 3) := by decide +kernel
theorem dX4_findSand_16 : decode cX4_findSand 16 = .ok (.aload_n 0, 1) := by decide +kernel
theorem dX4_findSand_17 : decode cX4_findSand 17 = .ok (.getfield 211, 3) := by decide +kernel
theorem dX4_findSand_20 : decode cX4_findSand 20 = .ok (.ifCond .lt 16, 3) := by decide +kernel
theorem dX4_findSand_23 : decode cX4_findSand 23 = .ok (.aload_n 0, 1) := by decide +kernel
theorem dX4_findSand_24 : decode cX4_findSand 24 = .ok (.iload 4, 2) := by decide +kernel
theorem dX4_findSand_26 : decode cX4_findSand 26 = .ok (.invokevirtual 214, 3) := by decide +kernel
theorem dX4_findSand_29 : decode cX4_findSand 29 = .ok (.aload_n 0, 1) := by decide +kernel
theorem dX4_findSand_30 : decode cX4_findSand 30 = .ok (.getfield 217, 3) := by decide +kernel
theorem dX4_findSand_33 : decode cX4_findSand 33 = .ok (.if_icmp .ge 31, 3) := by decide +kernel
theorem dX4_findSand_36 : decode cX4_findSand 36 = .ok (.aload_n 0, 1) := by decide +kernel
theorem dX4_findSand_37 : decode cX4_findSand 37 = .ok (.iload 4, 2) := by decide +kernel
theorem dX4_findSand_39 : decode cX4_findSand 39 = .ok (.iload_n 1, 1) := by decide +kernel
theorem dX4_findSand_40 : decode cX4_findSand 40 = .ok (.iload_n 3, 1) := by decide +kernel
theorem dX4_findSand_41 : decode cX4_findSand 41 = .ok (.invokevirtual 220, 3) := by decide +kernel
theorem dX4_findSand_44 : decode cX4_findSand 44 = .ok (.iload_n 2, 1) := by decide +kernel
theorem dX4_findSand_45 : decode cX4_findSand 45 = .ok (.if_icmp .gt 19, 3) := by decide +kernel
theorem dX4_findSand_48 : decode cX4_findSand 48 = .ok (.aload_n 0, 1) := by decide +kernel
theorem dX4_findSand_49 : decode cX4_findSand 49 = .ok (.iload 4, 2) := by decide +kernel
theorem dX4_findSand_51 : decode cX4_findSand 51 = .ok (.putfield 211, 3) := by decide +kernel
theorem dX4_findSand_54 : decode cX4_findSand 54 = .ok (.aload_n 0, 1) := by decide +kernel
theorem dX4_findSand_55 : decode cX4_findSand 55 = .ok (.aload_n 0, 1) := by decide +kernel
