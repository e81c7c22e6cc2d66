theorem dX7_init_0 : decode cX7_init 0 = .ok (.aload_n 0, 1) := by decide +kernel
theorem dX7_init_1 : decode cX7_init 1 = .ok (.invokespecial 1, 3) := by decide +kernel
theorem dX7_init_4 : decode cX7_init 4 = .ok (.aload_n 0, 1) := by decide +kernel
theorem dX7_init_5 : decode cX7_init 5 = .ok (.bipush 48, 2) := by decide +kernel
theorem dX7_init_7 : decode cX7_init 7 = .ok (.newarray .int, 2) := by decide +kernel
theorem dX7_init_9 : decode cX7_init 9 = .ok (.putfield 9, 3) := by decide +kernel
theorem dX7_init_12 : decode cX7_init 12 = .ok (.aload_n 0, 1) := by decide +kernel
theorem dX7_init_13 : decode cX7_init 13 = .ok (.bipush 24, 2) := by decide +kernel
theorem dX7_init_15 : decode cX7_init 15 = .ok (.newarray .int, 2) := by decide +kernel
theorem dX7_init_17 : decode cX7_init 17 = .ok (.putfield 13, 3) := by decide +kernel
theorem dX7_init_20 : decode cX7_init 20 = .ok (.aload_n 0, 1) := by decide +kernel
theorem dX7_init_21 : decode cX7_init 21 = .ok (.bipush 24, 2) := by decide +kernel
theorem dX7_init_23 : decode cX7_init 23 = .ok (.newarray .int, 2) := by decide +kernel
theorem dX7_init_25 : decode cX7_init 25 = .ok (.putfield 16, 3) := by decide +kernel
theorem dX7_init_28 : decode cX7_init 28 = .ok (.aload_n 0, 1) := by decide +kernel
theorem dX7_init_29 : decode cX7_init 29 = .ok (.bipush 30, 2) := by decide +kernel
theorem dX7_init_31 : decode cX7_init 31 = .ok (.newarray .int, 2) := by decide +kernel
theorem dX7_init_33 : decode cX7_init 33 = .ok (.putfield 19, 3) := by decide +kernel
theorem dX7_init_36 : decode cX7_init 36 = .ok (.aload_n 0, 1) := by decide +kernel
theorem dX7_init_37 : decode cX7_init 37 = .ok (.sipush 240, 3) := by decide +kernel
theorem dX7_init_40 : decode cX7_init 40 = .ok (.newarray .int, 2) := by decide +kernel
theorem dX7_init_42 : decode cX7_init 42 = .ok (.putfield 22, 3) := by decide +kernel
theorem dX7_init_45 : decode cX7_init 45 = .ok (.aload_n 0, 1) := by decide +kernel
theorem dX7_init_46 : decode cX7_init 46 = .ok (.bipush 48, 2) := by decide +kernel
theorem dX7_init_48 : decode cX7_init 48 = .ok (.newarray .int, 2) := by decide +kernel
theorem dX7_init_50 : decode cX7_init 50 = .ok (.putfield 25, 3) := by decide +kernel
theorem dX7_init_53 : decode cX7_init 53 = .ok (.aload_n 0, 1) := by decide +kernel
theorem dX7_init_54 : decode cX7_init 54 = .ok (.bipush 24, 2) := by decide +kernel
theorem dX7_init_56 : decode cX7_init 56 = .ok (.newarray .int, 2) := by decide +kernel
theorem dX7_init_58 : decode cX7_init 58 = .ok (.putfield 28, 3) := by decide +kernel
theorem dX7_init_61 : decode cX7_init 61 = .ok (.aload_n 0, 1) := by decide +kernel
theorem dX7_init_62 : decode cX7_init 62 = .ok (.bipush 24, 2) := by decide +kernel
theorem dX7_init_64 : decode cX7_init 64 = .ok (.newarray .int, 2) := by decide +kernel
theorem dX7_init_66 : decode cX7_init 66 = .ok (.putfield 31, 3) := by decide +kernel
theorem dX7_init_69 : decode cX7_init 69 = .ok (.aload_n 0, 1) := by decide +kernel
theorem dX7_init_70 : decode cX7_init 70 = .ok (.bipush 24, 2) := by decide +kernel
theorem dX7_init_72 : decode cX7_init 72 = .ok (.newarray .int, 2) := by decide +kernel
theorem dX7_init_74 : decode cX7_init 74 = .ok (.putfield 34, 3) := by decide +kernel
theorem dX7_init_77 : decode cX7_init 77 = .ok (.aload_n 0, 1) := by decide +kernel
theorem dX7_init_78 : decode cX7_init 78 = .ok (.bipush 24, 2) := by decide +kernel
theorem dX7_init_80 : decode cX7_init 80 = .ok (.newarray .boolean, 2) := by decide +kernel
theorem dX7_init_82 : decode cX7_init 82 = .ok (.putfield 37, 3) := by decide +kernel
theorem dX7_init_85 : decode cX7_init 85 = .ok (.aload_n 0, 1) := by decide +kernel
theorem dX7_init_86 : decode cX7_init 86 = .ok (.bipush 72, 2) := by decide +kernel
theorem dX7_init_88 : decode cX7_init 88 = .ok (.newarray .int, 2) := by decide +kernel
theorem dX7_init_90 : decode cX7_init 90 = .ok (.putfield 41, 3) := by decide +kernel
theorem dX7_init_93 : decode cX7_init 93 = .ok (.aload_n 0, 1) := by decide +kernel
theorem dX7_init_94 : decode cX7_init 94 = .ok (.bipush 72, 2) := by decide +kernel
theorem dX7_init_96 : decode cX7_init 96 = .ok (.newarray .int, 2) := by decide +kernel
theorem dX7_init_98 : decode cX7_init 98 = .ok (.putfield 44, 3) := by decide +kernel
theorem dX7_init_101 : decode cX7_init 101 = .ok (.aload_n 0, 1) := by decide +kernel
theorem dX7_init_102 : decode cX7_init 102 = .ok (.bipush 12, 2) := by decide +kernel
theorem dX7_init_104 : decode cX7_init 104 = .ok (.newarray .int, 2) := by decide +kernel
theorem dX7_init_106 : decode cX7_init 106 = .ok (.putfield 47, 3) := by decide +kernel
theorem dX7_init_109 : decode cX7_init 109 = .ok (.aload_n 0, 1) := by decide +kernel
theorem dX7_init_110 : decode cX7_init 110 = .ok (.sipush 144, 3) := by decide +kernel
theorem dX7_init_113 : decode cX7_init 113 = .ok (.newarray .int, 2) := by decide +kernel
theorem dX7_init_115 : decode cX7_init 115 = .ok (.putfield 50, 3) := by decide +kernel
theorem dX7_init_118 : decode cX7_init 118 = .ok (.aload_n 0, 1) := by decide +kernel
theorem dX7_init_119 : decode cX7_init 119 = .ok (.sipush 144, 3) := by decide +kernel
theorem dX7_init_122 : decode cX7_init 122 = .ok (.newarray .int, 2) := by decide +kernel
theorem dX7_init_124 : decode cX7_init 124 = .ok (.putfield 53, 3) := by decide +kernel
theorem dX7_init_127 : decode cX7_init 127 = .ok (.aload_n 0, 1) := by decide +kernel
theorem dX7_init_128 : decode cX7_init 128 = .ok (.bipush 36, 2) := by decide +kernel
theorem dX7_init_130 : decode cX7_init 130 = .ok (.newarray .int, 2) := by decide +kernel
theorem dX7_init_132 : decode cX7_init 132 = .ok (.putfield 56, 3) := by decide +kernel
theorem dX7_init_135 : decode cX7_init 135 = .ok (.aload_n 0, 1) := by decide +kernel
theorem dX7_init_136 : decode cX7_init 136 = .ok (.iconst 4, 1) := by decide +kernel
theorem dX7_init_137 : decode cX7_init 137 = .ok (.newarray .int, 2) := by decide +kernel
theorem dX7_init_139 : decode cX7_init 139 = .ok (.putfield 59, 3) := by decide +kernel
theorem dX7_init_142 : decode cX7_init 142 = .ok (.aload_n 0, 1) := by decide +kernel
theorem dX7_init_143 : decode cX7_init 143 = .ok (.iconst 4, 1) := by decide +kernel
theorem dX7_init_144 : decode cX7_init 144 = .ok (.newarray .int, 2) := by decide +kernel
theorem dX7_init_146 : decode cX7_init 146 = .ok (.putfield 62, 3) := by decide +kernel
theorem dX7_init_149 : decode cX7_init 149 = .ok (.aload_n 0, 1) := by decide +kernel
theorem dX7_init_150 : decode cX7_init 150 = .ok (.sipush 160, 3) := by decide +kernel
theorem dX7_init_153 : decode cX7_init 153 = .ok (.newarray .int, 2) := by decide +kernel
theorem dX7_init_155 : decode cX7_init 155 = .ok (.putfield 65, 3) := by decide +kernel
theorem dX7_init_158 : decode cX7_init 158 = .ok (.aload_n 0, 1) := by decide +kernel
theorem dX7_init_159 : decode cX7_init 159 = .ok (.bipush 40, 2) := by decide +kernel
theorem dX7_init_161 : decode cX7_init 161 = .ok (.newarray .int, 2) := by decide +kernel
theorem dX7_init_163 : decode cX7_init 163 = .ok (.putfield 68, 3) := by decide +kernel
theorem dX7_init_166 : decode cX7_init 166 = .ok (.iconst 0, 1) := by decide +kernel
theorem dX7_init_167 : decode cX7_init 167 = .ok (.istore_n 1, 1) := by decide +kernel
theorem dX7_init_168 : decode cX7_init 168 = .ok (.iload_n 1, 1) := by decide +kernel
theorem dX7_init_169 : decode cX7_init 169 = .ok (.iconst 4, 1) := by decide +kernel
theorem dX7_init_170 : decode cX7_init 170 = .ok (.if_icmp .ge 16, 3) := by decide +kernel
theorem dX7_init_173 : decode cX7_init 173 = .ok (.aload_n 0, 1) := by decide +kernel
theorem dX7_init_174 : decode cX7_init 174 = .ok (.getfield 59, 3) := by decide +kernel
theorem dX7_init_177 : decode cX7_init 177 = .ok (.iload_n 1, 1) := by decide +kernel
theorem dX7_init_178 : decode cX7_init 178 = .ok (.iconst (-1), 1) := by decide +kernel
theorem dX7_init_179 : decode cX7_init 179 = .ok (.iastore, 1) := by decide +kernel
theorem dX7_init_180 : decode cX7_init 180 = .ok (.iinc 1 1, 3) := by decide +kernel
theorem dX7_init_183 : decode cX7_init 183 = .ok (.goto (-15), 3) := by decide +kernel
theorem dX7_init_186 : decode cX7_init 186 = .ok (.return_, 1) := by decide +kernel
theorem dX7_isIn_0 : decode cX7_isIn 0 = .ok (.iload_n 0, 1) := by decide +kernel
theorem dX7_isIn_1 : decode cX7_isIn 1 = .ok (.iload_n 1, 1) := by decide +kernel
theorem dX7_isIn_2 : decode cX7_isIn 2 = .ok (.if_icmp .lt 12, 3) := by decide +kernel
theorem dX7_isIn_5 : decode cX7_isIn 5 = .ok (.iload_n 0, 1) := by decide +kernel
theorem dX7_isIn_6 : decode cX7_isIn 6 = .ok (.iload_n 2, 1) := by decide +kernel
theorem dX7_isIn_7 : decode cX7_isIn 7 = .ok (.if_icmp .gt 7, 3) := by decide +kernel
theorem dX7_isIn_10 : decode cX7_isIn 10 = .ok (.iconst 1, 1) := by decide +kernel
theorem dX7_isIn_11 : decode cX7_isIn 11 = .ok (.goto 4, 3) := by decide +kernel
theorem dX7_isIn_14 : decode cX7_isIn 14 = .ok (.iconst 0, 1) := by decide +kernel
theorem dX7_isIn_15 : decode cX7_isIn 15 = .ok (.ireturn, 1) := by decide +kernel
theorem dX7_isPin_0 : decode cX7_isPin 0 = .ok (.iload_n 1, 1) := by decide +kernel
theorem dX7_isPin_1 : decode cX7_isPin 1 = .ok (.iconst 0, 1) := by decide +kernel
theorem dX7_isPin_2 : decode cX7_isPin 2 = .ok (.aload_n 0, 1) := by decide +kernel
theorem dX7_isPin_3 : decode cX7_isPin 3 = .ok (.getfield 71, 3) := by decide +kernel
theorem dX7_isPin_6 : decode cX7_isPin 6 = .ok (.iconst 1, 1) := by decide +kernel
theorem dX7_isPin_7 : decode cX7_isPin 7 = .ok (.isub, 1) := by decide +kernel
theorem dX7_isPin_8 : decode cX7_isPin 8 = .ok (.invokestatic 75, 3) := by decide +kernel
theorem dX7_isPin_11 : decode cX7_isPin 11 = .ok (.ireturn, 1) := by decide +kernel
theorem dX7_areTwo_0 : decode cX7_areTwo 0 = .ok (.aload_n 0, 1) := by decide +kernel
theorem dX7_areTwo_1 : decode cX7_areTwo 1 = .ok (.iload_n 1, 1) := by decide +kernel
theorem dX7_areTwo_2 : decode cX7_areTwo 2 = .ok (.invokevirtual 79, 3) := by decide +kernel
theorem dX7_areTwo_5 : decode cX7_areTwo 5 = .ok (.ifCond .eq 20, 3) := by decide +kernel
theorem dX7_areTwo_8 : decode cX7_areTwo 8 = .ok (.aload_n 0, 1) := by decide +kernel
theorem dX7_areTwo_9 : decode cX7_areTwo 9 = .ok (.iload_n 2, 1) := by decide +kernel
theorem dX7_areTwo_10 : decode cX7_areTwo 10 = .ok (.invokevirtual 79, 3) := by decide +kernel
theorem dX7_areTwo_13 : decode cX7_areTwo 13 = .ok (.ifCond .eq 12, 3) := by decide +kernel
theorem dX7_areTwo_16 : decode cX7_areTwo 16 = .ok (.iload_n 1, 1) := by decide +kernel
theorem dX7_areTwo_17 : decode cX7_areTwo 17 = .ok (.iload_n 2, 1) := by decide +kernel
theorem dX7_areTwo_18 : decode cX7_areTwo 18 = .ok (.if_icmp .eq 7, 3) := by decide +kernel
theorem dX7_areTwo_21 : decode cX7_areTwo 21 = .ok (.iconst 1, 1) := by decide +kernel
theorem dX7_areTwo_22 : decode cX7_areTwo 22 = .ok (.goto 4, 3) := by decide +kernel
theorem dX7_areTwo_25 : decode cX7_areTwo 25 = .ok (.iconst 0, 1) := by decide +kernel
theorem dX7_areTwo_26 : decode cX7_areTwo 26 = .ok (.ireturn, 1) := by decide +kernel
theorem dX7_bits_0 : decode cX7_bits 0 = .ok (.iconst 0, 1) := by decide +kernel
theorem dX7_bits_1 : decode cX7_bits 1 = .ok (.istore_n 1, 1) := by decide +kernel
theorem dX7_bits_2 : decode cX7_bits 2 = .ok (.iload_n 0, 1) := by decide +kernel
theorem dX7_bits_3 : decode cX7_bits 3 = .ok (.istore_n 2, 1) := by decide +kernel
theorem dX7_bits_4 : decode cX7_bits 4 = .ok (.iload_n 2, 1) := by decide +kernel
theorem dX7_bits_5 : decode cX7_bits 5 = .ok (.ifCond .eq 15, 3) := by decide +kernel
theorem dX7_bits_8 : decode cX7_bits 8 = .ok (.iinc 1 1, 3) := by decide +kernel
theorem dX7_bits_11 : decode cX7_bits 11 = .ok (.iload_n 2, 1) := by decide +kernel
theorem dX7_bits_12 : decode cX7_bits 12 = .ok (.iload_n 2, 1) := by decide +kernel
theorem dX7_bits_13 : decode cX7_bits 13 = .ok (.iconst 1, 1) := by decide +kernel
theorem dX7_bits_14 : decode cX7_bits 14 = .ok (.isub, 1) := by decide +kernel
theorem dX7_bits_15 : decode cX7_bits 15 = .ok (.iand, 1) := by decide +kernel
theorem dX7_bits_16 : decode cX7_bits 16 = .ok (.istore_n 2, 1) := by decide +kernel
theorem dX7_bits_17 : decode cX7_bits 17 = .ok (.goto (-13), 3) := by decide +kernel
theorem dX7_bits_20 : decode cX7_bits 20 = .ok (.iload_n 1, 1) := by decide +kernel
theorem dX7_bits_21 : decode cX7_bits 21 = .ok (.ireturn, 1) := by decide +kernel
theorem dX7_empties_0 : decode cX7_empties 0 = .ok (.iconst 0, 1) := by decide +kernel
theorem dX7_empties_1 : decode cX7_empties 1 = .ok (.istore_n 1, 1) := by decide +kernel
theorem dX7_empties_2 : decode cX7_empties 2 = .ok (.iload_n 1, 1) := by decide +kernel
theorem dX7_empties_3 : decode cX7_empties 3 = .ok (.bipush 24, 2) := by decide +kernel
theorem dX7_empties_5 : decode cX7_empties 5 = .ok (.if_icmp .ge 16, 3) := by decide +kernel
theorem dX7_empties_8 : decode cX7_empties 8 = .ok (.aload_n 0, 1) := by decide +kernel
theorem dX7_empties_9 : decode cX7_empties 9 = .ok (.getfield 34, 3) := by decide +kernel
theorem dX7_empties_12 : decode cX7_empties 12 = .ok (.iload_n 1, 1) := by decide +kernel
theorem dX7_empties_13 : decode cX7_empties 13 = .ok (.iconst (-1), 1) := by decide +kernel
theorem dX7_empties_14 : decode cX7_empties 14 = .ok (.iastore, 1) := by decide +kernel
theorem dX7_empties_15 : decode cX7_empties 15 = .ok (.iinc 1 1, 3) := by decide +kernel
theorem dX7_empties_18 : decode cX7_empties 18 = .ok (.goto (-16), 3) := by decide +kernel
theorem dX7_empties_21 : decode cX7_empties 21 = .ok (.aload_n 0, 1) := by decide +kernel
theorem dX7_empties_22 : decode cX7_empties 22 = .ok (.iconst 0, 1) := by decide +kernel
theorem dX7_empties_23 : decode cX7_empties 23 = .ok (.putfield 83, 3) := by decide +kernel
theorem dX7_empties_26 : decode cX7_empties 26 = .ok (.return_, 1) := by decide +kernel
theorem dX7_freeAt_0 : decode cX7_freeAt 0 = .ok (.aload_n 0, 1) := by decide +kernel
theorem dX7_freeAt_1 : decode cX7_freeAt 1 = .ok (.getfield 34, 3) := by decide +kernel
theorem dX7_freeAt_4 : decode cX7_freeAt 4 = .ok (.iconst 2, 1) := by decide +kernel
theorem dX7_freeAt_5 : decode cX7_freeAt 5 = .ok (.iload_n 1, 1) := by decide +kernel
theorem dX7_freeAt_6 : decode cX7_freeAt 6 = .ok (.imul, 1) := by decide +kernel
theorem dX7_freeAt_7 : decode cX7_freeAt 7 = .ok (.iaload, 1) := by decide +kernel
theorem dX7_freeAt_8 : decode cX7_freeAt 8 = .ok (.iconst (-1), 1) := by decide +kernel
theorem dX7_freeAt_9 : decode cX7_freeAt 9 = .ok (.if_icmp .ne 9, 3) := by decide +kernel
theorem dX7_freeAt_12 : decode cX7_freeAt 12 = .ok (.iconst 2, 1) := by decide +kernel
theorem dX7_freeAt_13 : decode cX7_freeAt 13 = .ok (.iload_n 1, 1) := by decide +kernel
theorem dX7_freeAt_14 : decode cX7_freeAt 14 = .ok (.imul, 1) := by decide +kernel
theorem dX7_freeAt_15 : decode cX7_freeAt 15 = .ok (.goto 26, 3) := by decide +kernel
theorem dX7_freeAt_18 : decode cX7_freeAt 18 = .ok (.aload_n 0, 1) := by decide +kernel
theorem dX7_freeAt_19 : decode cX7_freeAt 19 = .ok (.getfield 34, 3) := by decide +kernel
theorem dX7_freeAt_22 : decode cX7_freeAt 22 = .ok (.iconst 2, 1) := by decide +kernel
theorem dX7_freeAt_23 : decode cX7_freeAt 23 = .ok (.iload_n 1, 1) := by decide +kernel
theorem dX7_freeAt_24 : decode cX7_freeAt 24 = .ok (.imul, 1) := by decide +kernel
theorem dX7_freeAt_25 : decode cX7_freeAt 25 = .ok (.iconst 1, 1) := by decide +kernel
theorem dX7_freeAt_26 : decode cX7_freeAt 26 = .ok (.iadd, 1) := by decide +kernel
theorem dX7_freeAt_27 : decode cX7_freeAt 27 = .ok (.iaload, 1) := by decide +kernel
theorem dX7_freeAt_28 : decode cX7_freeAt 28 = .ok (.iconst (-1), 1) := by decide +kernel
theorem dX7_freeAt_29 : decode cX7_freeAt 29 = .ok (.if_icmp .ne 11, 3) := by decide +kernel
theorem dX7_freeAt_32 : decode cX7_freeAt 32 = .ok (.iconst 2, 1) := by decide +kernel
theorem dX7_freeAt_33 : decode cX7_freeAt 33 = .ok (.iload_n 1, 1) := by decide +kernel
theorem dX7_freeAt_34 : decode cX7_freeAt 34 = .ok (.imul, 1) := by decide +kernel
theorem dX7_freeAt_35 : decode cX7_freeAt 35 = .ok (.iconst 1, 1) := by decide +kernel
theorem dX7_freeAt_36 : decode cX7_freeAt 36 = .ok (.iadd, 1) := by decide +kernel
theorem dX7_freeAt_37 : decode cX7_freeAt 37 = .ok (.goto 4, 3) := by decide +kernel
theorem dX7_freeAt_40 : decode cX7_freeAt 40 = .ok (.iconst (-1), 1) := by decide +kernel
theorem dX7_freeAt_41 : decode cX7_freeAt 41 = .ok (.ireturn, 1) := by decide +kernel
theorem dX7_hasBoth_0 : decode cX7_hasBoth 0 = .ok (.aload_n 0, 1) := by decide +kernel
theorem dX7_hasBoth_1 : decode cX7_hasBoth 1 = .ok (.getfield 34, 3) := by decide +kernel
theorem dX7_hasBoth_4 : decode cX7_hasBoth 4 = .ok (.iconst 2, 1) := by decide +kernel
theorem dX7_hasBoth_5 : decode cX7_hasBoth 5 = .ok (.iload_n 1, 1) := by decide +kernel
theorem dX7_hasBoth_6 : decode cX7_hasBoth 6 = .ok (.imul, 1) := by decide +kernel
theorem dX7_hasBoth_7 : decode cX7_hasBoth 7 = .ok (.iaload, 1) := by decide +kernel
theorem dX7_hasBoth_8 : decode cX7_hasBoth 8 = .ok (.iconst (-1), 1) := by decide +kernel
theorem dX7_hasBoth_9 : decode cX7_hasBoth 9 = .ok (.if_icmp .ne 21, 3) := by decide +kernel
theorem dX7_hasBoth_12 : decode cX7_hasBoth 12 = .ok (.aload_n 0, 1) := by decide +kernel
theorem dX7_hasBoth_13 : decode cX7_hasBoth 13 = .ok (.getfield 34, 3) := by decide +kernel
theorem dX7_hasBoth_16 : decode cX7_hasBoth 16 = .ok (.iconst 2, 1) := by decide +kernel
theorem dX7_hasBoth_17 : decode cX7_hasBoth 17 = .ok (.iload_n 1, 1) := by decide +kernel
theorem dX7_hasBoth_18 : decode cX7_hasBoth 18 = .ok (.imul, 1) := by decide +kernel
theorem dX7_hasBoth_19 : decode cX7_hasBoth 19 = .ok (.iconst 1, 1) := by decide +kernel
theorem dX7_hasBoth_20 : decode cX7_hasBoth 20 = .ok (.iadd, 1) := by decide +kernel
theorem dX7_hasBoth_21 : decode cX7_hasBoth 21 = .ok (.iaload, 1) := by decide +kernel
theorem dX7_hasBoth_22 : decode cX7_hasBoth 22 = .ok (.iconst (-1), 1) := by decide +kernel
theorem dX7_hasBoth_23 : decode cX7_hasBoth 23 = .ok (.if_icmp .ne 7, 3) := by decide +kernel
theorem dX7_hasBoth_26 : decode cX7_hasBoth 26 = .ok (.iconst 1, 1) := by decide +kernel
theorem dX7_hasBoth_27 : decode cX7_hasBoth 27 = .ok (.goto 4, 3) := by decide +kernel
theorem dX7_hasBoth_30 : decode cX7_hasBoth 30 = .ok (.iconst 0, 1) := by decide +kernel
theorem dX7_hasBoth_31 : decode cX7_hasBoth 31 = .ok (.ireturn, 1) := by decide +kernel
theorem dX7_frees_0 : decode cX7_frees 0 = .ok (.aload_n 0, 1) := by decide +kernel
theorem dX7_frees_1 : decode cX7_frees 1 = .ok (.dup, 1) := by decide +kernel
theorem dX7_frees_2 : decode cX7_frees 2 = .ok (.getfield 86, 3) := by decide +kernel
theorem dX7_frees_5 : decode cX7_frees 5 = .ok (.iconst 1, 1) := by decide +kernel
theorem dX7_frees_6 : decode cX7_frees 6 = .ok (.iload_n 1, 1) := by decide +kernel
theorem dX7_frees_7 : decode cX7_frees 7 = .ok (.ishl, 1) := by decide +kernel
theorem dX7_frees_8 : decode cX7_frees 8 = .ok (.ior, 1) := by decide +kernel
theorem dX7_frees_9 : decode cX7_frees 9 = .ok (.putfield 86, 3) := by decide +kernel
theorem dX7_frees_12 : decode cX7_frees 12 = .ok (.iconst 2, 1) := by decide +kernel
theorem dX7_frees_13 : decode cX7_frees 13 = .ok (.iload_n 1, 1) := by decide +kernel
theorem dX7_frees_14 : decode cX7_frees 14 = .ok (.imul, 1) := by decide +kernel
theorem dX7_frees_15 : decode cX7_frees 15 = .ok (.istore_n 2, 1) := by decide +kernel
theorem dX7_frees_16 : decode cX7_frees 16 = .ok (.iload_n 2, 1) := by decide +kernel
theorem dX7_frees_17 : decode cX7_frees 17 = .ok (.iconst 2, 1) := by decide +kernel
theorem dX7_frees_18 : decode cX7_frees 18 = .ok (.iload_n 1, 1) := by decide +kernel
theorem dX7_frees_19 : decode cX7_frees 19 = .ok (.imul, 1) := by decide +kernel
theorem dX7_frees_20 : decode cX7_frees 20 = .ok (.iconst 2, 1) := by decide +kernel
theorem dX7_frees_21 : decode cX7_frees 21 = .ok (.iadd, 1) := by decide +kernel
theorem dX7_frees_22 : decode cX7_frees 22 = .ok (.if_icmp .ge 75, 3) := by decide +kernel
theorem dX7_frees_25 : decode cX7_frees 25 = .ok (.aload_n 0, 1) := by decide +kernel
theorem dX7_frees_26 : decode cX7_frees 26 = .ok (.getfield 34, 3) := by decide +kernel
theorem dX7_frees_29 : decode cX7_frees 29 = .ok (.iload_n 2, 1) := by decide +kernel
theorem dX7_frees_30 : decode cX7_frees 30 = .ok (.iaload, 1) := by decide +kernel
theorem dX7_frees_31 : decode cX7_frees 31 = .ok (.istore_n 3, 1) := by decide +kernel
theorem dX7_frees_32 : decode cX7_frees 32 = .ok (.iload_n 3, 1) := by decide +kernel
theorem dX7_frees_33 : decode cX7_frees 33 = .ok (.iconst (-1), 1) := by decide +kernel
theorem dX7_frees_34 : decode cX7_frees 34 = .ok (.if_icmp .eq 57, 3) := by decide +kernel
theorem dX7_frees_37 : decode cX7_frees 37 = .ok (.aload_n 0, 1) := by decide +kernel
theorem dX7_frees_38 : decode cX7_frees 38 = .ok (.getfield 86, 3) := by decide +kernel
theorem dX7_frees_41 : decode cX7_frees 41 = .ok (.iload_n 3, 1) := by decide +kernel
theorem dX7_frees_42 : decode cX7_frees 42 = .ok (.ishr, 1) := by decide +kernel
theorem dX7_frees_43 : decode cX7_frees 43 = .ok (.iconst 1, 1) := by decide +kernel
theorem dX7_frees_44 : decode cX7_frees 44 = .ok (.iand, 1) := by decide +kernel
theorem dX7_frees_45 : decode cX7_frees 45 = .ok (.iconst 1, 1) := by decide +kernel
theorem dX7_frees_46 : decode cX7_frees 46 = .ok (.if_icmp .ne 6, 3) := by decide +kernel
theorem dX7_frees_49 : decode cX7_frees 49 = .ok (.goto 42, 3) := by decide +kernel
theorem dX7_frees_52 : decode cX7_frees 52 = .ok (.aload_n 0, 1) := by decide +kernel
theorem dX7_frees_53 : decode cX7_frees 53 = .ok (.iload_n 3, 1) := by decide +kernel
theorem dX7_frees_54 : decode cX7_frees 54 = .ok (.invokevirtual 89, 3) := by decide +kernel
theorem dX7_frees_57 : decode cX7_frees 57 = .ok (.ifCond .ge 14, 3) := by decide +kernel
theorem dX7_frees_60 : decode cX7_frees 60 = .ok (.aload_n 0, 1) := by decide +kernel
theorem dX7_frees_61 : decode cX7_frees 61 = .ok (.iload_n 3, 1) := by decide +kernel
theorem dX7_frees_62 : decode cX7_frees 62 = .ok (.invokevirtual 93, 3) := by decide +kernel
theorem dX7_frees_65 : decode cX7_frees 65 = .ok (.ifCond .ne 6, 3) := by decide +kernel
theorem dX7_frees_68 : decode cX7_frees 68 = .ok (.goto 23, 3) := by decide +kernel
theorem dX7_frees_71 : decode cX7_frees 71 = .ok (.aload_n 0, 1) := by decide +kernel
theorem dX7_frees_72 : decode cX7_frees 72 = .ok (.getfield 34, 3) := by decide +kernel
theorem dX7_frees_75 : decode cX7_frees 75 = .ok (.aload_n 0, 1) := by decide +kernel
theorem dX7_frees_76 : decode cX7_frees 76 = .ok (.iload_n 3, 1) := by decide +kernel
theorem dX7_frees_77 : decode cX7_frees 77 = .ok (.invokevirtual 89, 3) := by decide +kernel
theorem dX7_frees_80 : decode cX7_frees 80 = .ok (.iload_n 1, 1) := by decide +kernel
theorem dX7_frees_81 : decode cX7_frees 81 = .ok (.iastore, 1) := by decide +kernel
theorem dX7_frees_82 : decode cX7_frees 82 = .ok (.aload_n 0, 1) := by decide +kernel
theorem dX7_frees_83 : decode cX7_frees 83 = .ok (.getfield 34, 3) := by decide +kernel
theorem dX7_frees_86 : decode cX7_frees 86 = .ok (.iload_n 2, 1) := by decide +kernel
theorem dX7_frees_87 : decode cX7_frees 87 = .ok (.iconst (-1), 1) := by decide +kernel
theorem dX7_frees_88 : decode cX7_frees 88 = .ok (.iastore, 1) := by decide +kernel
theorem dX7_frees_89 : decode cX7_frees 89 = .ok (.iconst 1, 1) := by decide +kernel
theorem dX7_frees_90 : decode cX7_frees 90 = .ok (.ireturn, 1) := by decide +kernel
theorem dX7_frees_91 : decode cX7_frees 91 = .ok (.iinc 2 1, 3) := by decide +kernel
theorem dX7_frees_94 : decode cX7_frees 94 = .ok (.goto (-78), 3) := by decide +kernel
theorem dX7_frees_97 : decode cX7_frees 97 = .ok (.iconst 0, 1) := by decide +kernel
theorem dX7_frees_98 : decode cX7_frees 98 = .ok (.ireturn, 1) := by decide +kernel
theorem dX7_brings_0 : decode cX7_brings 0 = .ok (.aload_n 0, 1) := by decide +kernel
theorem dX7_brings_1 : decode cX7_brings 1 = .ok (.iload_n 1, 1) := by decide +kernel
theorem dX7_brings_2 : decode cX7_brings 2 = .ok (.invokevirtual 96, 3) := by decide +kernel
theorem dX7_brings_5 : decode cX7_brings 5 = .ok (.ifCond .ne 18, 3) := by decide +kernel
theorem dX7_brings_8 : decode cX7_brings 8 = .ok (.aload_n 0, 1) := by decide +kernel
theorem dX7_brings_9 : decode cX7_brings 9 = .ok (.iconst 0, 1) := by decide +kernel
theorem dX7_brings_10 : decode cX7_brings 10 = .ok (.putfield 86, 3) := by decide +kernel
theorem dX7_brings_13 : decode cX7_brings 13 = .ok (.aload_n 0, 1) := by decide +kernel
theorem dX7_brings_14 : decode cX7_brings 14 = .ok (.iload_n 1, 1) := by decide +kernel
theorem dX7_brings_15 : decode cX7_brings 15 = .ok (.invokevirtual 93, 3) := by decide +kernel
theorem dX7_brings_18 : decode cX7_brings 18 = .ok (.ifCond .ne (-18), 3) := by decide +kernel
theorem dX7_brings_21 : decode cX7_brings 21 = .ok (.iconst 0, 1) := by decide +kernel
theorem dX7_brings_22 : decode cX7_brings 22 = .ok (.ireturn, 1) := by decide +kernel
theorem dX7_brings_23 : decode cX7_brings 23 = .ok (.aload_n 0, 1) := by decide +kernel
theorem dX7_brings_24 : decode cX7_brings 24 = .ok (.iload_n 2, 1) := by decide +kernel
theorem dX7_brings_25 : decode cX7_brings 25 = .ok (.invokevirtual 96, 3) := by decide +kernel
theorem dX7_brings_28 : decode cX7_brings 28 = .ok (.ifCond .ne 20, 3) := by decide +kernel
theorem dX7_brings_31 : decode cX7_brings 31 = .ok (.aload_n 0, 1) := by decide +kernel
theorem dX7_brings_32 : decode cX7_brings 32 = .ok (.iconst 1, 1) := by decide +kernel
theorem dX7_brings_33 : decode cX7_brings 33 = .ok (.iload_n 1, 1) := by decide +kernel
theorem dX7_brings_34 : decode cX7_brings 34 = .ok (.ishl, 1) := by decide +kernel
theorem dX7_brings_35 : decode cX7_brings 35 = .ok (.putfield 86, 3) := by decide +kernel
theorem dX7_brings_38 : decode cX7_brings 38 = .ok (.aload_n 0, 1) := by decide +kernel
theorem dX7_brings_39 : decode cX7_brings 39 = .ok (.iload_n 2, 1) := by decide +kernel
theorem dX7_brings_40 : decode cX7_brings 40 = .ok (.invokevirtual 93, 3) := by decide +kernel
theorem dX7_brings_43 : decode cX7_brings 43 = .ok (.ifCond .ne (-20), 3) := by decide +kernel
theorem dX7_brings_46 : decode cX7_brings 46 = .ok (.iconst 0, 1) := by decide +kernel
theorem dX7_brings_47 : decode cX7_brings 47 = .ok (.ireturn, 1) := by decide +kernel
theorem dX7_brings_48 : decode cX7_brings 48 = .ok (.iconst 1, 1) := by decide +kernel
theorem dX7_brings_49 : decode cX7_brings 49 = .ok (.ireturn, 1) := by decide +kernel
theorem dX7_comes_0 : decode cX7_comes 0 = .ok (.aload_n 0, 1) := by decide +kernel
theorem dX7_comes_1 : decode cX7_comes 1 = .ok (.iload_n 1, 1) := by decide +kernel
theorem dX7_comes_2 : decode cX7_comes 2 = .ok (.iload_n 2, 1) := by decide +kernel
theorem dX7_comes_3 : decode cX7_comes 3 = .ok (.invokevirtual 99, 3) := by decide +kernel
theorem dX7_comes_6 : decode cX7_comes 6 = .ok (.ifCond .ne 5, 3) := by decide +kernel
theorem dX7_comes_9 : decode cX7_comes 9 = .ok (.iconst 0, 1) := by decide +kernel
theorem dX7_comes_10 : decode cX7_comes 10 = .ok (.ireturn, 1) := by decide +kernel
theorem dX7_comes_11 : decode cX7_comes 11 = .ok (.aload_n 0, 1) := by decide +kernel
theorem dX7_comes_12 : decode cX7_comes 12 = .ok (.getfield 34, 3) := by decide +kernel
theorem dX7_comes_15 : decode cX7_comes 15 = .ok (.iconst 2, 1) := by decide +kernel
theorem dX7_comes_16 : decode cX7_comes 16 = .ok (.iload_n 1, 1) := by decide +kernel
theorem dX7_comes_17 : decode cX7_comes 17 = .ok (.imul, 1) := by decide +kernel
theorem dX7_comes_18 : decode cX7_comes 18 = .ok (.iload_n 2, 1) := by decide +kernel
theorem dX7_comes_19 : decode cX7_comes 19 = .ok (.iastore, 1) := by decide +kernel
theorem dX7_comes_20 : decode cX7_comes 20 = .ok (.aload_n 0, 1) := by decide +kernel
theorem dX7_comes_21 : decode cX7_comes 21 = .ok (.dup, 1) := by decide +kernel
theorem dX7_comes_22 : decode cX7_comes 22 = .ok (.getfield 83, 3) := by decide +kernel
theorem dX7_comes_25 : decode cX7_comes 25 = .ok (.iconst 1, 1) := by decide +kernel
theorem dX7_comes_26 : decode cX7_comes 26 = .ok (.iadd, 1) := by decide +kernel
theorem dX7_comes_27 : decode cX7_comes 27 = .ok (.putfield 83, 3) := by decide +kernel
theorem dX7_comes_30 : decode cX7_comes 30 = .ok (.iconst 1, 1) := by decide +kernel
theorem dX7_comes_31 : decode cX7_comes 31 = .ok (.ireturn, 1) := by decide +kernel
theorem dX7_carriesAll_0 : decode cX7_carriesAll 0 = .ok (.aload_n 0, 1) := by decide +kernel
theorem dX7_carriesAll_1 : decode cX7_carriesAll 1 = .ok (.invokevirtual 103, 3) := by decide +kernel
theorem dX7_carriesAll_4 : decode cX7_carriesAll 4 = .ok (.iconst 0, 1) := by decide +kernel
theorem dX7_carriesAll_5 : decode cX7_carriesAll 5 = .ok (.istore_n 1, 1) := by decide +kernel
theorem dX7_carriesAll_6 : decode cX7_carriesAll 6 = .ok (.iload_n 1, 1) := by decide +kernel
theorem dX7_carriesAll_7 : decode cX7_carriesAll 7 = .ok (.aload_n 0, 1) := by decide +kernel
theorem dX7_carriesAll_8 : decode cX7_carriesAll 8 = .ok (.getfield 106, 3) := by decide +kernel
theorem dX7_carriesAll_11 : decode cX7_carriesAll 11 = .ok (.if_icmp .ge 31, 3) := by decide +kernel
theorem dX7_carriesAll_14 : decode cX7_carriesAll 14 = .ok (.aload_n 0, 1) := by decide +kernel
theorem dX7_carriesAll_15 : decode cX7_carriesAll 15 = .ok (.getfield 37, 3) := by decide +kernel
theorem dX7_carriesAll_18 : decode cX7_carriesAll 18 = .ok (.iload_n 1, 1) := by decide +kernel
theorem dX7_carriesAll_19 : decode cX7_carriesAll 19 = .ok (.aload_n 0, 1) := by decide +kernel
theorem dX7_carriesAll_20 : decode cX7_carriesAll 20 = .ok (.aload_n 0, 1) := by decide +kernel
theorem dX7_carriesAll_21 : decode cX7_carriesAll 21 = .ok (.getfield 13, 3) := by decide +kernel
theorem dX7_carriesAll_24 : decode cX7_carriesAll 24 = .ok (.iload_n 1, 1) := by decide +kernel
theorem dX7_carriesAll_25 : decode cX7_carriesAll 25 = .ok (.iaload, 1) := by decide +kernel
theorem dX7_carriesAll_26 : decode cX7_carriesAll 26 = .ok (.aload_n 0, 1) := by decide +kernel
theorem dX7_carriesAll_27 : decode cX7_carriesAll 27 = .ok (.getfield 16, 3) := by decide +kernel
theorem dX7_carriesAll_30 : decode cX7_carriesAll 30 = .ok (.iload_n 1, 1) := by decide +kernel
theorem dX7_carriesAll_31 : decode cX7_carriesAll 31 = .ok (.iaload, 1) := by decide +kernel
theorem dX7_carriesAll_32 : decode cX7_carriesAll 32 = .ok (.invokevirtual 109, 3) := by decide +kernel
theorem dX7_carriesAll_35 : decode cX7_carriesAll 35 = .ok (.bastore, 1) := by decide +kernel
theorem dX7_carriesAll_36 : decode cX7_carriesAll 36 = .ok (.iinc 1 1, 3) := by decide +kernel
theorem dX7_carriesAll_39 : decode cX7_carriesAll 39 = .ok (.goto (-33), 3) := by decide +kernel
theorem dX7_carriesAll_42 : decode cX7_carriesAll 42 = .ok (.return_, 1) := by decide +kernel
theorem dX7_rankWithout_0 : decode cX7_rankWithout 0 = .ok (.aload_n 0, 1) := by decide +kernel
theorem dX7_rankWithout_1 : decode cX7_rankWithout 1 = .ok (.invokevirtual 103, 3) := by decide +kernel
theorem dX7_rankWithout_4 : decode cX7_rankWithout 4 = .ok (.iconst 0, 1) := by decide +kernel
theorem dX7_rankWithout_5 : decode cX7_rankWithout 5 = .ok (.istore_n 2, 1) := by decide +kernel
theorem dX7_rankWithout_6 : decode cX7_rankWithout 6 = .ok (.iload_n 2, 1) := by decide +kernel
theorem dX7_rankWithout_7 : decode cX7_rankWithout 7 = .ok (.aload_n 0, 1) := by decide +kernel
theorem dX7_rankWithout_8 : decode cX7_rankWithout 8 = .ok (.getfield 106, 3) := by decide +kernel
theorem dX7_rankWithout_11 : decode cX7_rankWithout 11 = .ok (.if_icmp .ge 31, 3) := by decide +kernel
theorem dX7_rankWithout_14 : decode cX7_rankWithout 14 = .ok (.iload_n 2, 1) := by decide +kernel
theorem dX7_rankWithout_15 : decode cX7_rankWithout 15 = .ok (.iload_n 1, 1) := by decide +kernel
theorem dX7_rankWithout_16 : decode cX7_rankWithout 16 = .ok (.if_icmp .eq 20, 3) := by decide +kernel
theorem dX7_rankWithout_19 : decode cX7_rankWithout 19 = .ok (.aload_n 0, 1) := by decide +kernel
theorem dX7_rankWithout_20 : decode cX7_rankWithout 20 = .ok (.aload_n 0, 1) := by decide +kernel
theorem dX7_rankWithout_21 : decode cX7_rankWithout 21 = .ok (.getfield 13, 3) := by decide +kernel
theorem dX7_rankWithout_24 : decode cX7_rankWithout 24 = .ok (.iload_n 2, 1) := by decide +kernel
theorem dX7_rankWithout_25 : decode cX7_rankWithout 25 = .ok (.iaload, 1) := by decide +kernel
theorem dX7_rankWithout_26 : decode cX7_rankWithout 26 = .ok (.aload_n 0, 1) := by decide +kernel
theorem dX7_rankWithout_27 : decode cX7_rankWithout 27 = .ok (.getfield 16, 3) := by decide +kernel
theorem dX7_rankWithout_30 : decode cX7_rankWithout 30 = .ok (.iload_n 2, 1) := by decide +kernel
theorem dX7_rankWithout_31 : decode cX7_rankWithout 31 = .ok (.iaload, 1) := by decide +kernel
theorem dX7_rankWithout_32 : decode cX7_rankWithout 32 = .ok (.invokevirtual 109, 3) := by decide +kernel
theorem dX7_rankWithout_35 : decode cX7_rankWithout 35 = .ok (.pop, 1) := by decide +kernel
theorem dX7_rankWithout_36 : decode cX7_rankWithout 36 = .ok (.iinc 2 1, 3) := by decide +kernel
theorem dX7_rankWithout_39 : decode cX7_rankWithout 39 = .ok (.goto (-33), 3) := by decide +kernel
theorem dX7_rankWithout_42 : decode cX7_rankWithout 42 = .ok (.aload_n 0, 1) := by decide +kernel
theorem dX7_rankWithout_43 : decode cX7_rankWithout 43 = .ok (.getfield 83, 3) := by decide +kernel
theorem dX7_rankWithout_46 : decode cX7_rankWithout 46 = .ok (.ireturn, 1) := by decide +kernel
theorem dX7_rank_0 : decode cX7_rank 0 = .ok (.aload_n 0, 1) := by decide +kernel
theorem dX7_rank_1 : decode cX7_rank 1 = .ok (.iconst (-1), 1) := by decide +kernel
theorem dX7_rank_2 : decode cX7_rank 2 = .ok (.invokevirtual 112, 3) := by decide +kernel
theorem dX7_rank_5 : decode cX7_rank 5 = .ok (.ireturn, 1) := by decide +kernel
theorem dX7_isStiff_0 : decode cX7_isStiff 0 = .ok (.aload_n 0, 1) := by decide +kernel
theorem dX7_isStiff_1 : decode cX7_isStiff 1 = .ok (.getfield 71, 3) := by decide +kernel
theorem dX7_isStiff_4 : decode cX7_isStiff 4 = .ok (.iconst 2, 1) := by decide +kernel
theorem dX7_isStiff_5 : decode cX7_isStiff 5 = .ok (.if_icmp .lt 22, 3) := by decide +kernel
theorem dX7_isStiff_8 : decode cX7_isStiff 8 = .ok (.aload_n 0, 1) := by decide +kernel
theorem dX7_isStiff_9 : decode cX7_isStiff 9 = .ok (.invokevirtual 115, 3) := by decide +kernel
theorem dX7_isStiff_12 : decode cX7_isStiff 12 = .ok (.iconst 2, 1) := by decide +kernel
theorem dX7_isStiff_13 : decode cX7_isStiff 13 = .ok (.aload_n 0, 1) := by decide +kernel
theorem dX7_isStiff_14 : decode cX7_isStiff 14 = .ok (.getfield 71, 3) := by decide +kernel
theorem dX7_isStiff_17 : decode cX7_isStiff 17 = .ok (.imul, 1) := by decide +kernel
theorem dX7_isStiff_18 : decode cX7_isStiff 18 = .ok (.iconst 3, 1) := by decide +kernel
theorem dX7_isStiff_19 : decode cX7_isStiff 19 = .ok (.isub, 1) := by decide +kernel
theorem dX7_isStiff_20 : decode cX7_isStiff 20 = .ok (.if_icmp .ne 7, 3) := by decide +kernel
theorem dX7_isStiff_23 : decode cX7_isStiff 23 = .ok (.iconst 1, 1) := by decide +kernel
theorem dX7_isStiff_24 : decode cX7_isStiff 24 = .ok (.goto 4, 3) := by decide +kernel
theorem dX7_isStiff_27 : decode cX7_isStiff 27 = .ok (.iconst 0, 1) := by decide +kernel
theorem dX7_isStiff_28 : decode cX7_isStiff 28 = .ok (.ireturn, 1) := by decide +kernel
theorem dX7_placeOf_0 : decode cX7_placeOf 0 = .ok (.iconst 0, 1) := by decide +kernel
theorem dX7_placeOf_1 : decode cX7_placeOf 1 = .ok (.istore_n 3, 1) := by decide +kernel
theorem dX7_placeOf_2 : decode cX7_placeOf 2 = .ok (.iload_n 3, 1) := by decide +kernel
theorem dX7_placeOf_3 : decode cX7_placeOf 3 = .ok (.aload_n 0, 1) := by decide +kernel
theorem dX7_placeOf_4 : decode cX7_placeOf 4 = .ok (.getfield 106, 3) := by decide +kernel
theorem dX7_placeOf_7 : decode cX7_placeOf 7 = .ok (.if_icmp .ge 39, 3) := by decide +kernel
theorem dX7_placeOf_10 : decode cX7_placeOf 10 = .ok (.aload_n 0, 1) := by decide +kernel
theorem dX7_placeOf_11 : decode cX7_placeOf 11 = .ok (.getfield 13, 3) := by decide +kernel
theorem dX7_placeOf_14 : decode cX7_placeOf 14 = .ok (.iload_n 3, 1) := by decide +kernel
theorem dX7_placeOf_15 : decode cX7_placeOf 15 = .ok (.iaload, 1) := by decide +kernel
theorem dX7_placeOf_16 : decode cX7_placeOf 16 = .ok (.iload_n 1, 1) := by decide +kernel
theorem dX7_placeOf_17 : decode cX7_placeOf 17 = .ok (.iload_n 2, 1) := by decide +kernel
theorem dX7_placeOf_18 : decode cX7_placeOf 18 = .ok (.invokestatic 118, 3) := by decide +kernel
theorem dX7_placeOf_21 : decode cX7_placeOf 21 = .ok (.if_icmp .ne 19, 3) := by decide +kernel
theorem dX7_placeOf_24 : decode cX7_placeOf 24 = .ok (.aload_n 0, 1) := by decide +kernel
theorem dX7_placeOf_25 : decode cX7_placeOf 25 = .ok (.getfield 16, 3) := by decide +kernel
theorem dX7_placeOf_28 : decode cX7_placeOf 28 = .ok (.iload_n 3, 1) := by decide +kernel
theorem dX7_placeOf_29 : decode cX7_placeOf 29 = .ok (.iaload, 1) := by decide +kernel
theorem dX7_placeOf_30 : decode cX7_placeOf 30 = .ok (.iload_n 1, 1) := by decide +kernel
theorem dX7_placeOf_31 : decode cX7_placeOf 31 = .ok (.iload_n 2, 1) := by decide +kernel
theorem dX7_placeOf_32 : decode cX7_placeOf 32 = .ok (.invokestatic 124, 3) := by decide +kernel
theorem dX7_placeOf_35 : decode cX7_placeOf 35 = .ok (.if_icmp .ne 5, 3) := by decide +kernel
theorem dX7_placeOf_38 : decode cX7_placeOf 38 = .ok (.iload_n 3, 1) := by decide +kernel
theorem dX7_placeOf_39 : decode cX7_placeOf 39 = .ok (.ireturn, 1) := by decide +kernel
theorem dX7_placeOf_40 : decode cX7_placeOf 40 = .ok (.iinc 3 1, 3) := by decide +kernel
theorem dX7_placeOf_43 : decode cX7_placeOf 43 = .ok (.goto (-41), 3) := by decide +kernel
theorem dX7_placeOf_46 : decode cX7_placeOf 46 = .ok (.iconst (-1), 1) := by decide +kernel
theorem dX7_placeOf_47 : decode cX7_placeOf 47 = .ok (.ireturn, 1) := by decide +kernel
theorem dX7_bar_0 : decode cX7_bar 0 = .ok (.aload_n 0, 1) := by decide +kernel
theorem dX7_bar_1 : decode cX7_bar 1 = .ok (.iload_n 1, 1) := by decide +kernel
theorem dX7_bar_2 : decode cX7_bar 2 = .ok (.iload_n 2, 1) := by decide +kernel
theorem dX7_bar_3 : decode cX7_bar 3 = .ok (.invokevirtual 127, 3) := by decide +kernel
theorem dX7_bar_6 : decode cX7_bar 6 = .ok (.ifCond .ne 6, 3) := by decide +kernel
theorem dX7_bar_9 : decode cX7_bar 9 = .ok (.bipush (-2), 2) := by decide +kernel
theorem dX7_bar_11 : decode cX7_bar 11 = .ok (.ireturn, 1) := by decide +kernel
theorem dX7_bar_12 : decode cX7_bar 12 = .ok (.aload_n 0, 1) := by decide +kernel
theorem dX7_bar_13 : decode cX7_bar 13 = .ok (.iload_n 1, 1) := by decide +kernel
theorem dX7_bar_14 : decode cX7_bar 14 = .ok (.iload_n 2, 1) := by decide +kernel
theorem dX7_bar_15 : decode cX7_bar 15 = .ok (.invokevirtual 130, 3) := by decide +kernel
theorem dX7_bar_18 : decode cX7_bar 18 = .ok (.ifCond .lt 6, 3) := by decide +kernel
theorem dX7_bar_21 : decode cX7_bar 21 = .ok (.bipush (-3), 2) := by decide +kernel
theorem dX7_bar_23 : decode cX7_bar 23 = .ok (.ireturn, 1) := by decide +kernel
theorem dX7_bar_24 : decode cX7_bar 24 = .ok (.aload_n 0, 1) := by decide +kernel
theorem dX7_bar_25 : decode cX7_bar 25 = .ok (.getfield 106, 3) := by decide +kernel
theorem dX7_bar_28 : decode cX7_bar 28 = .ok (.bipush 24, 2) := by decide +kernel
theorem dX7_bar_30 : decode cX7_bar 30 = .ok (.if_icmp .ne 6, 3) := by decide +kernel
theorem dX7_bar_33 : decode cX7_bar 33 = .ok (.bipush (-4), 2) := by decide +kernel
theorem dX7_bar_35 : decode cX7_bar 35 = .ok (.ireturn, 1) := by decide +kernel
theorem dX7_bar_36 : decode cX7_bar 36 = .ok (.aload_n 0, 1) := by decide +kernel
theorem dX7_bar_37 : decode cX7_bar 37 = .ok (.getfield 13, 3) := by decide +kernel
theorem dX7_bar_40 : decode cX7_bar 40 = .ok (.aload_n 0, 1) := by decide +kernel
theorem dX7_bar_41 : decode cX7_bar 41 = .ok (.getfield 106, 3) := by decide +kernel
theorem dX7_bar_44 : decode cX7_bar 44 = .ok (.iload_n 1, 1) := by decide +kernel
theorem dX7_bar_45 : decode cX7_bar 45 = .ok (.iload_n 2, 1) := by decide +kernel
theorem dX7_bar_46 : decode cX7_bar 46 = .ok (.invokestatic 118, 3) := by decide +kernel
theorem dX7_bar_49 : decode cX7_bar 49 = .ok (.iastore, 1) := by decide +kernel
theorem dX7_bar_50 : decode cX7_bar 50 = .ok (.aload_n 0, 1) := by decide +kernel
theorem dX7_bar_51 : decode cX7_bar 51 = .ok (.getfield 16, 3) := by decide +kernel
theorem dX7_bar_54 : decode cX7_bar 54 = .ok (.aload_n 0, 1) := by decide +kernel
theorem dX7_bar_55 : decode cX7_bar 55 = .ok (.getfield 106, 3) := by decide +kernel
theorem dX7_bar_58 : decode cX7_bar 58 = .ok (.iload_n 1, 1) := by decide +kernel
theorem dX7_bar_59 : decode cX7_bar 59 = .ok (.iload_n 2, 1) := by decide +kernel
theorem dX7_bar_60 : decode cX7_bar 60 = .ok (.invokestatic 124, 3) := by decide +kernel
theorem dX7_bar_63 : decode cX7_bar 63 = .ok (.iastore, 1) := by decide +kernel
theorem dX7_bar_64 : decode cX7_bar 64 = .ok (.aload_n 0, 1) := by decide +kernel
theorem dX7_bar_65 : decode cX7_bar 65 = .ok (.dup, 1) := by decide +kernel
theorem dX7_bar_66 : decode cX7_bar 66 = .ok (.getfield 106, 3) := by decide +kernel
theorem dX7_bar_69 : decode cX7_bar 69 = .ok (.iconst 1, 1) := by decide +kernel
theorem dX7_bar_70 : decode cX7_bar 70 = .ok (.iadd, 1) := by decide +kernel
theorem dX7_bar_71 : decode cX7_bar 71 = .ok (.putfield 106, 3) := by decide +kernel
theorem dX7_bar_74 : decode cX7_bar 74 = .ok (.aload_n 0, 1) := by decide +kernel
theorem dX7_bar_75 : decode cX7_bar 75 = .ok (.getfield 106, 3) := by decide +kernel
theorem dX7_bar_78 : decode cX7_bar 78 = .ok (.iconst 1, 1) := by decide +kernel
theorem dX7_bar_79 : decode cX7_bar 79 = .ok (.isub, 1) := by decide +kernel
theorem dX7_bar_80 : decode cX7_bar 80 = .ok (.ireturn, 1) := by decide +kernel
theorem dX7_off_0 : decode cX7_off 0 = .ok (.aload_n 0, 1) := by decide +kernel
theorem dX7_off_1 : decode cX7_off 1 = .ok (.iload_n 1, 1) := by decide +kernel
theorem dX7_off_2 : decode cX7_off 2 = .ok (.iload_n 2, 1) := by decide +kernel
theorem dX7_off_3 : decode cX7_off 3 = .ok (.invokevirtual 127, 3) := by decide +kernel
theorem dX7_off_6 : decode cX7_off 6 = .ok (.ifCond .ne 6, 3) := by decide +kernel
theorem dX7_off_9 : decode cX7_off 9 = .ok (.bipush (-2), 2) := by decide +kernel
theorem dX7_off_11 : decode cX7_off 11 = .ok (.ireturn, 1) := by decide +kernel
theorem dX7_off_12 : decode cX7_off 12 = .ok (.aload_n 0, 1) := by decide +kernel
theorem dX7_off_13 : decode cX7_off 13 = .ok (.iload_n 1, 1) := by decide +kernel
theorem dX7_off_14 : decode cX7_off 14 = .ok (.iload_n 2, 1) := by decide +kernel
theorem dX7_off_15 : decode cX7_off 15 = .ok (.invokevirtual 130, 3) := by decide +kernel
theorem dX7_off_18 : decode cX7_off 18 = .ok (.istore_n 3, 1) := by decide +kernel
theorem dX7_off_19 : decode cX7_off 19 = .ok (.iload_n 3, 1) := by decide +kernel
theorem dX7_off_20 : decode cX7_off 20 = .ok (.ifCond .ge 6, 3) := by decide +kernel
theorem dX7_off_23 : decode cX7_off 23 = .ok (.bipush (-3), 2) := by decide +kernel
theorem dX7_off_25 : decode cX7_off 25 = .ok (.ireturn, 1) := by decide +kernel
theorem dX7_off_26 : decode cX7_off 26 = .ok (.aload_n 0, 1) := by decide +kernel
theorem dX7_off_27 : decode cX7_off 27 = .ok (.dup, 1) := by decide +kernel
theorem dX7_off_28 : decode cX7_off 28 = .ok (.getfield 106, 3) := by decide +kernel
theorem dX7_off_31 : decode cX7_off 31 = .ok (.iconst 1, 1) := by decide +kernel
theorem dX7_off_32 : decode cX7_off 32 = .ok (.isub, 1) := by decide +kernel
theorem dX7_off_33 : decode cX7_off 33 = .ok (.putfield 106, 3) := by decide +kernel
theorem dX7_off_36 : decode cX7_off 36 = .ok (.iload_n 3, 1) := by decide +kernel
theorem dX7_off_37 : decode cX7_off 37 = .ok (.istore 4, 2) := by decide +kernel
theorem dX7_off_39 : decode cX7_off 39 = .ok (.iload 4, 2) := by decide +kernel
theorem dX7_off_41 : decode cX7_off 41 = .ok (.aload_n 0, 1) := by decide +kernel
theorem dX7_off_42 : decode cX7_off 42 = .ok (.getfield 106, 3) := by decide +kernel
theorem dX7_off_45 : decode cX7_off 45 = .ok (.if_icmp .ge 41, 3) := by decide +kernel
theorem dX7_off_48 : decode cX7_off 48 = .ok (.aload_n 0, 1) := by decide +kernel
theorem dX7_off_49 : decode cX7_off 49 = .ok (.getfield 13, 3) := by decide +kernel
theorem dX7_off_52 : decode cX7_off 52 = .ok (.iload 4, 2) := by decide +kernel
theorem dX7_off_54 : decode cX7_off 54 = .ok (.aload_n 0, 1) := by decide +kernel
theorem dX7_off_55 : decode cX7_off 55 = .ok (.getfield 13, 3) := by decide +kernel
theorem dX7_off_58 : decode cX7_off 58 = .ok (.iload 4, 2) := by decide +kernel
theorem dX7_off_60 : decode cX7_off 60 = .ok (.iconst 1, 1) := by decide +kernel
theorem dX7_off_61 : decode cX7_off 61 = .ok (.iadd, 1) := by decide +kernel
theorem dX7_off_62 : decode cX7_off 62 = .ok (.iaload, 1) := by decide +kernel
theorem dX7_off_63 : decode cX7_off 63 = .ok (.iastore, 1) := by decide +kernel
theorem dX7_off_64 : decode cX7_off 64 = .ok (.aload_n 0, 1) := by decide +kernel
theorem dX7_off_65 : decode cX7_off 65 = .ok (.getfield 16, 3) := by decide +kernel
theorem dX7_off_68 : decode cX7_off 68 = .ok (.iload 4, 2) := by decide +kernel
theorem dX7_off_70 : decode cX7_off 70 = .ok (.aload_n 0, 1) := by decide +kernel
theorem dX7_off_71 : decode cX7_off 71 = .ok (.getfield 16, 3) := by decide +kernel
theorem dX7_off_74 : decode cX7_off 74 = .ok (.iload 4, 2) := by decide +kernel
theorem dX7_off_76 : decode cX7_off 76 = .ok (.iconst 1, 1) := by decide +kernel
theorem dX7_off_77 : decode cX7_off 77 = .ok (.iadd, 1) := by decide +kernel
theorem dX7_off_78 : decode cX7_off 78 = .ok (.iaload, 1) := by decide +kernel
theorem dX7_off_79 : decode cX7_off 79 = .ok (.iastore, 1) := by decide +kernel
theorem dX7_off_80 : decode cX7_off 80 = .ok (.iinc 4 1, 3) := by decide +kernel
theorem dX7_off_83 : decode cX7_off 83 = .ok (.goto (-44), 3) := by decide +kernel
theorem dX7_off_86 : decode cX7_off 86 = .ok (.iload_n 3, 1) := by decide +kernel
theorem dX7_off_87 : decode cX7_off 87 = .ok (.ireturn, 1) := by decide +kernel
theorem dX7_between_0 : decode cX7_between 0 = .ok (.aload_n 0, 1) := by decide +kernel
theorem dX7_between_1 : decode cX7_between 1 = .ok (.iload_n 1, 1) := by decide +kernel
theorem dX7_between_2 : decode cX7_between 2 = .ok (.iload_n 2, 1) := by decide +kernel
theorem dX7_between_3 : decode cX7_between 3 = .ok (.invokevirtual 127, 3) := by decide +kernel
theorem dX7_between_6 : decode cX7_between 6 = .ok (.ifCond .eq 12, 3) := by decide +kernel
theorem dX7_between_9 : decode cX7_between 9 = .ok (.aload_n 0, 1) := by decide +kernel
theorem dX7_between_10 : decode cX7_between 10 = .ok (.iload_n 1, 1) := by decide +kernel
theorem dX7_between_11 : decode cX7_between 11 = .ok (.iload_n 2, 1) := by decide +kernel
theorem dX7_between_12 : decode cX7_between 12 = .ok (.invokevirtual 130, 3) := by decide +kernel
theorem dX7_between_15 : decode cX7_between 15 = .ok (.goto 5, 3) := by decide +kernel
theorem dX7_between_18 : decode cX7_between 18 = .ok (.bipush (-2), 2) := by decide +kernel
theorem dX7_between_20 : decode cX7_between 20 = .ok (.ireturn, 1) := by decide +kernel
theorem dX7_ties_0 : decode cX7_ties 0 = .ok (.aload_n 0, 1) := by decide +kernel
theorem dX7_ties_1 : decode cX7_ties 1 = .ok (.invokevirtual 133, 3) := by decide +kernel
theorem dX7_ties_4 : decode cX7_ties 4 = .ok (.iconst 0, 1) := by decide +kernel
theorem dX7_ties_5 : decode cX7_ties 5 = .ok (.istore_n 1, 1) := by decide +kernel
theorem dX7_ties_6 : decode cX7_ties 6 = .ok (.iload_n 1, 1) := by decide +kernel
theorem dX7_ties_7 : decode cX7_ties 7 = .ok (.aload_n 0, 1) := by decide +kernel
theorem dX7_ties_8 : decode cX7_ties 8 = .ok (.getfield 71, 3) := by decide +kernel
theorem dX7_ties_11 : decode cX7_ties 11 = .ok (.if_icmp .ge 16, 3) := by decide +kernel
theorem dX7_ties_14 : decode cX7_ties 14 = .ok (.aload_n 0, 1) := by decide +kernel
theorem dX7_ties_15 : decode cX7_ties 15 = .ok (.getfield 47, 3) := by decide +kernel
theorem dX7_ties_18 : decode cX7_ties 18 = .ok (.iload_n 1, 1) := by decide +kernel
theorem dX7_ties_19 : decode cX7_ties 19 = .ok (.iconst 0, 1) := by decide +kernel
theorem dX7_ties_20 : decode cX7_ties 20 = .ok (.iastore, 1) := by decide +kernel
theorem dX7_ties_21 : decode cX7_ties 21 = .ok (.iinc 1 1, 3) := by decide +kernel
theorem dX7_ties_24 : decode cX7_ties 24 = .ok (.goto (-18), 3) := by decide +kernel
theorem dX7_ties_27 : decode cX7_ties 27 = .ok (.iconst 0, 1) := by decide +kernel
theorem dX7_ties_28 : decode cX7_ties 28 = .ok (.istore_n 1, 1) := by decide +kernel
theorem dX7_ties_29 : decode cX7_ties 29 = .ok (.iload_n 1, 1) := by decide +kernel
theorem dX7_ties_30 : decode cX7_ties 30 = .ok (.aload_n 0, 1) := by decide +kernel
theorem dX7_ties_31 : decode cX7_ties 31 = .ok (.getfield 71, 3) := by decide +kernel
theorem dX7_ties_34 : decode cX7_ties 34 = .ok (.if_icmp .ge 63, 3) := by decide +kernel
theorem dX7_ties_37 : decode cX7_ties 37 = .ok (.iload_n 1, 1) := by decide +kernel
theorem dX7_ties_38 : decode cX7_ties 38 = .ok (.iconst 1, 1) := by decide +kernel
theorem dX7_ties_39 : decode cX7_ties 39 = .ok (.iadd, 1) := by decide +kernel
theorem dX7_ties_40 : decode cX7_ties 40 = .ok (.istore_n 2, 1) := by decide +kernel
theorem dX7_ties_41 : decode cX7_ties 41 = .ok (.iload_n 2, 1) := by decide +kernel
theorem dX7_ties_42 : decode cX7_ties 42 = .ok (.aload_n 0, 1) := by decide +kernel
theorem dX7_ties_43 : decode cX7_ties 43 = .ok (.getfield 71, 3) := by decide +kernel
theorem dX7_ties_46 : decode cX7_ties 46 = .ok (.if_icmp .ge 45, 3) := by decide +kernel
theorem dX7_ties_49 : decode cX7_ties 49 = .ok (.aload_n 0, 1) := by decide +kernel
theorem dX7_ties_50 : decode cX7_ties 50 = .ok (.iload_n 1, 1) := by decide +kernel
theorem dX7_ties_51 : decode cX7_ties 51 = .ok (.iload_n 2, 1) := by decide +kernel
theorem dX7_ties_52 : decode cX7_ties 52 = .ok (.invokevirtual 99, 3) := by decide +kernel
theorem dX7_ties_55 : decode cX7_ties 55 = .ok (.ifCond .eq 6, 3) := by decide +kernel
theorem dX7_ties_58 : decode cX7_ties 58 = .ok (.goto 27, 3) := by decide +kernel
theorem dX7_ties_61 : decode cX7_ties 61 = .ok (.aload_n 0, 1) := by decide +kernel
theorem dX7_ties_62 : decode cX7_ties 62 = .ok (.getfield 47, 3) := by decide +kernel
theorem dX7_ties_65 : decode cX7_ties 65 = .ok (.iload_n 1, 1) := by decide +kernel
theorem dX7_ties_66 : decode cX7_ties 66 = .ok (.dup2, 1) := by decide +kernel
theorem dX7_ties_67 : decode cX7_ties 67 = .ok (.iaload, 1) := by decide +kernel
theorem dX7_ties_68 : decode cX7_ties 68 = .ok (.iconst 1, 1) := by decide +kernel
theorem dX7_ties_69 : decode cX7_ties 69 = .ok (.iload_n 2, 1) := by decide +kernel
theorem dX7_ties_70 : decode cX7_ties 70 = .ok (.ishl, 1) := by decide +kernel
theorem dX7_ties_71 : decode cX7_ties 71 = .ok (.ior, 1) := by decide +kernel
theorem dX7_ties_72 : decode cX7_ties 72 = .ok (.iastore, 1) := by decide +kernel
theorem dX7_ties_73 : decode cX7_ties 73 = .ok (.aload_n 0, 1) := by decide +kernel
theorem dX7_ties_74 : decode cX7_ties 74 = .ok (.getfield 47, 3) := by decide +kernel
theorem dX7_ties_77 : decode cX7_ties 77 = .ok (.iload_n 2, 1) := by decide +kernel
theorem dX7_ties_78 : decode cX7_ties 78 = .ok (.dup2, 1) := by decide +kernel
theorem dX7_ties_79 : decode cX7_ties 79 = .ok (.iaload, 1) := by decide +kernel
theorem dX7_ties_80 : decode cX7_ties 80 = .ok (.iconst 1, 1) := by decide +kernel
theorem dX7_ties_81 : decode cX7_ties 81 = .ok (.iload_n 1, 1) := by decide +kernel
theorem dX7_ties_82 : decode cX7_ties 82 = .ok (.ishl, 1) := by decide +kernel
theorem dX7_ties_83 : decode cX7_ties 83 = .ok (.ior, 1) := by decide +kernel
theorem dX7_ties_84 : decode cX7_ties 84 = .ok (.iastore, 1) := by decide +kernel
theorem dX7_ties_85 : decode cX7_ties 85 = .ok (.iinc 2 1, 3) := by decide +kernel
theorem dX7_ties_88 : decode cX7_ties 88 = .ok (.goto (-47), 3) := by decide +kernel
theorem dX7_ties_91 : decode cX7_ties 91 = .ok (.iinc 1 1, 3) := by decide +kernel
theorem dX7_ties_94 : decode cX7_ties 94 = .ok (.goto (-65), 3) := by decide +kernel
theorem dX7_ties_97 : decode cX7_ties 97 = .ok (.return_, 1) := by decide +kernel
theorem dX7_finds_0 : decode cX7_finds 0 = .ok (.aload_n 0, 1) := by decide +kernel
theorem dX7_finds_1 : decode cX7_finds 1 = .ok (.invokevirtual 136, 3) := by decide +kernel
theorem dX7_finds_4 : decode cX7_finds 4 = .ok (.aload_n 0, 1) := by decide +kernel
theorem dX7_finds_5 : decode cX7_finds 5 = .ok (.iconst 0, 1) := by decide +kernel
theorem dX7_finds_6 : decode cX7_finds 6 = .ok (.putfield 139, 3) := by decide +kernel
theorem dX7_finds_9 : decode cX7_finds 9 = .ok (.iconst 0, 1) := by decide +kernel
theorem dX7_finds_10 : decode cX7_finds 10 = .ok (.istore_n 1, 1) := by decide +kernel
theorem dX7_finds_11 : decode cX7_finds 11 = .ok (.iload_n 1, 1) := by decide +kernel
theorem dX7_finds_12 : decode cX7_finds 12 = .ok (.aload_n 0, 1) := by decide +kernel
theorem dX7_finds_13 : decode cX7_finds 13 = .ok (.getfield 71, 3) := by decide +kernel
theorem dX7_finds_16 : decode cX7_finds 16 = .ok (.if_icmp .ge 173, 3) := by decide +kernel
theorem dX7_finds_19 : decode cX7_finds 19 = .ok (.iload_n 1, 1) := by decide +kernel
theorem dX7_finds_20 : decode cX7_finds 20 = .ok (.iconst 1, 1) := by decide +kernel
theorem dX7_finds_21 : decode cX7_finds 21 = .ok (.iadd, 1) := by decide +kernel
theorem dX7_finds_22 : decode cX7_finds 22 = .ok (.istore_n 2, 1) := by decide +kernel
theorem dX7_finds_23 : decode cX7_finds 23 = .ok (.iload_n 2, 1) := by decide +kernel
theorem dX7_finds_24 : decode cX7_finds 24 = .ok (.aload_n 0, 1) := by decide +kernel
theorem dX7_finds_25 : decode cX7_finds 25 = .ok (.getfield 71, 3) := by decide +kernel
theorem dX7_finds_28 : decode cX7_finds 28 = .ok (.if_icmp .ge 155, 3) := by decide +kernel
theorem dX7_finds_31 : decode cX7_finds 31 = .ok (.aload_n 0, 1) := by decide +kernel
theorem dX7_finds_32 : decode cX7_finds 32 = .ok (.getfield 47, 3) := by decide +kernel
theorem dX7_finds_35 : decode cX7_finds 35 = .ok (.iload_n 1, 1) := by decide +kernel
theorem dX7_finds_36 : decode cX7_finds 36 = .ok (.iaload, 1) := by decide +kernel
theorem dX7_finds_37 : decode cX7_finds 37 = .ok (.iload_n 2, 1) := by decide +kernel
theorem dX7_finds_38 : decode cX7_finds 38 = .ok (.ishr, 1) := by decide +kernel
theorem dX7_finds_39 : decode cX7_finds 39 = .ok (.iconst 1, 1) := by decide +kernel
theorem dX7_finds_40 : decode cX7_finds 40 = .ok (.iand, 1) := by decide +kernel
theorem dX7_finds_41 : decode cX7_finds 41 = .ok (.ifCond .ne 6, 3) := by decide +kernel
theorem dX7_finds_44 : decode cX7_finds 44 = .ok (.goto 133, 3) := by decide +kernel
theorem dX7_finds_47 : decode cX7_finds 47 = .ok (.aload_n 0, 1) := by decide +kernel
theorem dX7_finds_48 : decode cX7_finds 48 = .ok (.getfield 47, 3) := by decide +kernel
theorem dX7_finds_51 : decode cX7_finds 51 = .ok (.iload_n 1, 1) := by decide +kernel
theorem dX7_finds_52 : decode cX7_finds 52 = .ok (.iaload, 1) := by decide +kernel
theorem dX7_finds_53 : decode cX7_finds 53 = .ok (.aload_n 0, 1) := by decide +kernel
theorem dX7_finds_54 : decode cX7_finds 54 = .ok (.getfield 47, 3) := by decide +kernel
theorem dX7_finds_57 : decode cX7_finds 57 = .ok (.iload_n 2, 1) := by decide +kernel
theorem dX7_finds_58 : decode cX7_finds 58 = .ok (.iaload, 1) := by decide +kernel
theorem dX7_finds_59 : decode cX7_finds 59 = .ok (.iand, 1) := by decide +kernel
theorem dX7_finds_60 : decode cX7_finds 60 = .ok (.istore_n 3, 1) := by decide +kernel
theorem dX7_finds_61 : decode cX7_finds 61 = .ok (.iconst 1, 1) := by decide +kernel
theorem dX7_finds_62 : decode cX7_finds 62 = .ok (.iload_n 1, 1) := by decide +kernel
theorem dX7_finds_63 : decode cX7_finds 63 = .ok (.ishl, 1) := by decide +kernel
theorem dX7_finds_64 : decode cX7_finds 64 = .ok (.iconst 1, 1) := by decide +kernel
theorem dX7_finds_65 : decode cX7_finds 65 = .ok (.iload_n 2, 1) := by decide +kernel
theorem dX7_finds_66 : decode cX7_finds 66 = .ok (.ishl, 1) := by decide +kernel
theorem dX7_finds_67 : decode cX7_finds 67 = .ok (.ior, 1) := by decide +kernel
theorem dX7_finds_68 : decode cX7_finds 68 = .ok (.istore 4, 2) := by decide +kernel
theorem dX7_finds_70 : decode cX7_finds 70 = .ok (.iconst 1, 1) := by decide +kernel
theorem dX7_finds_71 : decode cX7_finds 71 = .ok (.istore 5, 2) := by decide +kernel
theorem dX7_finds_73 : decode cX7_finds 73 = .ok (.iconst 0, 1) := by decide +kernel
theorem dX7_finds_74 : decode cX7_finds 74 = .ok (.istore 6, 2) := by decide +kernel
theorem dX7_finds_76 : decode cX7_finds 76 = .ok (.iload 6, 2) := by decide +kernel
theorem dX7_finds_78 : decode cX7_finds 78 = .ok (.aload_n 0, 1) := by decide +kernel
theorem dX7_finds_79 : decode cX7_finds 79 = .ok (.getfield 71, 3) := by decide +kernel
theorem dX7_finds_82 : decode cX7_finds 82 = .ok (.if_icmp .ge 66, 3) := by decide +kernel
theorem dX7_finds_85 : decode cX7_finds 85 = .ok (.iload_n 3, 1) := by decide +kernel
theorem dX7_finds_86 : decode cX7_finds 86 = .ok (.iload 6, 2) := by decide +kernel
theorem dX7_finds_88 : decode cX7_finds 88 = .ok (.ishr, 1) := by decide +kernel
theorem dX7_finds_89 : decode cX7_finds 89 = .ok (.iconst 1, 1) := by decide +kernel
theorem dX7_finds_90 : decode cX7_finds 90 = .ok (.iand, 1) := by decide +kernel
theorem dX7_finds_91 : decode cX7_finds 91 = .ok (.ifCond .eq 51, 3) := by decide +kernel
theorem dX7_finds_94 : decode cX7_finds 94 = .ok (.iload 4, 2) := by decide +kernel
theorem dX7_finds_96 : decode cX7_finds 96 = .ok (.aload_n 0, 1) := by decide +kernel
theorem dX7_finds_97 : decode cX7_finds 97 = .ok (.getfield 47, 3) := by decide +kernel
theorem dX7_finds_100 : decode cX7_finds 100 = .ok (.iload 6, 2) := by decide +kernel
theorem dX7_finds_102 : decode cX7_finds 102 = .ok (.iaload, 1) := by decide +kernel
theorem dX7_finds_103 : decode cX7_finds 103 = .ok (.iconst 1, 1) := by decide +kernel
theorem dX7_finds_104 : decode cX7_finds 104 = .ok (.iload 6, 2) := by decide +kernel
theorem dX7_finds_106 : decode cX7_finds 106 = .ok (.ishl, 1) := by decide +kernel
theorem dX7_finds_107 : decode cX7_finds 107 = .ok (.ior, 1) := by decide +kernel
theorem dX7_finds_108 : decode cX7_finds 108 = .ok (.iconst (-1), 1) := by decide +kernel
theorem dX7_finds_109 : decode cX7_finds 109 = .ok (.ixor, 1) := by decide +kernel
theorem dX7_finds_110 : decode cX7_finds 110 = .ok (.iand, 1) := by decide +kernel
theorem dX7_finds_111 : decode cX7_finds 111 = .ok (.ifCond .eq 6, 3) := by decide +kernel
theorem dX7_finds_114 : decode cX7_finds 114 = .ok (.goto 28, 3) := by decide +kernel
theorem dX7_finds_117 : decode cX7_finds 117 = .ok (.iload 4, 2) := by decide +kernel
theorem dX7_finds_119 : decode cX7_finds 119 = .ok (.iconst 1, 1) := by decide +kernel
theorem dX7_finds_120 : decode cX7_finds 120 = .ok (.iload 6, 2) := by decide +kernel
theorem dX7_finds_122 : decode cX7_finds 122 = .ok (.ishl, 1) := by decide +kernel
theorem dX7_finds_123 : decode cX7_finds 123 = .ok (.ior, 1) := by decide +kernel
theorem dX7_finds_124 : decode cX7_finds 124 = .ok (.istore 4, 2) := by decide +kernel
theorem dX7_finds_126 : decode cX7_finds 126 = .ok (.iload 5, 2) := by decide +kernel
theorem dX7_finds_128 : decode cX7_finds 128 = .ok (.iload 6, 2) := by decide +kernel
theorem dX7_finds_130 : decode cX7_finds 130 = .ok (.iload_n 2, 1) := by decide +kernel
theorem dX7_finds_131 : decode cX7_finds 131 = .ok (.if_icmp .le 7, 3) := by decide +kernel
theorem dX7_finds_134 : decode cX7_finds 134 = .ok (.iconst 1, 1) := by decide +kernel
theorem dX7_finds_135 : decode cX7_finds 135 = .ok (.goto 4, 3) := by decide +kernel
theorem dX7_finds_138 : decode cX7_finds 138 = .ok (.iconst 0, 1) := by decide +kernel
theorem dX7_finds_139 : decode cX7_finds 139 = .ok (.iand, 1) := by decide +kernel
theorem dX7_finds_140 : decode cX7_finds 140 = .ok (.istore 5, 2) := by decide +kernel
theorem dX7_finds_142 : decode cX7_finds 142 = .ok (.iinc 6 1, 3) := by decide +kernel
theorem dX7_finds_145 : decode cX7_finds 145 = .ok (.goto (-69), 3) := by decide +kernel
theorem dX7_finds_148 : decode cX7_finds 148 = .ok (.iload 5, 2) := by decide +kernel
theorem dX7_finds_150 : decode cX7_finds 150 = .ok (.ifCond .ne 6, 3) := by decide +kernel
theorem dX7_finds_153 : decode cX7_finds 153 = .ok (.goto 24, 3) := by decide +kernel
theorem dX7_finds_156 : decode cX7_finds 156 = .ok (.aload_n 0, 1) := by decide +kernel
theorem dX7_finds_157 : decode cX7_finds 157 = .ok (.getfield 50, 3) := by decide +kernel
theorem dX7_finds_160 : decode cX7_finds 160 = .ok (.aload_n 0, 1) := by decide +kernel
theorem dX7_finds_161 : decode cX7_finds 161 = .ok (.getfield 139, 3) := by decide +kernel
theorem dX7_finds_164 : decode cX7_finds 164 = .ok (.iload 4, 2) := by decide +kernel
theorem dX7_finds_166 : decode cX7_finds 166 = .ok (.iastore, 1) := by decide +kernel
theorem dX7_finds_167 : decode cX7_finds 167 = .ok (.aload_n 0, 1) := by decide +kernel
theorem dX7_finds_168 : decode cX7_finds 168 = .ok (.dup, 1) := by decide +kernel
theorem dX7_finds_169 : decode cX7_finds 169 = .ok (.getfield 139, 3) := by decide +kernel
theorem dX7_finds_172 : decode cX7_finds 172 = .ok (.iconst 1, 1) := by decide +kernel
theorem dX7_finds_173 : decode cX7_finds 173 = .ok (.iadd, 1) := by decide +kernel
theorem dX7_finds_174 : decode cX7_finds 174 = .ok (.putfield 139, 3) := by decide +kernel
theorem dX7_finds_177 : decode cX7_finds 177 = .ok (.iinc 2 1, 3) := by decide +kernel
theorem dX7_finds_180 : decode cX7_finds 180 = .ok (.goto (-157), 3) := by decide +kernel
theorem dX7_finds_183 : decode cX7_finds 183 = .ok (.iinc 1 1, 3) := by decide +kernel
theorem dX7_finds_186 : decode cX7_finds 186 = .ok (.goto (-175), 3) := by decide +kernel
theorem dX7_finds_189 : decode cX7_finds 189 = .ok (.return_, 1) := by decide +kernel
theorem dX7_tied_0 : decode cX7_tied 0 = .ok (.aload_n 0, 1) := by decide +kernel
theorem dX7_tied_1 : decode cX7_tied 1 = .ok (.iload_n 1, 1) := by decide +kernel
theorem dX7_tied_2 : decode cX7_tied 2 = .ok (.iload_n 2, 1) := by decide +kernel
theorem dX7_tied_3 : decode cX7_tied 3 = .ok (.invokevirtual 127, 3) := by decide +kernel
theorem dX7_tied_6 : decode cX7_tied 6 = .ok (.ifCond .ne 6, 3) := by decide +kernel
theorem dX7_tied_9 : decode cX7_tied 9 = .ok (.bipush (-2), 2) := by decide +kernel
theorem dX7_tied_11 : decode cX7_tied 11 = .ok (.ireturn, 1) := by decide +kernel
theorem dX7_tied_12 : decode cX7_tied 12 = .ok (.aload_n 0, 1) := by decide +kernel
theorem dX7_tied_13 : decode cX7_tied 13 = .ok (.invokevirtual 136, 3) := by decide +kernel
theorem dX7_tied_16 : decode cX7_tied 16 = .ok (.aload_n 0, 1) := by decide +kernel
theorem dX7_tied_17 : decode cX7_tied 17 = .ok (.getfield 47, 3) := by decide +kernel
theorem dX7_tied_20 : decode cX7_tied 20 = .ok (.iload_n 1, 1) := by decide +kernel
theorem dX7_tied_21 : decode cX7_tied 21 = .ok (.iaload, 1) := by decide +kernel
theorem dX7_tied_22 : decode cX7_tied 22 = .ok (.iload_n 2, 1) := by decide +kernel
theorem dX7_tied_23 : decode cX7_tied 23 = .ok (.ishr, 1) := by decide +kernel
theorem dX7_tied_24 : decode cX7_tied 24 = .ok (.iconst 1, 1) := by decide +kernel
theorem dX7_tied_25 : decode cX7_tied 25 = .ok (.iand, 1) := by decide +kernel
theorem dX7_tied_26 : decode cX7_tied 26 = .ok (.ireturn, 1) := by decide +kernel
theorem dX7_part_0 : decode cX7_part 0 = .ok (.aload_n 0, 1) := by decide +kernel
theorem dX7_part_1 : decode cX7_part 1 = .ok (.invokevirtual 142, 3) := by decide +kernel
theorem dX7_part_4 : decode cX7_part 4 = .ok (.iload_n 1, 1) := by decide +kernel
theorem dX7_part_5 : decode cX7_part 5 = .ok (.iconst 0, 1) := by decide +kernel
theorem dX7_part_6 : decode cX7_part 6 = .ok (.aload_n 0, 1) := by decide +kernel
theorem dX7_part_7 : decode cX7_part 7 = .ok (.getfield 139, 3) := by decide +kernel
theorem dX7_part_10 : decode cX7_part 10 = .ok (.iconst 1, 1) := by decide +kernel
theorem dX7_part_11 : decode cX7_part 11 = .ok (.isub, 1) := by decide +kernel
theorem dX7_part_12 : decode cX7_part 12 = .ok (.invokestatic 75, 3) := by decide +kernel
theorem dX7_part_15 : decode cX7_part 15 = .ok (.ifCond .eq 12, 3) := by decide +kernel
theorem dX7_part_18 : decode cX7_part 18 = .ok (.aload_n 0, 1) := by decide +kernel
theorem dX7_part_19 : decode cX7_part 19 = .ok (.getfield 50, 3) := by decide +kernel
theorem dX7_part_22 : decode cX7_part 22 = .ok (.iload_n 1, 1) := by decide +kernel
theorem dX7_part_23 : decode cX7_part 23 = .ok (.iaload, 1) := by decide +kernel
theorem dX7_part_24 : decode cX7_part 24 = .ok (.goto 5, 3) := by decide +kernel
theorem dX7_part_27 : decode cX7_part 27 = .ok (.bipush (-12), 2) := by decide +kernel
theorem dX7_part_29 : decode cX7_part 29 = .ok (.ireturn, 1) := by decide +kernel
theorem dX7_overtied_0 : decode cX7_overtied 0 = .ok (.aload_n 0, 1) := by decide +kernel
theorem dX7_overtied_1 : decode cX7_overtied 1 = .ok (.invokevirtual 115, 3) := by decide +kernel
theorem dX7_overtied_4 : decode cX7_overtied 4 = .ok (.istore_n 1, 1) := by decide +kernel
theorem dX7_overtied_5 : decode cX7_overtied 5 = .ok (.iconst 0, 1) := by decide +kernel
theorem dX7_overtied_6 : decode cX7_overtied 6 = .ok (.istore_n 2, 1) := by decide +kernel
theorem dX7_overtied_7 : decode cX7_overtied 7 = .ok (.iconst 0, 1) := by decide +kernel
theorem dX7_overtied_8 : decode cX7_overtied 8 = .ok (.istore_n 3, 1) := by decide +kernel
theorem dX7_overtied_9 : decode cX7_overtied 9 = .ok (.iload_n 3, 1) := by decide +kernel
theorem dX7_overtied_10 : decode cX7_overtied 10 = .ok (.aload_n 0, 1) := by decide +kernel
theorem dX7_overtied_11 : decode cX7_overtied 11 = .ok (.getfield 106, 3) := by decide +kernel
theorem dX7_overtied_14 : decode cX7_overtied 14 = .ok (.if_icmp .ge 26, 3) := by decide +kernel
theorem dX7_overtied_17 : decode cX7_overtied 17 = .ok (.iload_n 2, 1) := by decide +kernel
theorem dX7_overtied_18 : decode cX7_overtied 18 = .ok (.aload_n 0, 1) := by decide +kernel
theorem dX7_overtied_19 : decode cX7_overtied 19 = .ok (.iload_n 3, 1) := by decide +kernel
theorem dX7_overtied_20 : decode cX7_overtied 20 = .ok (.invokevirtual 112, 3) := by decide +kernel
theorem dX7_overtied_23 : decode cX7_overtied 23 = .ok (.iload_n 1, 1) := by decide +kernel
theorem dX7_overtied_24 : decode cX7_overtied 24 = .ok (.if_icmp .ne 7, 3) := by decide +kernel
theorem dX7_overtied_27 : decode cX7_overtied 27 = .ok (.iconst 1, 1) := by decide +kernel
theorem dX7_overtied_28 : decode cX7_overtied 28 = .ok (.goto 4, 3) := by decide +kernel
theorem dX7_overtied_31 : decode cX7_overtied 31 = .ok (.iconst 0, 1) := by decide +kernel
theorem dX7_overtied_32 : decode cX7_overtied 32 = .ok (.iadd, 1) := by decide +kernel
theorem dX7_overtied_33 : decode cX7_overtied 33 = .ok (.istore_n 2, 1) := by decide +kernel
theorem dX7_overtied_34 : decode cX7_overtied 34 = .ok (.iinc 3 1, 3) := by decide +kernel
theorem dX7_overtied_37 : decode cX7_overtied 37 = .ok (.goto (-28), 3) := by decide +kernel
theorem dX7_overtied_40 : decode cX7_overtied 40 = .ok (.iload_n 2, 1) := by decide +kernel
theorem dX7_overtied_41 : decode cX7_overtied 41 = .ok (.ireturn, 1) := by decide +kernel
theorem dX7_extras_0 : decode cX7_extras 0 = .ok (.aload_n 0, 1) := by decide +kernel
theorem dX7_extras_1 : decode cX7_extras 1 = .ok (.getfield 106, 3) := by decide +kernel
theorem dX7_extras_4 : decode cX7_extras 4 = .ok (.aload_n 0, 1) := by decide +kernel
theorem dX7_extras_5 : decode cX7_extras 5 = .ok (.invokevirtual 115, 3) := by decide +kernel
theorem dX7_extras_8 : decode cX7_extras 8 = .ok (.isub, 1) := by decide +kernel
theorem dX7_extras_9 : decode cX7_extras 9 = .ok (.ireturn, 1) := by decide +kernel
theorem dX7_told_0 : decode cX7_told 0 = .ok (.iload_n 1, 1) := by decide +kernel
theorem dX7_told_1 : decode cX7_told 1 = .ok (.tableswitch 115 0 8 #[51, 56, 61, 66, 78, 91, 96, 105, 110], 51) := by decide +kernel
theorem dX7_told_52 : decode cX7_told 52 = .ok (.aload_n 0, 1) := by decide +kernel
theorem dX7_told_53 : decode cX7_told 53 = .ok (.getfield 71, 3) := by decide +kernel
theorem dX7_told_56 : decode cX7_told 56 = .ok (.ireturn, 1) := by decide +kernel
theorem dX7_told_57 : decode cX7_told 57 = .ok (.aload_n 0, 1) := by decide +kernel
theorem dX7_told_58 : decode cX7_told 58 = .ok (.getfield 106, 3) := by decide +kernel
theorem dX7_told_61 : decode cX7_told 61 = .ok (.ireturn, 1) := by decide +kernel
theorem dX7_told_62 : decode cX7_told 62 = .ok (.aload_n 0, 1) := by decide +kernel
theorem dX7_told_63 : decode cX7_told 63 = .ok (.invokevirtual 115, 3) := by decide +kernel
theorem dX7_told_66 : decode cX7_told 66 = .ok (.ireturn, 1) := by decide +kernel
theorem dX7_told_67 : decode cX7_told 67 = .ok (.iconst 2, 1) := by decide +kernel
theorem dX7_told_68 : decode cX7_told 68 = .ok (.aload_n 0, 1) := by decide +kernel
theorem dX7_told_69 : decode cX7_told 69 = .ok (.getfield 71, 3) := by decide +kernel
theorem dX7_told_72 : decode cX7_told 72 = .ok (.imul, 1) := by decide +kernel
theorem dX7_told_73 : decode cX7_told 73 = .ok (.aload_n 0, 1) := by decide +kernel
theorem dX7_told_74 : decode cX7_told 74 = .ok (.invokevirtual 115, 3) := by decide +kernel
theorem dX7_told_77 : decode cX7_told 77 = .ok (.isub, 1) := by decide +kernel
theorem dX7_told_78 : decode cX7_told 78 = .ok (.ireturn, 1) := by decide +kernel
theorem dX7_told_79 : decode cX7_told 79 = .ok (.aload_n 0, 1) := by decide +kernel
theorem dX7_told_80 : decode cX7_told 80 = .ok (.invokevirtual 145, 3) := by decide +kernel
theorem dX7_told_83 : decode cX7_told 83 = .ok (.ifCond .eq 7, 3) := by decide +kernel
theorem dX7_told_86 : decode cX7_told 86 = .ok (.iconst 1, 1) := by decide +kernel
theorem dX7_told_87 : decode cX7_told 87 = .ok (.goto 4, 3) := by decide +kernel
theorem dX7_told_90 : decode cX7_told 90 = .ok (.iconst 0, 1) := by decide +kernel
theorem dX7_told_91 : decode cX7_told 91 = .ok (.ireturn, 1) := by decide +kernel
theorem dX7_told_92 : decode cX7_told 92 = .ok (.aload_n 0, 1) := by decide +kernel
theorem dX7_told_93 : decode cX7_told 93 = .ok (.invokevirtual 149, 3) := by decide +kernel
theorem dX7_told_96 : decode cX7_told 96 = .ok (.ireturn, 1) := by decide +kernel
theorem dX7_told_97 : decode cX7_told 97 = .ok (.aload_n 0, 1) := by decide +kernel
theorem dX7_told_98 : decode cX7_told 98 = .ok (.invokevirtual 142, 3) := by decide +kernel
theorem dX7_told_101 : decode cX7_told 101 = .ok (.aload_n 0, 1) := by decide +kernel
theorem dX7_told_102 : decode cX7_told 102 = .ok (.getfield 139, 3) := by decide +kernel
theorem dX7_told_105 : decode cX7_told 105 = .ok (.ireturn, 1) := by decide +kernel
theorem dX7_told_106 : decode cX7_told 106 = .ok (.aload_n 0, 1) := by decide +kernel
theorem dX7_told_107 : decode cX7_told 107 = .ok (.invokevirtual 152, 3) := by decide +kernel
theorem dX7_told_110 : decode cX7_told 110 = .ok (.ireturn, 1) := by decide +kernel
theorem dX7_told_111 : decode cX7_told 111 = .ok (.aload_n 0, 1) := by decide +kernel
theorem dX7_told_112 : decode cX7_told 112 = .ok (.getfield 155, 3) := by decide +kernel
theorem dX7_told_115 : decode cX7_told 115 = .ok (.ireturn, 1) := by decide +kernel
theorem dX7_told_116 : decode cX7_told 116 = .ok (.bipush (-2), 2) := by decide +kernel
theorem dX7_told_118 : decode cX7_told 118 = .ok (.ireturn, 1) := by decide +kernel
theorem dX7_barAt_0 : decode cX7_barAt 0 = .ok (.iload_n 2, 1) := by decide +kernel
theorem dX7_barAt_1 : decode cX7_barAt 1 = .ok (.iconst 0, 1) := by decide +kernel
theorem dX7_barAt_2 : decode cX7_barAt 2 = .ok (.iconst 3, 1) := by decide +kernel
theorem dX7_barAt_3 : decode cX7_barAt 3 = .ok (.invokestatic 75, 3) := by decide +kernel
theorem dX7_barAt_6 : decode cX7_barAt 6 = .ok (.ifCond .ne 6, 3) := by decide +kernel
theorem dX7_barAt_9 : decode cX7_barAt 9 = .ok (.bipush (-2), 2) := by decide +kernel
theorem dX7_barAt_11 : decode cX7_barAt 11 = .ok (.ireturn, 1) := by decide +kernel
theorem dX7_barAt_12 : decode cX7_barAt 12 = .ok (.iload_n 1, 1) := by decide +kernel
theorem dX7_barAt_13 : decode cX7_barAt 13 = .ok (.iconst 0, 1) := by decide +kernel
theorem dX7_barAt_14 : decode cX7_barAt 14 = .ok (.aload_n 0, 1) := by decide +kernel
theorem dX7_barAt_15 : decode cX7_barAt 15 = .ok (.getfield 106, 3) := by decide +kernel
theorem dX7_barAt_18 : decode cX7_barAt 18 = .ok (.iconst 1, 1) := by decide +kernel
theorem dX7_barAt_19 : decode cX7_barAt 19 = .ok (.isub, 1) := by decide +kernel
theorem dX7_barAt_20 : decode cX7_barAt 20 = .ok (.invokestatic 75, 3) := by decide +kernel
theorem dX7_barAt_23 : decode cX7_barAt 23 = .ok (.ifCond .ne 6, 3) := by decide +kernel
theorem dX7_barAt_26 : decode cX7_barAt 26 = .ok (.bipush (-12), 2) := by decide +kernel
theorem dX7_barAt_28 : decode cX7_barAt 28 = .ok (.ireturn, 1) := by decide +kernel
theorem dX7_barAt_29 : decode cX7_barAt 29 = .ok (.iload_n 2, 1) := by decide +kernel
theorem dX7_barAt_30 : decode cX7_barAt 30 = .ok (.iconst 2, 1) := by decide +kernel
theorem dX7_barAt_31 : decode cX7_barAt 31 = .ok (.if_icmp .ge 23, 3) := by decide +kernel
theorem dX7_barAt_34 : decode cX7_barAt 34 = .ok (.iload_n 2, 1) := by decide +kernel
theorem dX7_barAt_35 : decode cX7_barAt 35 = .ok (.ifCond .ne 12, 3) := by decide +kernel
theorem dX7_barAt_38 : decode cX7_barAt 38 = .ok (.aload_n 0, 1) := by decide +kernel
theorem dX7_barAt_39 : decode cX7_barAt 39 = .ok (.getfield 13, 3) := by decide +kernel
theorem dX7_barAt_42 : decode cX7_barAt 42 = .ok (.iload_n 1, 1) := by decide +kernel
theorem dX7_barAt_43 : decode cX7_barAt 43 = .ok (.iaload, 1) := by decide +kernel
theorem dX7_barAt_44 : decode cX7_barAt 44 = .ok (.goto 9, 3) := by decide +kernel
theorem dX7_barAt_47 : decode cX7_barAt 47 = .ok (.aload_n 0, 1) := by decide +kernel
theorem dX7_barAt_48 : decode cX7_barAt 48 = .ok (.getfield 16, 3) := by decide +kernel
theorem dX7_barAt_51 : decode cX7_barAt 51 = .ok (.iload_n 1, 1) := by decide +kernel
theorem dX7_barAt_52 : decode cX7_barAt 52 = .ok (.iaload, 1) := by decide +kernel
theorem dX7_barAt_53 : decode cX7_barAt 53 = .ok (.ireturn, 1) := by decide +kernel
theorem dX7_barAt_54 : decode cX7_barAt 54 = .ok (.aload_n 0, 1) := by decide +kernel
theorem dX7_barAt_55 : decode cX7_barAt 55 = .ok (.invokevirtual 133, 3) := by decide +kernel
theorem dX7_barAt_58 : decode cX7_barAt 58 = .ok (.iload_n 2, 1) := by decide +kernel
theorem dX7_barAt_59 : decode cX7_barAt 59 = .ok (.iconst 2, 1) := by decide +kernel
theorem dX7_barAt_60 : decode cX7_barAt 60 = .ok (.if_icmp .ne 18, 3) := by decide +kernel
theorem dX7_barAt_63 : decode cX7_barAt 63 = .ok (.aload_n 0, 1) := by decide +kernel
theorem dX7_barAt_64 : decode cX7_barAt 64 = .ok (.getfield 37, 3) := by decide +kernel
theorem dX7_barAt_67 : decode cX7_barAt 67 = .ok (.iload_n 1, 1) := by decide +kernel
theorem dX7_barAt_68 : decode cX7_barAt 68 = .ok (.baload, 1) := by decide +kernel
theorem dX7_barAt_69 : decode cX7_barAt 69 = .ok (.ifCond .eq 7, 3) := by decide +kernel
theorem dX7_barAt_72 : decode cX7_barAt 72 = .ok (.iconst 1, 1) := by decide +kernel
theorem dX7_barAt_73 : decode cX7_barAt 73 = .ok (.goto 4, 3) := by decide +kernel
theorem dX7_barAt_76 : decode cX7_barAt 76 = .ok (.iconst 0, 1) := by decide +kernel
theorem dX7_barAt_77 : decode cX7_barAt 77 = .ok (.ireturn, 1) := by decide +kernel
theorem dX7_barAt_78 : decode cX7_barAt 78 = .ok (.aload_n 0, 1) := by decide +kernel
theorem dX7_barAt_79 : decode cX7_barAt 79 = .ok (.getfield 83, 3) := by decide +kernel
theorem dX7_barAt_82 : decode cX7_barAt 82 = .ok (.istore_n 3, 1) := by decide +kernel
theorem dX7_barAt_83 : decode cX7_barAt 83 = .ok (.aload_n 0, 1) := by decide +kernel
theorem dX7_barAt_84 : decode cX7_barAt 84 = .ok (.iload_n 1, 1) := by decide +kernel
theorem dX7_barAt_85 : decode cX7_barAt 85 = .ok (.invokevirtual 112, 3) := by decide +kernel
theorem dX7_barAt_88 : decode cX7_barAt 88 = .ok (.iload_n 3, 1) := by decide +kernel
theorem dX7_barAt_89 : decode cX7_barAt 89 = .ok (.if_icmp .ne 7, 3) := by decide +kernel
theorem dX7_barAt_92 : decode cX7_barAt 92 = .ok (.iconst 1, 1) := by decide +kernel
theorem dX7_barAt_93 : decode cX7_barAt 93 = .ok (.goto 4, 3) := by decide +kernel
theorem dX7_barAt_96 : decode cX7_barAt 96 = .ok (.iconst 0, 1) := by decide +kernel
theorem dX7_barAt_97 : decode cX7_barAt 97 = .ok (.ireturn, 1) := by decide +kernel
theorem dX7_neighbours_0 : decode cX7_neighbours 0 = .ok (.iconst 0, 1) := by decide +kernel
theorem dX7_neighbours_1 : decode cX7_neighbours 1 = .ok (.istore_n 2, 1) := by decide +kernel
theorem dX7_neighbours_2 : decode cX7_neighbours 2 = .ok (.iconst 0, 1) := by decide +kernel
theorem dX7_neighbours_3 : decode cX7_neighbours 3 = .ok (.istore_n 3, 1) := by decide +kernel
theorem dX7_neighbours_4 : decode cX7_neighbours 4 = .ok (.iload_n 3, 1) := by decide +kernel
theorem dX7_neighbours_5 : decode cX7_neighbours 5 = .ok (.aload_n 0, 1) := by decide +kernel
theorem dX7_neighbours_6 : decode cX7_neighbours 6 = .ok (.getfield 106, 3) := by decide +kernel
theorem dX7_neighbours_9 : decode cX7_neighbours 9 = .ok (.if_icmp .ge 55, 3) := by decide +kernel
theorem dX7_neighbours_12 : decode cX7_neighbours 12 = .ok (.iload_n 2, 1) := by decide +kernel
theorem dX7_neighbours_13 : decode cX7_neighbours 13 = .ok (.aload_n 0, 1) := by decide +kernel
theorem dX7_neighbours_14 : decode cX7_neighbours 14 = .ok (.getfield 13, 3) := by decide +kernel
theorem dX7_neighbours_17 : decode cX7_neighbours 17 = .ok (.iload_n 3, 1) := by decide +kernel
theorem dX7_neighbours_18 : decode cX7_neighbours 18 = .ok (.iaload, 1) := by decide +kernel
theorem dX7_neighbours_19 : decode cX7_neighbours 19 = .ok (.iload_n 1, 1) := by decide +kernel
theorem dX7_neighbours_20 : decode cX7_neighbours 20 = .ok (.if_icmp .ne 14, 3) := by decide +kernel
theorem dX7_neighbours_23 : decode cX7_neighbours 23 = .ok (.iconst 1, 1) := by decide +kernel
theorem dX7_neighbours_24 : decode cX7_neighbours 24 = .ok (.aload_n 0, 1) := by decide +kernel
theorem dX7_neighbours_25 : decode cX7_neighbours 25 = .ok (.getfield 16, 3) := by decide +kernel
theorem dX7_neighbours_28 : decode cX7_neighbours 28 = .ok (.iload_n 3, 1) := by decide +kernel
theorem dX7_neighbours_29 : decode cX7_neighbours 29 = .ok (.iaload, 1) := by decide +kernel
theorem dX7_neighbours_30 : decode cX7_neighbours 30 = .ok (.ishl, 1) := by decide +kernel
theorem dX7_neighbours_31 : decode cX7_neighbours 31 = .ok (.goto 25, 3) := by decide +kernel
theorem dX7_neighbours_34 : decode cX7_neighbours 34 = .ok (.aload_n 0, 1) := by decide +kernel
theorem dX7_neighbours_35 : decode cX7_neighbours 35 = .ok (.getfield 16, 3) := by decide +kernel
theorem dX7_neighbours_38 : decode cX7_neighbours 38 = .ok (.iload_n 3, 1) := by decide +kernel
theorem dX7_neighbours_39 : decode cX7_neighbours 39 = .ok (.iaload, 1) := by decide +kernel
theorem dX7_neighbours_40 : decode cX7_neighbours 40 = .ok (.iload_n 1, 1) := by decide +kernel
theorem dX7_neighbours_41 : decode cX7_neighbours 41 = .ok (.if_icmp .ne 14, 3) := by decide +kernel
theorem dX7_neighbours_44 : decode cX7_neighbours 44 = .ok (.iconst 1, 1) := by decide +kernel
theorem dX7_neighbours_45 : decode cX7_neighbours 45 = .ok (.aload_n 0, 1) := by decide +kernel
theorem dX7_neighbours_46 : decode cX7_neighbours 46 = .ok (.getfield 13, 3) := by decide +kernel
theorem dX7_neighbours_49 : decode cX7_neighbours 49 = .ok (.iload_n 3, 1) := by decide +kernel
theorem dX7_neighbours_50 : decode cX7_neighbours 50 = .ok (.iaload, 1) := by decide +kernel
theorem dX7_neighbours_51 : decode cX7_neighbours 51 = .ok (.ishl, 1) := by decide +kernel
theorem dX7_neighbours_52 : decode cX7_neighbours 52 = .ok (.goto 4, 3) := by decide +kernel
theorem dX7_neighbours_55 : decode cX7_neighbours 55 = .ok (.iconst 0, 1) := by decide +kernel
theorem dX7_neighbours_56 : decode cX7_neighbours 56 = .ok (.ior, 1) := by decide +kernel
theorem dX7_neighbours_57 : decode cX7_neighbours 57 = .ok (.istore_n 2, 1) := by decide +kernel
theorem dX7_neighbours_58 : decode cX7_neighbours 58 = .ok (.iinc 3 1, 3) := by decide +kernel
theorem dX7_neighbours_61 : decode cX7_neighbours 61 = .ok (.goto (-57), 3) := by decide +kernel
theorem dX7_neighbours_64 : decode cX7_neighbours 64 = .ok (.iload_n 2, 1) := by decide +kernel
theorem dX7_neighbours_65 : decode cX7_neighbours 65 = .ok (.ireturn, 1) := by decide +kernel
theorem dX7_lettersOf_0 : decode cX7_lettersOf 0 = .ok (.iconst 0, 1) := by decide +kernel
theorem dX7_lettersOf_1 : decode cX7_lettersOf 1 = .ok (.istore_n 2, 1) := by decide +kernel
theorem dX7_lettersOf_2 : decode cX7_lettersOf 2 = .ok (.iload_n 2, 1) := by decide +kernel
theorem dX7_lettersOf_3 : decode cX7_lettersOf 3 = .ok (.iconst 4, 1) := by decide +kernel
theorem dX7_lettersOf_4 : decode cX7_lettersOf 4 = .ok (.if_icmp .ge 22, 3) := by decide +kernel
theorem dX7_lettersOf_7 : decode cX7_lettersOf 7 = .ok (.aload_n 0, 1) := by decide +kernel
theorem dX7_lettersOf_8 : decode cX7_lettersOf 8 = .ok (.getfield 9, 3) := by decide +kernel
theorem dX7_lettersOf_11 : decode cX7_lettersOf 11 = .ok (.iconst 4, 1) := by decide +kernel
theorem dX7_lettersOf_12 : decode cX7_lettersOf 12 = .ok (.iload_n 1, 1) := by decide +kernel
theorem dX7_lettersOf_13 : decode cX7_lettersOf 13 = .ok (.imul, 1) := by decide +kernel
theorem dX7_lettersOf_14 : decode cX7_lettersOf 14 = .ok (.iload_n 2, 1) := by decide +kernel
theorem dX7_lettersOf_15 : decode cX7_lettersOf 15 = .ok (.iadd, 1) := by decide +kernel
theorem dX7_lettersOf_16 : decode cX7_lettersOf 16 = .ok (.iaload, 1) := by decide +kernel
theorem dX7_lettersOf_17 : decode cX7_lettersOf 17 = .ok (.ifCond .eq 9, 3) := by decide +kernel
theorem dX7_lettersOf_20 : decode cX7_lettersOf 20 = .ok (.iinc 2 1, 3) := by decide +kernel
theorem dX7_lettersOf_23 : decode cX7_lettersOf 23 = .ok (.goto (-21), 3) := by decide +kernel
theorem dX7_lettersOf_26 : decode cX7_lettersOf 26 = .ok (.iload_n 2, 1) := by decide +kernel
theorem dX7_lettersOf_27 : decode cX7_lettersOf 27 = .ok (.ireturn, 1) := by decide +kernel
theorem dX7_partsOf_0 : decode cX7_partsOf 0 = .ok (.aload_n 0, 1) := by decide +kernel
theorem dX7_partsOf_1 : decode cX7_partsOf 1 = .ok (.invokevirtual 142, 3) := by decide +kernel
theorem dX7_partsOf_4 : decode cX7_partsOf 4 = .ok (.iconst 0, 1) := by decide +kernel
theorem dX7_partsOf_5 : decode cX7_partsOf 5 = .ok (.istore_n 2, 1) := by decide +kernel
theorem dX7_partsOf_6 : decode cX7_partsOf 6 = .ok (.iconst 0, 1) := by decide +kernel
theorem dX7_partsOf_7 : decode cX7_partsOf 7 = .ok (.istore_n 3, 1) := by decide +kernel
theorem dX7_partsOf_8 : decode cX7_partsOf 8 = .ok (.iload_n 3, 1) := by decide +kernel
theorem dX7_partsOf_9 : decode cX7_partsOf 9 = .ok (.aload_n 0, 1) := by decide +kernel
theorem dX7_partsOf_10 : decode cX7_partsOf 10 = .ok (.getfield 139, 3) := by decide +kernel
theorem dX7_partsOf_13 : decode cX7_partsOf 13 = .ok (.if_icmp .ge 22, 3) := by decide +kernel
theorem dX7_partsOf_16 : decode cX7_partsOf 16 = .ok (.iload_n 2, 1) := by decide +kernel
theorem dX7_partsOf_17 : decode cX7_partsOf 17 = .ok (.aload_n 0, 1) := by decide +kernel
theorem dX7_partsOf_18 : decode cX7_partsOf 18 = .ok (.getfield 50, 3) := by decide +kernel
theorem dX7_partsOf_21 : decode cX7_partsOf 21 = .ok (.iload_n 3, 1) := by decide +kernel
theorem dX7_partsOf_22 : decode cX7_partsOf 22 = .ok (.iaload, 1) := by decide +kernel
theorem dX7_partsOf_23 : decode cX7_partsOf 23 = .ok (.iload_n 1, 1) := by decide +kernel
theorem dX7_partsOf_24 : decode cX7_partsOf 24 = .ok (.ishr, 1) := by decide +kernel
theorem dX7_partsOf_25 : decode cX7_partsOf 25 = .ok (.iconst 1, 1) := by decide +kernel
theorem dX7_partsOf_26 : decode cX7_partsOf 26 = .ok (.iand, 1) := by decide +kernel
theorem dX7_partsOf_27 : decode cX7_partsOf 27 = .ok (.iadd, 1) := by decide +kernel
theorem dX7_partsOf_28 : decode cX7_partsOf 28 = .ok (.istore_n 2, 1) := by decide +kernel
theorem dX7_partsOf_29 : decode cX7_partsOf 29 = .ok (.iinc 3 1, 3) := by decide +kernel
theorem dX7_partsOf_32 : decode cX7_partsOf 32 = .ok (.goto (-24), 3) := by decide +kernel
theorem dX7_partsOf_35 : decode cX7_partsOf 35 = .ok (.iload_n 2, 1) := by decide +kernel
theorem dX7_partsOf_36 : decode cX7_partsOf 36 = .ok (.ireturn, 1) := by decide +kernel
theorem dX7_pin_0 : decode cX7_pin 0 = .ok (.aload_n 0, 1) := by decide +kernel
theorem dX7_pin_1 : decode cX7_pin 1 = .ok (.iload_n 1, 1) := by decide +kernel
theorem dX7_pin_2 : decode cX7_pin 2 = .ok (.invokevirtual 79, 3) := by decide +kernel
theorem dX7_pin_5 : decode cX7_pin 5 = .ok (.ifCond .ne 6, 3) := by decide +kernel
theorem dX7_pin_8 : decode cX7_pin 8 = .ok (.bipush (-2), 2) := by decide +kernel
theorem dX7_pin_10 : decode cX7_pin 10 = .ok (.ireturn, 1) := by decide +kernel
theorem dX7_pin_11 : decode cX7_pin 11 = .ok (.iload_n 2, 1) := by decide +kernel
theorem dX7_pin_12 : decode cX7_pin 12 = .ok (.bipush 10, 2) := by decide +kernel
theorem dX7_pin_14 : decode cX7_pin 14 = .ok (.bipush 13, 2) := by decide +kernel
theorem dX7_pin_16 : decode cX7_pin 16 = .ok (.invokestatic 75, 3) := by decide +kernel
theorem dX7_pin_19 : decode cX7_pin 19 = .ok (.ifCond .eq 33, 3) := by decide +kernel
theorem dX7_pin_22 : decode cX7_pin 22 = .ok (.iload_n 2, 1) := by decide +kernel
theorem dX7_pin_23 : decode cX7_pin 23 = .ok (.bipush 10, 2) := by decide +kernel
theorem dX7_pin_25 : decode cX7_pin 25 = .ok (.isub, 1) := by decide +kernel
theorem dX7_pin_26 : decode cX7_pin 26 = .ok (.aload_n 0, 1) := by decide +kernel
theorem dX7_pin_27 : decode cX7_pin 27 = .ok (.iload_n 1, 1) := by decide +kernel
theorem dX7_pin_28 : decode cX7_pin 28 = .ok (.invokevirtual 158, 3) := by decide +kernel
theorem dX7_pin_31 : decode cX7_pin 31 = .ok (.if_icmp .ge 19, 3) := by decide +kernel
theorem dX7_pin_34 : decode cX7_pin 34 = .ok (.aload_n 0, 1) := by decide +kernel
theorem dX7_pin_35 : decode cX7_pin 35 = .ok (.getfield 9, 3) := by decide +kernel
theorem dX7_pin_38 : decode cX7_pin 38 = .ok (.iconst 4, 1) := by decide +kernel
theorem dX7_pin_39 : decode cX7_pin 39 = .ok (.iload_n 1, 1) := by decide +kernel
theorem dX7_pin_40 : decode cX7_pin 40 = .ok (.imul, 1) := by decide +kernel
theorem dX7_pin_41 : decode cX7_pin 41 = .ok (.iload_n 2, 1) := by decide +kernel
theorem dX7_pin_42 : decode cX7_pin 42 = .ok (.iadd, 1) := by decide +kernel
theorem dX7_pin_43 : decode cX7_pin 43 = .ok (.bipush 10, 2) := by decide +kernel
theorem dX7_pin_45 : decode cX7_pin 45 = .ok (.isub, 1) := by decide +kernel
theorem dX7_pin_46 : decode cX7_pin 46 = .ok (.iaload, 1) := by decide +kernel
theorem dX7_pin_47 : decode cX7_pin 47 = .ok (.goto 4, 3) := by decide +kernel
theorem dX7_pin_50 : decode cX7_pin 50 = .ok (.iconst (-1), 1) := by decide +kernel
theorem dX7_pin_51 : decode cX7_pin 51 = .ok (.ireturn, 1) := by decide +kernel
theorem dX7_pin_52 : decode cX7_pin 52 = .ok (.iload_n 2, 1) := by decide +kernel
theorem dX7_pin_53 : decode cX7_pin 53 = .ok (.tableswitch 58 0 3 #[31, 40, 46, 52], 31) := by decide +kernel
theorem dX7_pin_84 : decode cX7_pin 84 = .ok (.aload_n 0, 1) := by decide +kernel
theorem dX7_pin_85 : decode cX7_pin 85 = .ok (.iload_n 1, 1) := by decide +kernel
theorem dX7_pin_86 : decode cX7_pin 86 = .ok (.invokevirtual 161, 3) := by decide +kernel
theorem dX7_pin_89 : decode cX7_pin 89 = .ok (.invokestatic 164, 3) := by decide +kernel
theorem dX7_pin_92 : decode cX7_pin 92 = .ok (.ireturn, 1) := by decide +kernel
theorem dX7_pin_93 : decode cX7_pin 93 = .ok (.aload_n 0, 1) := by decide +kernel
theorem dX7_pin_94 : decode cX7_pin 94 = .ok (.iload_n 1, 1) := by decide +kernel
theorem dX7_pin_95 : decode cX7_pin 95 = .ok (.invokevirtual 161, 3) := by decide +kernel
theorem dX7_pin_98 : decode cX7_pin 98 = .ok (.ireturn, 1) := by decide +kernel
theorem dX7_pin_99 : decode cX7_pin 99 = .ok (.aload_n 0, 1) := by decide +kernel
theorem dX7_pin_100 : decode cX7_pin 100 = .ok (.iload_n 1, 1) := by decide +kernel
theorem dX7_pin_101 : decode cX7_pin 101 = .ok (.invokevirtual 167, 3) := by decide +kernel
theorem dX7_pin_104 : decode cX7_pin 104 = .ok (.ireturn, 1) := by decide +kernel
theorem dX7_pin_105 : decode cX7_pin 105 = .ok (.aload_n 0, 1) := by decide +kernel
theorem dX7_pin_106 : decode cX7_pin 106 = .ok (.iload_n 1, 1) := by decide +kernel
theorem dX7_pin_107 : decode cX7_pin 107 = .ok (.invokevirtual 158, 3) := by decide +kernel
theorem dX7_pin_110 : decode cX7_pin 110 = .ok (.ireturn, 1) := by decide +kernel
theorem dX7_pin_111 : decode cX7_pin 111 = .ok (.bipush (-2), 2) := by decide +kernel
theorem dX7_pin_113 : decode cX7_pin 113 = .ok (.ireturn, 1) := by decide +kernel
theorem dX7_wouldCarry_0 : decode cX7_wouldCarry 0 = .ok (.aload_n 0, 1) := by decide +kernel
theorem dX7_wouldCarry_1 : decode cX7_wouldCarry 1 = .ok (.invokevirtual 103, 3) := by decide +kernel
theorem dX7_wouldCarry_4 : decode cX7_wouldCarry 4 = .ok (.iconst 0, 1) := by decide +kernel
theorem dX7_wouldCarry_5 : decode cX7_wouldCarry 5 = .ok (.istore_n 3, 1) := by decide +kernel
theorem dX7_wouldCarry_6 : decode cX7_wouldCarry 6 = .ok (.iload_n 3, 1) := by decide +kernel
theorem dX7_wouldCarry_7 : decode cX7_wouldCarry 7 = .ok (.iload_n 1, 1) := by decide +kernel
theorem dX7_wouldCarry_8 : decode cX7_wouldCarry 8 = .ok (.if_icmp .ge 40, 3) := by decide +kernel
theorem dX7_wouldCarry_11 : decode cX7_wouldCarry 11 = .ok (.aload_n 0, 1) := by decide +kernel
theorem dX7_wouldCarry_12 : decode cX7_wouldCarry 12 = .ok (.getfield 37, 3) := by decide +kernel
theorem dX7_wouldCarry_15 : decode cX7_wouldCarry 15 = .ok (.iload_n 3, 1) := by decide +kernel
theorem dX7_wouldCarry_16 : decode cX7_wouldCarry 16 = .ok (.baload, 1) := by decide +kernel
theorem dX7_wouldCarry_17 : decode cX7_wouldCarry 17 = .ok (.ifCond .eq 25, 3) := by decide +kernel
theorem dX7_wouldCarry_20 : decode cX7_wouldCarry 20 = .ok (.iload_n 3, 1) := by decide +kernel
theorem dX7_wouldCarry_21 : decode cX7_wouldCarry 21 = .ok (.iload_n 2, 1) := by decide +kernel
theorem dX7_wouldCarry_22 : decode cX7_wouldCarry 22 = .ok (.if_icmp .eq 20, 3) := by decide +kernel
theorem dX7_wouldCarry_25 : decode cX7_wouldCarry 25 = .ok (.aload_n 0, 1) := by decide +kernel
theorem dX7_wouldCarry_26 : decode cX7_wouldCarry 26 = .ok (.aload_n 0, 1) := by decide +kernel
theorem dX7_wouldCarry_27 : decode cX7_wouldCarry 27 = .ok (.getfield 13, 3) := by decide +kernel
theorem dX7_wouldCarry_30 : decode cX7_wouldCarry 30 = .ok (.iload_n 3, 1) := by decide +kernel
theorem dX7_wouldCarry_31 : decode cX7_wouldCarry 31 = .ok (.iaload, 1) := by decide +kernel
theorem dX7_wouldCarry_32 : decode cX7_wouldCarry 32 = .ok (.aload_n 0, 1) := by decide +kernel
theorem dX7_wouldCarry_33 : decode cX7_wouldCarry 33 = .ok (.getfield 16, 3) := by decide +kernel
theorem dX7_wouldCarry_36 : decode cX7_wouldCarry 36 = .ok (.iload_n 3, 1) := by decide +kernel
theorem dX7_wouldCarry_37 : decode cX7_wouldCarry 37 = .ok (.iaload, 1) := by decide +kernel
theorem dX7_wouldCarry_38 : decode cX7_wouldCarry 38 = .ok (.invokevirtual 109, 3) := by decide +kernel
theorem dX7_wouldCarry_41 : decode cX7_wouldCarry 41 = .ok (.pop, 1) := by decide +kernel
theorem dX7_wouldCarry_42 : decode cX7_wouldCarry 42 = .ok (.iinc 3 1, 3) := by decide +kernel
theorem dX7_wouldCarry_45 : decode cX7_wouldCarry 45 = .ok (.goto (-39), 3) := by decide +kernel
theorem dX7_wouldCarry_48 : decode cX7_wouldCarry 48 = .ok (.aload_n 0, 1) := by decide +kernel
theorem dX7_wouldCarry_49 : decode cX7_wouldCarry 49 = .ok (.aload_n 0, 1) := by decide +kernel
theorem dX7_wouldCarry_50 : decode cX7_wouldCarry 50 = .ok (.getfield 13, 3) := by decide +kernel
theorem dX7_wouldCarry_53 : decode cX7_wouldCarry 53 = .ok (.iload_n 1, 1) := by decide +kernel
theorem dX7_wouldCarry_54 : decode cX7_wouldCarry 54 = .ok (.iaload, 1) := by decide +kernel
theorem dX7_wouldCarry_55 : decode cX7_wouldCarry 55 = .ok (.aload_n 0, 1) := by decide +kernel
theorem dX7_wouldCarry_56 : decode cX7_wouldCarry 56 = .ok (.getfield 16, 3) := by decide +kernel
theorem dX7_wouldCarry_59 : decode cX7_wouldCarry 59 = .ok (.iload_n 1, 1) := by decide +kernel
theorem dX7_wouldCarry_60 : decode cX7_wouldCarry 60 = .ok (.iaload, 1) := by decide +kernel
theorem dX7_wouldCarry_61 : decode cX7_wouldCarry 61 = .ok (.invokevirtual 99, 3) := by decide +kernel
theorem dX7_wouldCarry_64 : decode cX7_wouldCarry 64 = .ok (.ireturn, 1) := by decide +kernel
theorem dX7_ring_0 : decode cX7_ring 0 = .ok (.iload_n 1, 1) := by decide +kernel
theorem dX7_ring_1 : decode cX7_ring 1 = .ok (.iconst 0, 1) := by decide +kernel
theorem dX7_ring_2 : decode cX7_ring 2 = .ok (.aload_n 0, 1) := by decide +kernel
theorem dX7_ring_3 : decode cX7_ring 3 = .ok (.getfield 106, 3) := by decide +kernel
theorem dX7_ring_6 : decode cX7_ring 6 = .ok (.iconst 1, 1) := by decide +kernel
theorem dX7_ring_7 : decode cX7_ring 7 = .ok (.isub, 1) := by decide +kernel
theorem dX7_ring_8 : decode cX7_ring 8 = .ok (.invokestatic 75, 3) := by decide +kernel
theorem dX7_ring_11 : decode cX7_ring 11 = .ok (.ifCond .ne 6, 3) := by decide +kernel
theorem dX7_ring_14 : decode cX7_ring 14 = .ok (.bipush (-12), 2) := by decide +kernel
theorem dX7_ring_16 : decode cX7_ring 16 = .ok (.ireturn, 1) := by decide +kernel
theorem dX7_ring_17 : decode cX7_ring 17 = .ok (.aload_n 0, 1) := by decide +kernel
theorem dX7_ring_18 : decode cX7_ring 18 = .ok (.invokevirtual 133, 3) := by decide +kernel
theorem dX7_ring_21 : decode cX7_ring 21 = .ok (.aload_n 0, 1) := by decide +kernel
theorem dX7_ring_22 : decode cX7_ring 22 = .ok (.getfield 37, 3) := by decide +kernel
theorem dX7_ring_25 : decode cX7_ring 25 = .ok (.iload_n 1, 1) := by decide +kernel
theorem dX7_ring_26 : decode cX7_ring 26 = .ok (.baload, 1) := by decide +kernel
theorem dX7_ring_27 : decode cX7_ring 27 = .ok (.ifCond .eq 6, 3) := by decide +kernel
theorem dX7_ring_30 : decode cX7_ring 30 = .ok (.bipush (-3), 2) := by decide +kernel
theorem dX7_ring_32 : decode cX7_ring 32 = .ok (.ireturn, 1) := by decide +kernel
theorem dX7_ring_33 : decode cX7_ring 33 = .ok (.iconst 1, 1) := by decide +kernel
theorem dX7_ring_34 : decode cX7_ring 34 = .ok (.iload_n 1, 1) := by decide +kernel
theorem dX7_ring_35 : decode cX7_ring 35 = .ok (.ishl, 1) := by decide +kernel
theorem dX7_ring_36 : decode cX7_ring 36 = .ok (.istore_n 2, 1) := by decide +kernel
theorem dX7_ring_37 : decode cX7_ring 37 = .ok (.iconst 0, 1) := by decide +kernel
theorem dX7_ring_38 : decode cX7_ring 38 = .ok (.istore_n 3, 1) := by decide +kernel
theorem dX7_ring_39 : decode cX7_ring 39 = .ok (.iload_n 3, 1) := by decide +kernel
theorem dX7_ring_40 : decode cX7_ring 40 = .ok (.iload_n 1, 1) := by decide +kernel
theorem dX7_ring_41 : decode cX7_ring 41 = .ok (.if_icmp .ge 33, 3) := by decide +kernel
theorem dX7_ring_44 : decode cX7_ring 44 = .ok (.aload_n 0, 1) := by decide +kernel
theorem dX7_ring_45 : decode cX7_ring 45 = .ok (.getfield 37, 3) := by decide +kernel
theorem dX7_ring_48 : decode cX7_ring 48 = .ok (.iload_n 3, 1) := by decide +kernel
theorem dX7_ring_49 : decode cX7_ring 49 = .ok (.baload, 1) := by decide +kernel
theorem dX7_ring_50 : decode cX7_ring 50 = .ok (.ifCond .eq 18, 3) := by decide +kernel
theorem dX7_ring_53 : decode cX7_ring 53 = .ok (.aload_n 0, 1) := by decide +kernel
theorem dX7_ring_54 : decode cX7_ring 54 = .ok (.iload_n 1, 1) := by decide +kernel
theorem dX7_ring_55 : decode cX7_ring 55 = .ok (.iload_n 3, 1) := by decide +kernel
theorem dX7_ring_56 : decode cX7_ring 56 = .ok (.invokevirtual 170, 3) := by decide +kernel
theorem dX7_ring_59 : decode cX7_ring 59 = .ok (.ifCond .eq 9, 3) := by decide +kernel
theorem dX7_ring_62 : decode cX7_ring 62 = .ok (.iload_n 2, 1) := by decide +kernel
theorem dX7_ring_63 : decode cX7_ring 63 = .ok (.iconst 1, 1) := by decide +kernel
theorem dX7_ring_64 : decode cX7_ring 64 = .ok (.iload_n 3, 1) := by decide +kernel
theorem dX7_ring_65 : decode cX7_ring 65 = .ok (.ishl, 1) := by decide +kernel
theorem dX7_ring_66 : decode cX7_ring 66 = .ok (.ior, 1) := by decide +kernel
theorem dX7_ring_67 : decode cX7_ring 67 = .ok (.istore_n 2, 1) := by decide +kernel
theorem dX7_ring_68 : decode cX7_ring 68 = .ok (.iinc 3 1, 3) := by decide +kernel
theorem dX7_ring_71 : decode cX7_ring 71 = .ok (.goto (-32), 3) := by decide +kernel
theorem dX7_ring_74 : decode cX7_ring 74 = .ok (.iload_n 2, 1) := by decide +kernel
theorem dX7_ring_75 : decode cX7_ring 75 = .ok (.ireturn, 1) := by decide +kernel
theorem dX7_worst_0 : decode cX7_worst 0 = .ok (.iload_n 1, 1) := by decide +kernel
theorem dX7_worst_1 : decode cX7_worst 1 = .ok (.iconst 0, 1) := by decide +kernel
theorem dX7_worst_2 : decode cX7_worst 2 = .ok (.iconst 1, 1) := by decide +kernel
theorem dX7_worst_3 : decode cX7_worst 3 = .ok (.invokestatic 75, 3) := by decide +kernel
theorem dX7_worst_6 : decode cX7_worst 6 = .ok (.ifCond .ne 6, 3) := by decide +kernel
theorem dX7_worst_9 : decode cX7_worst 9 = .ok (.bipush (-2), 2) := by decide +kernel
theorem dX7_worst_11 : decode cX7_worst 11 = .ok (.ireturn, 1) := by decide +kernel
theorem dX7_worst_12 : decode cX7_worst 12 = .ok (.aload_n 0, 1) := by decide +kernel
theorem dX7_worst_13 : decode cX7_worst 13 = .ok (.getfield 71, 3) := by decide +kernel
theorem dX7_worst_16 : decode cX7_worst 16 = .ok (.iconst 2, 1) := by decide +kernel
theorem dX7_worst_17 : decode cX7_worst 17 = .ok (.if_icmp .ge 6, 3) := by decide +kernel
theorem dX7_worst_20 : decode cX7_worst 20 = .ok (.bipush (-3), 2) := by decide +kernel
theorem dX7_worst_22 : decode cX7_worst 22 = .ok (.ireturn, 1) := by decide +kernel
theorem dX7_worst_23 : decode cX7_worst 23 = .ok (.iconst 0, 1) := by decide +kernel
theorem dX7_worst_24 : decode cX7_worst 24 = .ok (.istore_n 2, 1) := by decide +kernel
theorem dX7_worst_25 : decode cX7_worst 25 = .ok (.iconst 0, 1) := by decide +kernel
theorem dX7_worst_26 : decode cX7_worst 26 = .ok (.istore_n 3, 1) := by decide +kernel
theorem dX7_worst_27 : decode cX7_worst 27 = .ok (.iconst 0, 1) := by decide +kernel
theorem dX7_worst_28 : decode cX7_worst 28 = .ok (.istore 4, 2) := by decide +kernel
theorem dX7_worst_30 : decode cX7_worst 30 = .ok (.iload 4, 2) := by decide +kernel
theorem dX7_worst_32 : decode cX7_worst 32 = .ok (.iconst 1, 1) := by decide +kernel
theorem dX7_worst_33 : decode cX7_worst 33 = .ok (.aload_n 0, 1) := by decide +kernel
theorem dX7_worst_34 : decode cX7_worst 34 = .ok (.getfield 71, 3) := by decide +kernel
theorem dX7_worst_37 : decode cX7_worst 37 = .ok (.ishl, 1) := by decide +kernel
theorem dX7_worst_38 : decode cX7_worst 38 = .ok (.if_icmp .ge 113, 3) := by decide +kernel
theorem dX7_worst_41 : decode cX7_worst 41 = .ok (.iload 4, 2) := by decide +kernel
theorem dX7_worst_43 : decode cX7_worst 43 = .ok (.invokestatic 164, 3) := by decide +kernel
theorem dX7_worst_46 : decode cX7_worst 46 = .ok (.istore 5, 2) := by decide +kernel
theorem dX7_worst_48 : decode cX7_worst 48 = .ok (.iload 5, 2) := by decide +kernel
theorem dX7_worst_50 : decode cX7_worst 50 = .ok (.iconst 2, 1) := by decide +kernel
theorem dX7_worst_51 : decode cX7_worst 51 = .ok (.if_icmp .ge 6, 3) := by decide +kernel
theorem dX7_worst_54 : decode cX7_worst 54 = .ok (.goto 91, 3) := by decide +kernel
theorem dX7_worst_57 : decode cX7_worst 57 = .ok (.iconst 3, 1) := by decide +kernel
theorem dX7_worst_58 : decode cX7_worst 58 = .ok (.iconst 2, 1) := by decide +kernel
theorem dX7_worst_59 : decode cX7_worst 59 = .ok (.iload 5, 2) := by decide +kernel
theorem dX7_worst_61 : decode cX7_worst 61 = .ok (.imul, 1) := by decide +kernel
theorem dX7_worst_62 : decode cX7_worst 62 = .ok (.isub, 1) := by decide +kernel
theorem dX7_worst_63 : decode cX7_worst 63 = .ok (.istore 6, 2) := by decide +kernel
theorem dX7_worst_65 : decode cX7_worst 65 = .ok (.iconst 0, 1) := by decide +kernel
theorem dX7_worst_66 : decode cX7_worst 66 = .ok (.istore 7, 2) := by decide +kernel
theorem dX7_worst_68 : decode cX7_worst 68 = .ok (.iload 7, 2) := by decide +kernel
theorem dX7_worst_70 : decode cX7_worst 70 = .ok (.aload_n 0, 1) := by decide +kernel
theorem dX7_worst_71 : decode cX7_worst 71 = .ok (.getfield 106, 3) := by decide +kernel
theorem dX7_worst_74 : decode cX7_worst 74 = .ok (.if_icmp .ge 37, 3) := by decide +kernel
theorem dX7_worst_77 : decode cX7_worst 77 = .ok (.iload 6, 2) := by decide +kernel
theorem dX7_worst_79 : decode cX7_worst 79 = .ok (.iload 4, 2) := by decide +kernel
theorem dX7_worst_81 : decode cX7_worst 81 = .ok (.aload_n 0, 1) := by decide +kernel
theorem dX7_worst_82 : decode cX7_worst 82 = .ok (.getfield 13, 3) := by decide +kernel
theorem dX7_worst_85 : decode cX7_worst 85 = .ok (.iload 7, 2) := by decide +kernel
theorem dX7_worst_87 : decode cX7_worst 87 = .ok (.iaload, 1) := by decide +kernel
theorem dX7_worst_88 : decode cX7_worst 88 = .ok (.ishr, 1) := by decide +kernel
theorem dX7_worst_89 : decode cX7_worst 89 = .ok (.iload 4, 2) := by decide +kernel
theorem dX7_worst_91 : decode cX7_worst 91 = .ok (.aload_n 0, 1) := by decide +kernel
theorem dX7_worst_92 : decode cX7_worst 92 = .ok (.getfield 16, 3) := by decide +kernel
theorem dX7_worst_95 : decode cX7_worst 95 = .ok (.iload 7, 2) := by decide +kernel
theorem dX7_worst_97 : decode cX7_worst 97 = .ok (.iaload, 1) := by decide +kernel
theorem dX7_worst_98 : decode cX7_worst 98 = .ok (.ishr, 1) := by decide +kernel
theorem dX7_worst_99 : decode cX7_worst 99 = .ok (.iand, 1) := by decide +kernel
theorem dX7_worst_100 : decode cX7_worst 100 = .ok (.iconst 1, 1) := by decide +kernel
theorem dX7_worst_101 : decode cX7_worst 101 = .ok (.iand, 1) := by decide +kernel
theorem dX7_worst_102 : decode cX7_worst 102 = .ok (.iadd, 1) := by decide +kernel
theorem dX7_worst_103 : decode cX7_worst 103 = .ok (.istore 6, 2) := by decide +kernel
theorem dX7_worst_105 : decode cX7_worst 105 = .ok (.iinc 7 1, 3) := by decide +kernel
theorem dX7_worst_108 : decode cX7_worst 108 = .ok (.goto (-40), 3) := by decide +kernel
theorem dX7_worst_111 : decode cX7_worst 111 = .ok (.iload_n 2, 1) := by decide +kernel
theorem dX7_worst_112 : decode cX7_worst 112 = .ok (.ifCond .eq 27, 3) := by decide +kernel
theorem dX7_worst_115 : decode cX7_worst 115 = .ok (.iload 6, 2) := by decide +kernel
theorem dX7_worst_117 : decode cX7_worst 117 = .ok (.iload_n 3, 1) := by decide +kernel
theorem dX7_worst_118 : decode cX7_worst 118 = .ok (.if_icmp .lt 27, 3) := by decide +kernel
theorem dX7_worst_121 : decode cX7_worst 121 = .ok (.iload 6, 2) := by decide +kernel
theorem dX7_worst_123 : decode cX7_worst 123 = .ok (.iload_n 3, 1) := by decide +kernel
theorem dX7_worst_124 : decode cX7_worst 124 = .ok (.if_icmp .ne 15, 3) := by decide +kernel
theorem dX7_worst_127 : decode cX7_worst 127 = .ok (.iload 5, 2) := by decide +kernel
theorem dX7_worst_129 : decode cX7_worst 129 = .ok (.iload_n 2, 1) := by decide +kernel
theorem dX7_worst_130 : decode cX7_worst 130 = .ok (.invokestatic 164, 3) := by decide +kernel
theorem dX7_worst_133 : decode cX7_worst 133 = .ok (.if_icmp .lt 6, 3) := by decide +kernel
theorem dX7_worst_136 : decode cX7_worst 136 = .ok (.goto 9, 3) := by decide +kernel
theorem dX7_worst_139 : decode cX7_worst 139 = .ok (.iload 4, 2) := by decide +kernel
theorem dX7_worst_141 : decode cX7_worst 141 = .ok (.istore_n 2, 1) := by decide +kernel
theorem dX7_worst_142 : decode cX7_worst 142 = .ok (.iload 6, 2) := by decide +kernel
theorem dX7_worst_144 : decode cX7_worst 144 = .ok (.istore_n 3, 1) := by decide +kernel
theorem dX7_worst_145 : decode cX7_worst 145 = .ok (.iinc 4 1, 3) := by decide +kernel
theorem dX7_worst_148 : decode cX7_worst 148 = .ok (.goto (-118), 3) := by decide +kernel
theorem dX7_worst_151 : decode cX7_worst 151 = .ok (.iload_n 1, 1) := by decide +kernel
theorem dX7_worst_152 : decode cX7_worst 152 = .ok (.ifCond .ne 11, 3) := by decide +kernel
theorem dX7_worst_155 : decode cX7_worst 155 = .ok (.sipush 1000, 3) := by decide +kernel
theorem dX7_worst_158 : decode cX7_worst 158 = .ok (.iload_n 3, 1) := by decide +kernel
theorem dX7_worst_159 : decode cX7_worst 159 = .ok (.iadd, 1) := by decide +kernel
theorem dX7_worst_160 : decode cX7_worst 160 = .ok (.goto 4, 3) := by decide +kernel
theorem dX7_worst_163 : decode cX7_worst 163 = .ok (.iload_n 2, 1) := by decide +kernel
theorem dX7_worst_164 : decode cX7_worst 164 = .ok (.ireturn, 1) := by decide +kernel
theorem dX7_without_0 : decode cX7_without 0 = .ok (.iload_n 1, 1) := by decide +kernel
theorem dX7_without_1 : decode cX7_without 1 = .ok (.iconst 0, 1) := by decide +kernel
theorem dX7_without_2 : decode cX7_without 2 = .ok (.aload_n 0, 1) := by decide +kernel
theorem dX7_without_3 : decode cX7_without 3 = .ok (.getfield 106, 3) := by decide +kernel
theorem dX7_without_6 : decode cX7_without 6 = .ok (.iconst 1, 1) := by decide +kernel
theorem dX7_without_7 : decode cX7_without 7 = .ok (.isub, 1) := by decide +kernel
theorem dX7_without_8 : decode cX7_without 8 = .ok (.invokestatic 75, 3) := by decide +kernel
theorem dX7_without_11 : decode cX7_without 11 = .ok (.ifCond .eq 18, 3) := by decide +kernel
theorem dX7_without_14 : decode cX7_without 14 = .ok (.iconst 2, 1) := by decide +kernel
theorem dX7_without_15 : decode cX7_without 15 = .ok (.aload_n 0, 1) := by decide +kernel
theorem dX7_without_16 : decode cX7_without 16 = .ok (.getfield 71, 3) := by decide +kernel
theorem dX7_without_19 : decode cX7_without 19 = .ok (.imul, 1) := by decide +kernel
theorem dX7_without_20 : decode cX7_without 20 = .ok (.aload_n 0, 1) := by decide +kernel
theorem dX7_without_21 : decode cX7_without 21 = .ok (.iload_n 1, 1) := by decide +kernel
theorem dX7_without_22 : decode cX7_without 22 = .ok (.invokevirtual 112, 3) := by decide +kernel
theorem dX7_without_25 : decode cX7_without 25 = .ok (.isub, 1) := by decide +kernel
theorem dX7_without_26 : decode cX7_without 26 = .ok (.goto 5, 3) := by decide +kernel
theorem dX7_without_29 : decode cX7_without 29 = .ok (.bipush (-12), 2) := by decide +kernel
theorem dX7_without_31 : decode cX7_without 31 = .ok (.ireturn, 1) := by decide +kernel
theorem dX7_with_0 : decode cX7_with 0 = .ok (.aload_n 0, 1) := by decide +kernel
theorem dX7_with_1 : decode cX7_with 1 = .ok (.iload_n 1, 1) := by decide +kernel
theorem dX7_with_2 : decode cX7_with 2 = .ok (.iload_n 2, 1) := by decide +kernel
theorem dX7_with_3 : decode cX7_with 3 = .ok (.invokevirtual 127, 3) := by decide +kernel
theorem dX7_with_6 : decode cX7_with 6 = .ok (.ifCond .ne 6, 3) := by decide +kernel
theorem dX7_with_9 : decode cX7_with 9 = .ok (.bipush (-2), 2) := by decide +kernel
theorem dX7_with_11 : decode cX7_with 11 = .ok (.ireturn, 1) := by decide +kernel
theorem dX7_with_12 : decode cX7_with 12 = .ok (.aload_n 0, 1) := by decide +kernel
theorem dX7_with_13 : decode cX7_with 13 = .ok (.invokevirtual 133, 3) := by decide +kernel
theorem dX7_with_16 : decode cX7_with 16 = .ok (.aload_n 0, 1) := by decide +kernel
theorem dX7_with_17 : decode cX7_with 17 = .ok (.iload_n 1, 1) := by decide +kernel
theorem dX7_with_18 : decode cX7_with 18 = .ok (.iload_n 2, 1) := by decide +kernel
theorem dX7_with_19 : decode cX7_with 19 = .ok (.invokevirtual 109, 3) := by decide +kernel
theorem dX7_with_22 : decode cX7_with 22 = .ok (.pop, 1) := by decide +kernel
theorem dX7_with_23 : decode cX7_with 23 = .ok (.iconst 2, 1) := by decide +kernel
theorem dX7_with_24 : decode cX7_with 24 = .ok (.aload_n 0, 1) := by decide +kernel
theorem dX7_with_25 : decode cX7_with 25 = .ok (.getfield 71, 3) := by decide +kernel
theorem dX7_with_28 : decode cX7_with 28 = .ok (.imul, 1) := by decide +kernel
theorem dX7_with_29 : decode cX7_with 29 = .ok (.aload_n 0, 1) := by decide +kernel
theorem dX7_with_30 : decode cX7_with 30 = .ok (.getfield 83, 3) := by decide +kernel
theorem dX7_with_33 : decode cX7_with 33 = .ok (.isub, 1) := by decide +kernel
theorem dX7_with_34 : decode cX7_with 34 = .ok (.ireturn, 1) := by decide +kernel
theorem dX7_findsLacking_0 : decode cX7_findsLacking 0 = .ok (.aload_n 0, 1) := by decide +kernel
theorem dX7_findsLacking_1 : decode cX7_findsLacking 1 = .ok (.invokevirtual 133, 3) := by decide +kernel
theorem dX7_findsLacking_4 : decode cX7_findsLacking 4 = .ok (.aload_n 0, 1) := by decide +kernel
theorem dX7_findsLacking_5 : decode cX7_findsLacking 5 = .ok (.iconst 0, 1) := by decide +kernel
theorem dX7_findsLacking_6 : decode cX7_findsLacking 6 = .ok (.putfield 173, 3) := by decide +kernel
theorem dX7_findsLacking_9 : decode cX7_findsLacking 9 = .ok (.iconst 0, 1) := by decide +kernel
theorem dX7_findsLacking_10 : decode cX7_findsLacking 10 = .ok (.istore_n 1, 1) := by decide +kernel
theorem dX7_findsLacking_11 : decode cX7_findsLacking 11 = .ok (.iload_n 1, 1) := by decide +kernel
theorem dX7_findsLacking_12 : decode cX7_findsLacking 12 = .ok (.aload_n 0, 1) := by decide +kernel
theorem dX7_findsLacking_13 : decode cX7_findsLacking 13 = .ok (.getfield 71, 3) := by decide +kernel
theorem dX7_findsLacking_16 : decode cX7_findsLacking 16 = .ok (.if_icmp .ge 79, 3) := by decide +kernel
theorem dX7_findsLacking_19 : decode cX7_findsLacking 19 = .ok (.iload_n 1, 1) := by decide +kernel
theorem dX7_findsLacking_20 : decode cX7_findsLacking 20 = .ok (.iconst 1, 1) := by decide +kernel
theorem dX7_findsLacking_21 : decode cX7_findsLacking 21 = .ok (.iadd, 1) := by decide +kernel
theorem dX7_findsLacking_22 : decode cX7_findsLacking 22 = .ok (.istore_n 2, 1) := by decide +kernel
theorem dX7_findsLacking_23 : decode cX7_findsLacking 23 = .ok (.iload_n 2, 1) := by decide +kernel
theorem dX7_findsLacking_24 : decode cX7_findsLacking 24 = .ok (.aload_n 0, 1) := by decide +kernel
theorem dX7_findsLacking_25 : decode cX7_findsLacking 25 = .ok (.getfield 71, 3) := by decide +kernel
theorem dX7_findsLacking_28 : decode cX7_findsLacking 28 = .ok (.if_icmp .ge 61, 3) := by decide +kernel
theorem dX7_findsLacking_31 : decode cX7_findsLacking 31 = .ok (.aload_n 0, 1) := by decide +kernel
theorem dX7_findsLacking_32 : decode cX7_findsLacking 32 = .ok (.getfield 83, 3) := by decide +kernel
theorem dX7_findsLacking_35 : decode cX7_findsLacking 35 = .ok (.iconst 2, 1) := by decide +kernel
theorem dX7_findsLacking_36 : decode cX7_findsLacking 36 = .ok (.aload_n 0, 1) := by decide +kernel
theorem dX7_findsLacking_37 : decode cX7_findsLacking 37 = .ok (.getfield 71, 3) := by decide +kernel
theorem dX7_findsLacking_40 : decode cX7_findsLacking 40 = .ok (.imul, 1) := by decide +kernel
theorem dX7_findsLacking_41 : decode cX7_findsLacking 41 = .ok (.iconst 3, 1) := by decide +kernel
theorem dX7_findsLacking_42 : decode cX7_findsLacking 42 = .ok (.isub, 1) := by decide +kernel
theorem dX7_findsLacking_43 : decode cX7_findsLacking 43 = .ok (.if_icmp .ge 46, 3) := by decide +kernel
theorem dX7_findsLacking_46 : decode cX7_findsLacking 46 = .ok (.aload_n 0, 1) := by decide +kernel
theorem dX7_findsLacking_47 : decode cX7_findsLacking 47 = .ok (.iload_n 1, 1) := by decide +kernel
theorem dX7_findsLacking_48 : decode cX7_findsLacking 48 = .ok (.iload_n 2, 1) := by decide +kernel
theorem dX7_findsLacking_49 : decode cX7_findsLacking 49 = .ok (.invokevirtual 109, 3) := by decide +kernel
theorem dX7_findsLacking_52 : decode cX7_findsLacking 52 = .ok (.ifCond .ne 6, 3) := by decide +kernel
theorem dX7_findsLacking_55 : decode cX7_findsLacking 55 = .ok (.goto 28, 3) := by decide +kernel
theorem dX7_findsLacking_58 : decode cX7_findsLacking 58 = .ok (.aload_n 0, 1) := by decide +kernel
theorem dX7_findsLacking_59 : decode cX7_findsLacking 59 = .ok (.getfield 53, 3) := by decide +kernel
theorem dX7_findsLacking_62 : decode cX7_findsLacking 62 = .ok (.aload_n 0, 1) := by decide +kernel
theorem dX7_findsLacking_63 : decode cX7_findsLacking 63 = .ok (.getfield 173, 3) := by decide +kernel
theorem dX7_findsLacking_66 : decode cX7_findsLacking 66 = .ok (.bipush 100, 2) := by decide +kernel
theorem dX7_findsLacking_68 : decode cX7_findsLacking 68 = .ok (.iload_n 1, 1) := by decide +kernel
theorem dX7_findsLacking_69 : decode cX7_findsLacking 69 = .ok (.imul, 1) := by decide +kernel
theorem dX7_findsLacking_70 : decode cX7_findsLacking 70 = .ok (.iload_n 2, 1) := by decide +kernel
theorem dX7_findsLacking_71 : decode cX7_findsLacking 71 = .ok (.iadd, 1) := by decide +kernel
theorem dX7_findsLacking_72 : decode cX7_findsLacking 72 = .ok (.iastore, 1) := by decide +kernel
theorem dX7_findsLacking_73 : decode cX7_findsLacking 73 = .ok (.aload_n 0, 1) := by decide +kernel
theorem dX7_findsLacking_74 : decode cX7_findsLacking 74 = .ok (.dup, 1) := by decide +kernel
theorem dX7_findsLacking_75 : decode cX7_findsLacking 75 = .ok (.getfield 173, 3) := by decide +kernel
theorem dX7_findsLacking_78 : decode cX7_findsLacking 78 = .ok (.iconst 1, 1) := by decide +kernel
theorem dX7_findsLacking_79 : decode cX7_findsLacking 79 = .ok (.iadd, 1) := by decide +kernel
theorem dX7_findsLacking_80 : decode cX7_findsLacking 80 = .ok (.putfield 173, 3) := by decide +kernel
theorem dX7_findsLacking_83 : decode cX7_findsLacking 83 = .ok (.iinc 2 1, 3) := by decide +kernel
theorem dX7_findsLacking_86 : decode cX7_findsLacking 86 = .ok (.goto (-63), 3) := by decide +kernel
theorem dX7_findsLacking_89 : decode cX7_findsLacking 89 = .ok (.iinc 1 1, 3) := by decide +kernel
theorem dX7_findsLacking_92 : decode cX7_findsLacking 92 = .ok (.goto (-81), 3) := by decide +kernel
theorem dX7_findsLacking_95 : decode cX7_findsLacking 95 = .ok (.return_, 1) := by decide +kernel
theorem dX7_lacking_0 : decode cX7_lacking 0 = .ok (.aload_n 0, 1) := by decide +kernel
theorem dX7_lacking_1 : decode cX7_lacking 1 = .ok (.invokevirtual 176, 3) := by decide +kernel
theorem dX7_lacking_4 : decode cX7_lacking 4 = .ok (.iload_n 1, 1) := by decide +kernel
theorem dX7_lacking_5 : decode cX7_lacking 5 = .ok (.iconst (-1), 1) := by decide +kernel
theorem dX7_lacking_6 : decode cX7_lacking 6 = .ok (.if_icmp .ne 10, 3) := by decide +kernel
theorem dX7_lacking_9 : decode cX7_lacking 9 = .ok (.aload_n 0, 1) := by decide +kernel
theorem dX7_lacking_10 : decode cX7_lacking 10 = .ok (.getfield 173, 3) := by decide +kernel
theorem dX7_lacking_13 : decode cX7_lacking 13 = .ok (.goto 28, 3) := by decide +kernel
theorem dX7_lacking_16 : decode cX7_lacking 16 = .ok (.iload_n 1, 1) := by decide +kernel
theorem dX7_lacking_17 : decode cX7_lacking 17 = .ok (.iconst 0, 1) := by decide +kernel
theorem dX7_lacking_18 : decode cX7_lacking 18 = .ok (.aload_n 0, 1) := by decide +kernel
theorem dX7_lacking_19 : decode cX7_lacking 19 = .ok (.getfield 173, 3) := by decide +kernel
theorem dX7_lacking_22 : decode cX7_lacking 22 = .ok (.iconst 1, 1) := by decide +kernel
theorem dX7_lacking_23 : decode cX7_lacking 23 = .ok (.isub, 1) := by decide +kernel
theorem dX7_lacking_24 : decode cX7_lacking 24 = .ok (.invokestatic 75, 3) := by decide +kernel
theorem dX7_lacking_27 : decode cX7_lacking 27 = .ok (.ifCond .eq 12, 3) := by decide +kernel
theorem dX7_lacking_30 : decode cX7_lacking 30 = .ok (.aload_n 0, 1) := by decide +kernel
theorem dX7_lacking_31 : decode cX7_lacking 31 = .ok (.getfield 53, 3) := by decide +kernel
theorem dX7_lacking_34 : decode cX7_lacking 34 = .ok (.iload_n 1, 1) := by decide +kernel
theorem dX7_lacking_35 : decode cX7_lacking 35 = .ok (.iaload, 1) := by decide +kernel
theorem dX7_lacking_36 : decode cX7_lacking 36 = .ok (.goto 5, 3) := by decide +kernel
theorem dX7_lacking_39 : decode cX7_lacking 39 = .ok (.bipush (-12), 2) := by decide +kernel
theorem dX7_lacking_41 : decode cX7_lacking 41 = .ok (.ireturn, 1) := by decide +kernel
theorem dX7_barsOf_0 : decode cX7_barsOf 0 = .ok (.iconst 0, 1) := by decide +kernel
theorem dX7_barsOf_1 : decode cX7_barsOf 1 = .ok (.istore_n 2, 1) := by decide +kernel
theorem dX7_barsOf_2 : decode cX7_barsOf 2 = .ok (.iconst 0, 1) := by decide +kernel
theorem dX7_barsOf_3 : decode cX7_barsOf 3 = .ok (.istore_n 3, 1) := by decide +kernel
theorem dX7_barsOf_4 : decode cX7_barsOf 4 = .ok (.iload_n 3, 1) := by decide +kernel
theorem dX7_barsOf_5 : decode cX7_barsOf 5 = .ok (.aload_n 0, 1) := by decide +kernel
theorem dX7_barsOf_6 : decode cX7_barsOf 6 = .ok (.getfield 179, 3) := by decide +kernel
theorem dX7_barsOf_9 : decode cX7_barsOf 9 = .ok (.if_icmp .ge 37, 3) := by decide +kernel
theorem dX7_barsOf_12 : decode cX7_barsOf 12 = .ok (.iload_n 2, 1) := by decide +kernel
theorem dX7_barsOf_13 : decode cX7_barsOf 13 = .ok (.aload_n 0, 1) := by decide +kernel
theorem dX7_barsOf_14 : decode cX7_barsOf 14 = .ok (.getfield 41, 3) := by decide +kernel
theorem dX7_barsOf_17 : decode cX7_barsOf 17 = .ok (.iload_n 3, 1) := by decide +kernel
theorem dX7_barsOf_18 : decode cX7_barsOf 18 = .ok (.iaload, 1) := by decide +kernel
theorem dX7_barsOf_19 : decode cX7_barsOf 19 = .ok (.iload_n 1, 1) := by decide +kernel
theorem dX7_barsOf_20 : decode cX7_barsOf 20 = .ok (.if_icmp .eq 13, 3) := by decide +kernel
theorem dX7_barsOf_23 : decode cX7_barsOf 23 = .ok (.aload_n 0, 1) := by decide +kernel
theorem dX7_barsOf_24 : decode cX7_barsOf 24 = .ok (.getfield 44, 3) := by decide +kernel
theorem dX7_barsOf_27 : decode cX7_barsOf 27 = .ok (.iload_n 3, 1) := by decide +kernel
theorem dX7_barsOf_28 : decode cX7_barsOf 28 = .ok (.iaload, 1) := by decide +kernel
theorem dX7_barsOf_29 : decode cX7_barsOf 29 = .ok (.iload_n 1, 1) := by decide +kernel
theorem dX7_barsOf_30 : decode cX7_barsOf 30 = .ok (.if_icmp .ne 7, 3) := by decide +kernel
theorem dX7_barsOf_33 : decode cX7_barsOf 33 = .ok (.iconst 1, 1) := by decide +kernel
theorem dX7_barsOf_34 : decode cX7_barsOf 34 = .ok (.goto 4, 3) := by decide +kernel
theorem dX7_barsOf_37 : decode cX7_barsOf 37 = .ok (.iconst 0, 1) := by decide +kernel
theorem dX7_barsOf_38 : decode cX7_barsOf 38 = .ok (.iadd, 1) := by decide +kernel
theorem dX7_barsOf_39 : decode cX7_barsOf 39 = .ok (.istore_n 2, 1) := by decide +kernel
theorem dX7_barsOf_40 : decode cX7_barsOf 40 = .ok (.iinc 3 1, 3) := by decide +kernel
theorem dX7_barsOf_43 : decode cX7_barsOf 43 = .ok (.goto (-39), 3) := by decide +kernel
theorem dX7_barsOf_46 : decode cX7_barsOf 46 = .ok (.iload_n 2, 1) := by decide +kernel
theorem dX7_barsOf_47 : decode cX7_barsOf 47 = .ok (.ireturn, 1) := by decide +kernel
theorem dX7_firstOf_0 : decode cX7_firstOf 0 = .ok (.iconst 0, 1) := by decide +kernel
theorem dX7_firstOf_1 : decode cX7_firstOf 1 = .ok (.istore_n 2, 1) := by decide +kernel
theorem dX7_firstOf_2 : decode cX7_firstOf 2 = .ok (.iload_n 2, 1) := by decide +kernel
theorem dX7_firstOf_3 : decode cX7_firstOf 3 = .ok (.aload_n 0, 1) := by decide +kernel
theorem dX7_firstOf_4 : decode cX7_firstOf 4 = .ok (.getfield 71, 3) := by decide +kernel
theorem dX7_firstOf_7 : decode cX7_firstOf 7 = .ok (.if_icmp .ge 31, 3) := by decide +kernel
theorem dX7_firstOf_10 : decode cX7_firstOf 10 = .ok (.aload_n 0, 1) := by decide +kernel
theorem dX7_firstOf_11 : decode cX7_firstOf 11 = .ok (.getfield 182, 3) := by decide +kernel
theorem dX7_firstOf_14 : decode cX7_firstOf 14 = .ok (.iload_n 2, 1) := by decide +kernel
theorem dX7_firstOf_15 : decode cX7_firstOf 15 = .ok (.ishr, 1) := by decide +kernel
theorem dX7_firstOf_16 : decode cX7_firstOf 16 = .ok (.iconst 1, 1) := by decide +kernel
theorem dX7_firstOf_17 : decode cX7_firstOf 17 = .ok (.iand, 1) := by decide +kernel
theorem dX7_firstOf_18 : decode cX7_firstOf 18 = .ok (.ifCond .ne 14, 3) := by decide +kernel
theorem dX7_firstOf_21 : decode cX7_firstOf 21 = .ok (.aload_n 0, 1) := by decide +kernel
theorem dX7_firstOf_22 : decode cX7_firstOf 22 = .ok (.iload_n 2, 1) := by decide +kernel
theorem dX7_firstOf_23 : decode cX7_firstOf 23 = .ok (.invokevirtual 185, 3) := by decide +kernel
theorem dX7_firstOf_26 : decode cX7_firstOf 26 = .ok (.iload_n 1, 1) := by decide +kernel
theorem dX7_firstOf_27 : decode cX7_firstOf 27 = .ok (.if_icmp .ne 5, 3) := by decide +kernel
theorem dX7_firstOf_30 : decode cX7_firstOf 30 = .ok (.iload_n 2, 1) := by decide +kernel
theorem dX7_firstOf_31 : decode cX7_firstOf 31 = .ok (.ireturn, 1) := by decide +kernel
theorem dX7_firstOf_32 : decode cX7_firstOf 32 = .ok (.iinc 2 1, 3) := by decide +kernel
theorem dX7_firstOf_35 : decode cX7_firstOf 35 = .ok (.goto (-33), 3) := by decide +kernel
theorem dX7_firstOf_38 : decode cX7_firstOf 38 = .ok (.iconst (-1), 1) := by decide +kernel
theorem dX7_firstOf_39 : decode cX7_firstOf 39 = .ok (.ireturn, 1) := by decide +kernel
theorem dX7_goes_0 : decode cX7_goes 0 = .ok (.iconst 0, 1) := by decide +kernel
theorem dX7_goes_1 : decode cX7_goes 1 = .ok (.istore_n 2, 1) := by decide +kernel
theorem dX7_goes_2 : decode cX7_goes 2 = .ok (.iconst 0, 1) := by decide +kernel
theorem dX7_goes_3 : decode cX7_goes 3 = .ok (.istore_n 3, 1) := by decide +kernel
theorem dX7_goes_4 : decode cX7_goes 4 = .ok (.iconst 0, 1) := by decide +kernel
theorem dX7_goes_5 : decode cX7_goes 5 = .ok (.istore 4, 2) := by decide +kernel
theorem dX7_goes_7 : decode cX7_goes 7 = .ok (.iload 4, 2) := by decide +kernel
theorem dX7_goes_9 : decode cX7_goes 9 = .ok (.aload_n 0, 1) := by decide +kernel
theorem dX7_goes_10 : decode cX7_goes 10 = .ok (.getfield 179, 3) := by decide +kernel
theorem dX7_goes_13 : decode cX7_goes 13 = .ok (.if_icmp .ge 85, 3) := by decide +kernel
theorem dX7_goes_16 : decode cX7_goes 16 = .ok (.aload_n 0, 1) := by decide +kernel
theorem dX7_goes_17 : decode cX7_goes 17 = .ok (.getfield 41, 3) := by decide +kernel
theorem dX7_goes_20 : decode cX7_goes 20 = .ok (.iload 4, 2) := by decide +kernel
theorem dX7_goes_22 : decode cX7_goes 22 = .ok (.iaload, 1) := by decide +kernel
theorem dX7_goes_23 : decode cX7_goes 23 = .ok (.iload_n 1, 1) := by decide +kernel
theorem dX7_goes_24 : decode cX7_goes 24 = .ok (.if_icmp .eq 14, 3) := by decide +kernel
theorem dX7_goes_27 : decode cX7_goes 27 = .ok (.aload_n 0, 1) := by decide +kernel
theorem dX7_goes_28 : decode cX7_goes 28 = .ok (.getfield 44, 3) := by decide +kernel
theorem dX7_goes_31 : decode cX7_goes 31 = .ok (.iload 4, 2) := by decide +kernel
theorem dX7_goes_33 : decode cX7_goes 33 = .ok (.iaload, 1) := by decide +kernel
theorem dX7_goes_34 : decode cX7_goes 34 = .ok (.iload_n 1, 1) := by decide +kernel
theorem dX7_goes_35 : decode cX7_goes 35 = .ok (.if_icmp .ne 28, 3) := by decide +kernel
theorem dX7_goes_38 : decode cX7_goes 38 = .ok (.iload_n 2, 1) := by decide +kernel
theorem dX7_goes_39 : decode cX7_goes 39 = .ok (.iconst 1, 1) := by decide +kernel
theorem dX7_goes_40 : decode cX7_goes 40 = .ok (.aload_n 0, 1) := by decide +kernel
theorem dX7_goes_41 : decode cX7_goes 41 = .ok (.getfield 41, 3) := by decide +kernel
theorem dX7_goes_44 : decode cX7_goes 44 = .ok (.iload 4, 2) := by decide +kernel
theorem dX7_goes_46 : decode cX7_goes 46 = .ok (.iaload, 1) := by decide +kernel
theorem dX7_goes_47 : decode cX7_goes 47 = .ok (.aload_n 0, 1) := by decide +kernel
theorem dX7_goes_48 : decode cX7_goes 48 = .ok (.getfield 44, 3) := by decide +kernel
theorem dX7_goes_51 : decode cX7_goes 51 = .ok (.iload 4, 2) := by decide +kernel
theorem dX7_goes_53 : decode cX7_goes 53 = .ok (.iaload, 1) := by decide +kernel
theorem dX7_goes_54 : decode cX7_goes 54 = .ok (.iadd, 1) := by decide +kernel
theorem dX7_goes_55 : decode cX7_goes 55 = .ok (.iload_n 1, 1) := by decide +kernel
theorem dX7_goes_56 : decode cX7_goes 56 = .ok (.isub, 1) := by decide +kernel
theorem dX7_goes_57 : decode cX7_goes 57 = .ok (.ishl, 1) := by decide +kernel
theorem dX7_goes_58 : decode cX7_goes 58 = .ok (.ior, 1) := by decide +kernel
theorem dX7_goes_59 : decode cX7_goes 59 = .ok (.istore_n 2, 1) := by decide +kernel
theorem dX7_goes_60 : decode cX7_goes 60 = .ok (.goto 32, 3) := by decide +kernel
theorem dX7_goes_63 : decode cX7_goes 63 = .ok (.aload_n 0, 1) := by decide +kernel
theorem dX7_goes_64 : decode cX7_goes 64 = .ok (.getfield 41, 3) := by decide +kernel
theorem dX7_goes_67 : decode cX7_goes 67 = .ok (.iload_n 3, 1) := by decide +kernel
theorem dX7_goes_68 : decode cX7_goes 68 = .ok (.aload_n 0, 1) := by decide +kernel
theorem dX7_goes_69 : decode cX7_goes 69 = .ok (.getfield 41, 3) := by decide +kernel
theorem dX7_goes_72 : decode cX7_goes 72 = .ok (.iload 4, 2) := by decide +kernel
theorem dX7_goes_74 : decode cX7_goes 74 = .ok (.iaload, 1) := by decide +kernel
theorem dX7_goes_75 : decode cX7_goes 75 = .ok (.iastore, 1) := by decide +kernel
theorem dX7_goes_76 : decode cX7_goes 76 = .ok (.aload_n 0, 1) := by decide +kernel
theorem dX7_goes_77 : decode cX7_goes 77 = .ok (.getfield 44, 3) := by decide +kernel
theorem dX7_goes_80 : decode cX7_goes 80 = .ok (.iload_n 3, 1) := by decide +kernel
theorem dX7_goes_81 : decode cX7_goes 81 = .ok (.aload_n 0, 1) := by decide +kernel
theorem dX7_goes_82 : decode cX7_goes 82 = .ok (.getfield 44, 3) := by decide +kernel
theorem dX7_goes_85 : decode cX7_goes 85 = .ok (.iload 4, 2) := by decide +kernel
theorem dX7_goes_87 : decode cX7_goes 87 = .ok (.iaload, 1) := by decide +kernel
theorem dX7_goes_88 : decode cX7_goes 88 = .ok (.iastore, 1) := by decide +kernel
theorem dX7_goes_89 : decode cX7_goes 89 = .ok (.iinc 3 1, 3) := by decide +kernel
theorem dX7_goes_92 : decode cX7_goes 92 = .ok (.iinc 4 1, 3) := by decide +kernel
theorem dX7_goes_95 : decode cX7_goes 95 = .ok (.goto (-88), 3) := by decide +kernel
theorem dX7_goes_98 : decode cX7_goes 98 = .ok (.aload_n 0, 1) := by decide +kernel
theorem dX7_goes_99 : decode cX7_goes 99 = .ok (.iload_n 3, 1) := by decide +kernel
theorem dX7_goes_100 : decode cX7_goes 100 = .ok (.putfield 179, 3) := by decide +kernel
theorem dX7_goes_103 : decode cX7_goes 103 = .ok (.aload_n 0, 1) := by decide +kernel
theorem dX7_goes_104 : decode cX7_goes 104 = .ok (.dup, 1) := by decide +kernel
theorem dX7_goes_105 : decode cX7_goes 105 = .ok (.getfield 182, 3) := by decide +kernel
theorem dX7_goes_108 : decode cX7_goes 108 = .ok (.iconst 1, 1) := by decide +kernel
theorem dX7_goes_109 : decode cX7_goes 109 = .ok (.iload_n 1, 1) := by decide +kernel
theorem dX7_goes_110 : decode cX7_goes 110 = .ok (.ishl, 1) := by decide +kernel
theorem dX7_goes_111 : decode cX7_goes 111 = .ok (.ior, 1) := by decide +kernel
theorem dX7_goes_112 : decode cX7_goes 112 = .ok (.putfield 182, 3) := by decide +kernel
theorem dX7_goes_115 : decode cX7_goes 115 = .ok (.iload_n 2, 1) := by decide +kernel
theorem dX7_goes_116 : decode cX7_goes 116 = .ok (.ireturn, 1) := by decide +kernel
theorem dX7_isThere_0 : decode cX7_isThere 0 = .ok (.iconst 0, 1) := by decide +kernel
theorem dX7_isThere_1 : decode cX7_isThere 1 = .ok (.istore_n 3, 1) := by decide +kernel
theorem dX7_isThere_2 : decode cX7_isThere 2 = .ok (.iload_n 3, 1) := by decide +kernel
theorem dX7_isThere_3 : decode cX7_isThere 3 = .ok (.aload_n 0, 1) := by decide +kernel
theorem dX7_isThere_4 : decode cX7_isThere 4 = .ok (.getfield 179, 3) := by decide +kernel
theorem dX7_isThere_7 : decode cX7_isThere 7 = .ok (.if_icmp .ge 51, 3) := by decide +kernel
theorem dX7_isThere_10 : decode cX7_isThere 10 = .ok (.aload_n 0, 1) := by decide +kernel
theorem dX7_isThere_11 : decode cX7_isThere 11 = .ok (.getfield 41, 3) := by decide +kernel
theorem dX7_isThere_14 : decode cX7_isThere 14 = .ok (.iload_n 3, 1) := by decide +kernel
theorem dX7_isThere_15 : decode cX7_isThere 15 = .ok (.iaload, 1) := by decide +kernel
theorem dX7_isThere_16 : decode cX7_isThere 16 = .ok (.iload_n 1, 1) := by decide +kernel
theorem dX7_isThere_17 : decode cX7_isThere 17 = .ok (.if_icmp .ne 13, 3) := by decide +kernel
theorem dX7_isThere_20 : decode cX7_isThere 20 = .ok (.aload_n 0, 1) := by decide +kernel
theorem dX7_isThere_21 : decode cX7_isThere 21 = .ok (.getfield 44, 3) := by decide +kernel
theorem dX7_isThere_24 : decode cX7_isThere 24 = .ok (.iload_n 3, 1) := by decide +kernel
theorem dX7_isThere_25 : decode cX7_isThere 25 = .ok (.iaload, 1) := by decide +kernel
theorem dX7_isThere_26 : decode cX7_isThere 26 = .ok (.iload_n 2, 1) := by decide +kernel
theorem dX7_isThere_27 : decode cX7_isThere 27 = .ok (.if_icmp .eq 23, 3) := by decide +kernel
theorem dX7_isThere_30 : decode cX7_isThere 30 = .ok (.aload_n 0, 1) := by decide +kernel
theorem dX7_isThere_31 : decode cX7_isThere 31 = .ok (.getfield 41, 3) := by decide +kernel
theorem dX7_isThere_34 : decode cX7_isThere 34 = .ok (.iload_n 3, 1) := by decide +kernel
theorem dX7_isThere_35 : decode cX7_isThere 35 = .ok (.iaload, 1) := by decide +kernel
theorem dX7_isThere_36 : decode cX7_isThere 36 = .ok (.iload_n 2, 1) := by decide +kernel
theorem dX7_isThere_37 : decode cX7_isThere 37 = .ok (.if_icmp .ne 15, 3) := by decide +kernel
theorem dX7_isThere_40 : decode cX7_isThere 40 = .ok (.aload_n 0, 1) := by decide +kernel
theorem dX7_isThere_41 : decode cX7_isThere 41 = .ok (.getfield 44, 3) := by decide +kernel
theorem dX7_isThere_44 : decode cX7_isThere 44 = .ok (.iload_n 3, 1) := by decide +kernel
theorem dX7_isThere_45 : decode cX7_isThere 45 = .ok (.iaload, 1) := by decide +kernel
theorem dX7_isThere_46 : decode cX7_isThere 46 = .ok (.iload_n 1, 1) := by decide +kernel
theorem dX7_isThere_47 : decode cX7_isThere 47 = .ok (.if_icmp .ne 5, 3) := by decide +kernel
theorem dX7_isThere_50 : decode cX7_isThere 50 = .ok (.iconst 1, 1) := by decide +kernel
theorem dX7_isThere_51 : decode cX7_isThere 51 = .ok (.ireturn, 1) := by decide +kernel
theorem dX7_isThere_52 : decode cX7_isThere 52 = .ok (.iinc 3 1, 3) := by decide +kernel
theorem dX7_isThere_55 : decode cX7_isThere 55 = .ok (.goto (-53), 3) := by decide +kernel
theorem dX7_isThere_58 : decode cX7_isThere 58 = .ok (.iconst 0, 1) := by decide +kernel
theorem dX7_isThere_59 : decode cX7_isThere 59 = .ok (.ireturn, 1) := by decide +kernel
theorem dX7_helps_0 : decode cX7_helps 0 = .ok (.aload_n 0, 1) := by decide +kernel
theorem dX7_helps_1 : decode cX7_helps 1 = .ok (.invokevirtual 103, 3) := by decide +kernel
theorem dX7_helps_4 : decode cX7_helps 4 = .ok (.iconst 0, 1) := by decide +kernel
theorem dX7_helps_5 : decode cX7_helps 5 = .ok (.istore_n 3, 1) := by decide +kernel
theorem dX7_helps_6 : decode cX7_helps 6 = .ok (.iload_n 3, 1) := by decide +kernel
theorem dX7_helps_7 : decode cX7_helps 7 = .ok (.aload_n 0, 1) := by decide +kernel
theorem dX7_helps_8 : decode cX7_helps 8 = .ok (.getfield 179, 3) := by decide +kernel
theorem dX7_helps_11 : decode cX7_helps 11 = .ok (.if_icmp .ge 26, 3) := by decide +kernel
theorem dX7_helps_14 : decode cX7_helps 14 = .ok (.aload_n 0, 1) := by decide +kernel
theorem dX7_helps_15 : decode cX7_helps 15 = .ok (.aload_n 0, 1) := by decide +kernel
theorem dX7_helps_16 : decode cX7_helps 16 = .ok (.getfield 41, 3) := by decide +kernel
theorem dX7_helps_19 : decode cX7_helps 19 = .ok (.iload_n 3, 1) := by decide +kernel
theorem dX7_helps_20 : decode cX7_helps 20 = .ok (.iaload, 1) := by decide +kernel
theorem dX7_helps_21 : decode cX7_helps 21 = .ok (.aload_n 0, 1) := by decide +kernel
theorem dX7_helps_22 : decode cX7_helps 22 = .ok (.getfield 44, 3) := by decide +kernel
theorem dX7_helps_25 : decode cX7_helps 25 = .ok (.iload_n 3, 1) := by decide +kernel
theorem dX7_helps_26 : decode cX7_helps 26 = .ok (.iaload, 1) := by decide +kernel
theorem dX7_helps_27 : decode cX7_helps 27 = .ok (.invokevirtual 109, 3) := by decide +kernel
theorem dX7_helps_30 : decode cX7_helps 30 = .ok (.pop, 1) := by decide +kernel
theorem dX7_helps_31 : decode cX7_helps 31 = .ok (.iinc 3 1, 3) := by decide +kernel
theorem dX7_helps_34 : decode cX7_helps 34 = .ok (.goto (-28), 3) := by decide +kernel
theorem dX7_helps_37 : decode cX7_helps 37 = .ok (.aload_n 0, 1) := by decide +kernel
theorem dX7_helps_38 : decode cX7_helps 38 = .ok (.iload_n 1, 1) := by decide +kernel
theorem dX7_helps_39 : decode cX7_helps 39 = .ok (.iload_n 2, 1) := by decide +kernel
theorem dX7_helps_40 : decode cX7_helps 40 = .ok (.invokevirtual 99, 3) := by decide +kernel
theorem dX7_helps_43 : decode cX7_helps 43 = .ok (.ireturn, 1) := by decide +kernel
theorem dX7_pairIn_0 : decode cX7_pairIn 0 = .ok (.iconst 0, 1) := by decide +kernel
theorem dX7_pairIn_1 : decode cX7_pairIn 1 = .ok (.istore_n 2, 1) := by decide +kernel
theorem dX7_pairIn_2 : decode cX7_pairIn 2 = .ok (.iload_n 2, 1) := by decide +kernel
theorem dX7_pairIn_3 : decode cX7_pairIn 3 = .ok (.aload_n 0, 1) := by decide +kernel
theorem dX7_pairIn_4 : decode cX7_pairIn 4 = .ok (.getfield 71, 3) := by decide +kernel
theorem dX7_pairIn_7 : decode cX7_pairIn 7 = .ok (.if_icmp .ge 65, 3) := by decide +kernel
theorem dX7_pairIn_10 : decode cX7_pairIn 10 = .ok (.iload_n 2, 1) := by decide +kernel
theorem dX7_pairIn_11 : decode cX7_pairIn 11 = .ok (.iconst 1, 1) := by decide +kernel
theorem dX7_pairIn_12 : decode cX7_pairIn 12 = .ok (.iadd, 1) := by decide +kernel
theorem dX7_pairIn_13 : decode cX7_pairIn 13 = .ok (.istore_n 3, 1) := by decide +kernel
theorem dX7_pairIn_14 : decode cX7_pairIn 14 = .ok (.iload_n 3, 1) := by decide +kernel
theorem dX7_pairIn_15 : decode cX7_pairIn 15 = .ok (.aload_n 0, 1) := by decide +kernel
theorem dX7_pairIn_16 : decode cX7_pairIn 16 = .ok (.getfield 71, 3) := by decide +kernel
theorem dX7_pairIn_19 : decode cX7_pairIn 19 = .ok (.if_icmp .ge 47, 3) := by decide +kernel
theorem dX7_pairIn_22 : decode cX7_pairIn 22 = .ok (.iload_n 1, 1) := by decide +kernel
theorem dX7_pairIn_23 : decode cX7_pairIn 23 = .ok (.iload_n 2, 1) := by decide +kernel
theorem dX7_pairIn_24 : decode cX7_pairIn 24 = .ok (.ishr, 1) := by decide +kernel
theorem dX7_pairIn_25 : decode cX7_pairIn 25 = .ok (.iload_n 1, 1) := by decide +kernel
theorem dX7_pairIn_26 : decode cX7_pairIn 26 = .ok (.iload_n 3, 1) := by decide +kernel
theorem dX7_pairIn_27 : decode cX7_pairIn 27 = .ok (.ishr, 1) := by decide +kernel
theorem dX7_pairIn_28 : decode cX7_pairIn 28 = .ok (.iand, 1) := by decide +kernel
theorem dX7_pairIn_29 : decode cX7_pairIn 29 = .ok (.iconst 1, 1) := by decide +kernel
theorem dX7_pairIn_30 : decode cX7_pairIn 30 = .ok (.iand, 1) := by decide +kernel
theorem dX7_pairIn_31 : decode cX7_pairIn 31 = .ok (.iconst 1, 1) := by decide +kernel
theorem dX7_pairIn_32 : decode cX7_pairIn 32 = .ok (.if_icmp .ne 28, 3) := by decide +kernel
theorem dX7_pairIn_35 : decode cX7_pairIn 35 = .ok (.aload_n 0, 1) := by decide +kernel
theorem dX7_pairIn_36 : decode cX7_pairIn 36 = .ok (.iload_n 2, 1) := by decide +kernel
theorem dX7_pairIn_37 : decode cX7_pairIn 37 = .ok (.iload_n 3, 1) := by decide +kernel
theorem dX7_pairIn_38 : decode cX7_pairIn 38 = .ok (.invokevirtual 188, 3) := by decide +kernel
theorem dX7_pairIn_41 : decode cX7_pairIn 41 = .ok (.ifCond .ne 19, 3) := by decide +kernel
theorem dX7_pairIn_44 : decode cX7_pairIn 44 = .ok (.aload_n 0, 1) := by decide +kernel
theorem dX7_pairIn_45 : decode cX7_pairIn 45 = .ok (.iload_n 2, 1) := by decide +kernel
theorem dX7_pairIn_46 : decode cX7_pairIn 46 = .ok (.iload_n 3, 1) := by decide +kernel
theorem dX7_pairIn_47 : decode cX7_pairIn 47 = .ok (.invokevirtual 191, 3) := by decide +kernel
theorem dX7_pairIn_50 : decode cX7_pairIn 50 = .ok (.ifCond .eq 10, 3) := by decide +kernel
theorem dX7_pairIn_53 : decode cX7_pairIn 53 = .ok (.bipush 100, 2) := by decide +kernel
theorem dX7_pairIn_55 : decode cX7_pairIn 55 = .ok (.iload_n 2, 1) := by decide +kernel
theorem dX7_pairIn_56 : decode cX7_pairIn 56 = .ok (.imul, 1) := by decide +kernel
theorem dX7_pairIn_57 : decode cX7_pairIn 57 = .ok (.iload_n 3, 1) := by decide +kernel
theorem dX7_pairIn_58 : decode cX7_pairIn 58 = .ok (.iadd, 1) := by decide +kernel
theorem dX7_pairIn_59 : decode cX7_pairIn 59 = .ok (.ireturn, 1) := by decide +kernel
theorem dX7_pairIn_60 : decode cX7_pairIn 60 = .ok (.iinc 3 1, 3) := by decide +kernel
theorem dX7_pairIn_63 : decode cX7_pairIn 63 = .ok (.goto (-49), 3) := by decide +kernel
theorem dX7_pairIn_66 : decode cX7_pairIn 66 = .ok (.iinc 2 1, 3) := by decide +kernel
theorem dX7_pairIn_69 : decode cX7_pairIn 69 = .ok (.goto (-67), 3) := by decide +kernel
theorem dX7_pairIn_72 : decode cX7_pairIn 72 = .ok (.iconst (-1), 1) := by decide +kernel
theorem dX7_pairIn_73 : decode cX7_pairIn 73 = .ok (.ireturn, 1) := by decide +kernel
theorem dX7_takesDown_0 : decode cX7_takesDown 0 = .ok (.aload_n 0, 1) := by decide +kernel
theorem dX7_takesDown_1 : decode cX7_takesDown 1 = .ok (.aload_n 0, 1) := by decide +kernel
theorem dX7_takesDown_2 : decode cX7_takesDown 2 = .ok (.getfield 106, 3) := by decide +kernel
theorem dX7_takesDown_5 : decode cX7_takesDown 5 = .ok (.putfield 179, 3) := by decide +kernel
theorem dX7_takesDown_8 : decode cX7_takesDown 8 = .ok (.aload_n 0, 1) := by decide +kernel
theorem dX7_takesDown_9 : decode cX7_takesDown 9 = .ok (.iconst 0, 1) := by decide +kernel
theorem dX7_takesDown_10 : decode cX7_takesDown 10 = .ok (.putfield 182, 3) := by decide +kernel
theorem dX7_takesDown_13 : decode cX7_takesDown 13 = .ok (.aload_n 0, 1) := by decide +kernel
theorem dX7_takesDown_14 : decode cX7_takesDown 14 = .ok (.iconst 0, 1) := by decide +kernel
theorem dX7_takesDown_15 : decode cX7_takesDown 15 = .ok (.putfield 194, 3) := by decide +kernel
theorem dX7_takesDown_18 : decode cX7_takesDown 18 = .ok (.iconst 0, 1) := by decide +kernel
theorem dX7_takesDown_19 : decode cX7_takesDown 19 = .ok (.istore_n 1, 1) := by decide +kernel
theorem dX7_takesDown_20 : decode cX7_takesDown 20 = .ok (.iload_n 1, 1) := by decide +kernel
theorem dX7_takesDown_21 : decode cX7_takesDown 21 = .ok (.aload_n 0, 1) := by decide +kernel
theorem dX7_takesDown_22 : decode cX7_takesDown 22 = .ok (.getfield 106, 3) := by decide +kernel
theorem dX7_takesDown_25 : decode cX7_takesDown 25 = .ok (.if_icmp .ge 33, 3) := by decide +kernel
theorem dX7_takesDown_28 : decode cX7_takesDown 28 = .ok (.aload_n 0, 1) := by decide +kernel
theorem dX7_takesDown_29 : decode cX7_takesDown 29 = .ok (.getfield 41, 3) := by decide +kernel
theorem dX7_takesDown_32 : decode cX7_takesDown 32 = .ok (.iload_n 1, 1) := by decide +kernel
theorem dX7_takesDown_33 : decode cX7_takesDown 33 = .ok (.aload_n 0, 1) := by decide +kernel
theorem dX7_takesDown_34 : decode cX7_takesDown 34 = .ok (.getfield 13, 3) := by decide +kernel
theorem dX7_takesDown_37 : decode cX7_takesDown 37 = .ok (.iload_n 1, 1) := by decide +kernel
theorem dX7_takesDown_38 : decode cX7_takesDown 38 = .ok (.iaload, 1) := by decide +kernel
theorem dX7_takesDown_39 : decode cX7_takesDown 39 = .ok (.iastore, 1) := by decide +kernel
theorem dX7_takesDown_40 : decode cX7_takesDown 40 = .ok (.aload_n 0, 1) := by decide +kernel
theorem dX7_takesDown_41 : decode cX7_takesDown 41 = .ok (.getfield 44, 3) := by decide +kernel
theorem dX7_takesDown_44 : decode cX7_takesDown 44 = .ok (.iload_n 1, 1) := by decide +kernel
theorem dX7_takesDown_45 : decode cX7_takesDown 45 = .ok (.aload_n 0, 1) := by decide +kernel
theorem dX7_takesDown_46 : decode cX7_takesDown 46 = .ok (.getfield 16, 3) := by decide +kernel
theorem dX7_takesDown_49 : decode cX7_takesDown 49 = .ok (.iload_n 1, 1) := by decide +kernel
theorem dX7_takesDown_50 : decode cX7_takesDown 50 = .ok (.iaload, 1) := by decide +kernel
theorem dX7_takesDown_51 : decode cX7_takesDown 51 = .ok (.iastore, 1) := by decide +kernel
theorem dX7_takesDown_52 : decode cX7_takesDown 52 = .ok (.iinc 1 1, 3) := by decide +kernel
theorem dX7_takesDown_55 : decode cX7_takesDown 55 = .ok (.goto (-35), 3) := by decide +kernel
theorem dX7_takesDown_58 : decode cX7_takesDown 58 = .ok (.aload_n 0, 1) := by decide +kernel
theorem dX7_takesDown_59 : decode cX7_takesDown 59 = .ok (.getfield 71, 3) := by decide +kernel
theorem dX7_takesDown_62 : decode cX7_takesDown 62 = .ok (.aload_n 0, 1) := by decide +kernel
theorem dX7_takesDown_63 : decode cX7_takesDown 63 = .ok (.getfield 194, 3) := by decide +kernel
theorem dX7_takesDown_66 : decode cX7_takesDown 66 = .ok (.isub, 1) := by decide +kernel
theorem dX7_takesDown_67 : decode cX7_takesDown 67 = .ok (.iconst 2, 1) := by decide +kernel
theorem dX7_takesDown_68 : decode cX7_takesDown 68 = .ok (.if_icmp .le 142, 3) := by decide +kernel
theorem dX7_takesDown_71 : decode cX7_takesDown 71 = .ok (.aload_n 0, 1) := by decide +kernel
theorem dX7_takesDown_72 : decode cX7_takesDown 72 = .ok (.iconst 2, 1) := by decide +kernel
theorem dX7_takesDown_73 : decode cX7_takesDown 73 = .ok (.invokevirtual 197, 3) := by decide +kernel
theorem dX7_takesDown_76 : decode cX7_takesDown 76 = .ok (.ifCond .lt 7, 3) := by decide +kernel
theorem dX7_takesDown_79 : decode cX7_takesDown 79 = .ok (.iconst 2, 1) := by decide +kernel
theorem dX7_takesDown_80 : decode cX7_takesDown 80 = .ok (.goto 4, 3) := by decide +kernel
theorem dX7_takesDown_83 : decode cX7_takesDown 83 = .ok (.iconst 3, 1) := by decide +kernel
theorem dX7_takesDown_84 : decode cX7_takesDown 84 = .ok (.istore_n 1, 1) := by decide +kernel
theorem dX7_takesDown_85 : decode cX7_takesDown 85 = .ok (.aload_n 0, 1) := by decide +kernel
theorem dX7_takesDown_86 : decode cX7_takesDown 86 = .ok (.iload_n 1, 1) := by decide +kernel
theorem dX7_takesDown_87 : decode cX7_takesDown 87 = .ok (.invokevirtual 197, 3) := by decide +kernel
theorem dX7_takesDown_90 : decode cX7_takesDown 90 = .ok (.istore_n 2, 1) := by decide +kernel
theorem dX7_takesDown_91 : decode cX7_takesDown 91 = .ok (.aload_n 0, 1) := by decide +kernel
theorem dX7_takesDown_92 : decode cX7_takesDown 92 = .ok (.iload_n 2, 1) := by decide +kernel
theorem dX7_takesDown_93 : decode cX7_takesDown 93 = .ok (.invokevirtual 200, 3) := by decide +kernel
theorem dX7_takesDown_96 : decode cX7_takesDown 96 = .ok (.istore_n 3, 1) := by decide +kernel
theorem dX7_takesDown_97 : decode cX7_takesDown 97 = .ok (.iload_n 1, 1) := by decide +kernel
theorem dX7_takesDown_98 : decode cX7_takesDown 98 = .ok (.iconst 3, 1) := by decide +kernel
theorem dX7_takesDown_99 : decode cX7_takesDown 99 = .ok (.if_icmp .ne 11, 3) := by decide +kernel
theorem dX7_takesDown_102 : decode cX7_takesDown 102 = .ok (.aload_n 0, 1) := by decide +kernel
theorem dX7_takesDown_103 : decode cX7_takesDown 103 = .ok (.iload_n 3, 1) := by decide +kernel
theorem dX7_takesDown_104 : decode cX7_takesDown 104 = .ok (.invokevirtual 203, 3) := by decide +kernel
theorem dX7_takesDown_107 : decode cX7_takesDown 107 = .ok (.goto 4, 3) := by decide +kernel
theorem dX7_takesDown_110 : decode cX7_takesDown 110 = .ok (.iconst (-1), 1) := by decide +kernel
theorem dX7_takesDown_111 : decode cX7_takesDown 111 = .ok (.istore 4, 2) := by decide +kernel
theorem dX7_takesDown_113 : decode cX7_takesDown 113 = .ok (.iload 4, 2) := by decide +kernel
theorem dX7_takesDown_115 : decode cX7_takesDown 115 = .ok (.ifCond .lt 41, 3) := by decide +kernel
theorem dX7_takesDown_118 : decode cX7_takesDown 118 = .ok (.aload_n 0, 1) := by decide +kernel
theorem dX7_takesDown_119 : decode cX7_takesDown 119 = .ok (.getfield 41, 3) := by decide +kernel
theorem dX7_takesDown_122 : decode cX7_takesDown 122 = .ok (.aload_n 0, 1) := by decide +kernel
theorem dX7_takesDown_123 : decode cX7_takesDown 123 = .ok (.getfield 179, 3) := by decide +kernel
theorem dX7_takesDown_126 : decode cX7_takesDown 126 = .ok (.iload 4, 2) := by decide +kernel
theorem dX7_takesDown_128 : decode cX7_takesDown 128 = .ok (.bipush 100, 2) := by decide +kernel
theorem dX7_takesDown_130 : decode cX7_takesDown 130 = .ok (.idiv, 1) := by decide +kernel
theorem dX7_takesDown_131 : decode cX7_takesDown 131 = .ok (.iastore, 1) := by decide +kernel
theorem dX7_takesDown_132 : decode cX7_takesDown 132 = .ok (.aload_n 0, 1) := by decide +kernel
theorem dX7_takesDown_133 : decode cX7_takesDown 133 = .ok (.getfield 44, 3) := by decide +kernel
theorem dX7_takesDown_136 : decode cX7_takesDown 136 = .ok (.aload_n 0, 1) := by decide +kernel
theorem dX7_takesDown_137 : decode cX7_takesDown 137 = .ok (.getfield 179, 3) := by decide +kernel
theorem dX7_takesDown_140 : decode cX7_takesDown 140 = .ok (.iload 4, 2) := by decide +kernel
theorem dX7_takesDown_142 : decode cX7_takesDown 142 = .ok (.bipush 100, 2) := by decide +kernel
theorem dX7_takesDown_144 : decode cX7_takesDown 144 = .ok (.irem, 1) := by decide +kernel
theorem dX7_takesDown_145 : decode cX7_takesDown 145 = .ok (.iastore, 1) := by decide +kernel
theorem dX7_takesDown_146 : decode cX7_takesDown 146 = .ok (.aload_n 0, 1) := by decide +kernel
theorem dX7_takesDown_147 : decode cX7_takesDown 147 = .ok (.dup, 1) := by decide +kernel
theorem dX7_takesDown_148 : decode cX7_takesDown 148 = .ok (.getfield 179, 3) := by decide +kernel
theorem dX7_takesDown_151 : decode cX7_takesDown 151 = .ok (.iconst 1, 1) := by decide +kernel
theorem dX7_takesDown_152 : decode cX7_takesDown 152 = .ok (.iadd, 1) := by decide +kernel
theorem dX7_takesDown_153 : decode cX7_takesDown 153 = .ok (.putfield 179, 3) := by decide +kernel
theorem dX7_takesDown_156 : decode cX7_takesDown 156 = .ok (.aload_n 0, 1) := by decide +kernel
theorem dX7_takesDown_157 : decode cX7_takesDown 157 = .ok (.getfield 56, 3) := by decide +kernel
theorem dX7_takesDown_160 : decode cX7_takesDown 160 = .ok (.iconst 3, 1) := by decide +kernel
theorem dX7_takesDown_161 : decode cX7_takesDown 161 = .ok (.aload_n 0, 1) := by decide +kernel
theorem dX7_takesDown_162 : decode cX7_takesDown 162 = .ok (.getfield 194, 3) := by decide +kernel
theorem dX7_takesDown_165 : decode cX7_takesDown 165 = .ok (.imul, 1) := by decide +kernel
theorem dX7_takesDown_166 : decode cX7_takesDown 166 = .ok (.iload_n 2, 1) := by decide +kernel
theorem dX7_takesDown_167 : decode cX7_takesDown 167 = .ok (.iastore, 1) := by decide +kernel
theorem dX7_takesDown_168 : decode cX7_takesDown 168 = .ok (.aload_n 0, 1) := by decide +kernel
theorem dX7_takesDown_169 : decode cX7_takesDown 169 = .ok (.getfield 56, 3) := by decide +kernel
theorem dX7_takesDown_172 : decode cX7_takesDown 172 = .ok (.iconst 3, 1) := by decide +kernel
theorem dX7_takesDown_173 : decode cX7_takesDown 173 = .ok (.aload_n 0, 1) := by decide +kernel
theorem dX7_takesDown_174 : decode cX7_takesDown 174 = .ok (.getfield 194, 3) := by decide +kernel
theorem dX7_takesDown_177 : decode cX7_takesDown 177 = .ok (.imul, 1) := by decide +kernel
theorem dX7_takesDown_178 : decode cX7_takesDown 178 = .ok (.iconst 1, 1) := by decide +kernel
theorem dX7_takesDown_179 : decode cX7_takesDown 179 = .ok (.iadd, 1) := by decide +kernel
theorem dX7_takesDown_180 : decode cX7_takesDown 180 = .ok (.iload_n 1, 1) := by decide +kernel
theorem dX7_takesDown_181 : decode cX7_takesDown 181 = .ok (.iastore, 1) := by decide +kernel
theorem dX7_takesDown_182 : decode cX7_takesDown 182 = .ok (.aload_n 0, 1) := by decide +kernel
theorem dX7_takesDown_183 : decode cX7_takesDown 183 = .ok (.getfield 56, 3) := by decide +kernel
theorem dX7_takesDown_186 : decode cX7_takesDown 186 = .ok (.iconst 3, 1) := by decide +kernel
theorem dX7_takesDown_187 : decode cX7_takesDown 187 = .ok (.aload_n 0, 1) := by decide +kernel
theorem dX7_takesDown_188 : decode cX7_takesDown 188 = .ok (.getfield 194, 3) := by decide +kernel
theorem dX7_takesDown_191 : decode cX7_takesDown 191 = .ok (.imul, 1) := by decide +kernel
theorem dX7_takesDown_192 : decode cX7_takesDown 192 = .ok (.iconst 2, 1) := by decide +kernel
theorem dX7_takesDown_193 : decode cX7_takesDown 193 = .ok (.iadd, 1) := by decide +kernel
theorem dX7_takesDown_194 : decode cX7_takesDown 194 = .ok (.iload 4, 2) := by decide +kernel
theorem dX7_takesDown_196 : decode cX7_takesDown 196 = .ok (.iastore, 1) := by decide +kernel
theorem dX7_takesDown_197 : decode cX7_takesDown 197 = .ok (.aload_n 0, 1) := by decide +kernel
theorem dX7_takesDown_198 : decode cX7_takesDown 198 = .ok (.dup, 1) := by decide +kernel
theorem dX7_takesDown_199 : decode cX7_takesDown 199 = .ok (.getfield 194, 3) := by decide +kernel
theorem dX7_takesDown_202 : decode cX7_takesDown 202 = .ok (.iconst 1, 1) := by decide +kernel
theorem dX7_takesDown_203 : decode cX7_takesDown 203 = .ok (.iadd, 1) := by decide +kernel
theorem dX7_takesDown_204 : decode cX7_takesDown 204 = .ok (.putfield 194, 3) := by decide +kernel
theorem dX7_takesDown_207 : decode cX7_takesDown 207 = .ok (.goto (-149), 3) := by decide +kernel
theorem dX7_takesDown_210 : decode cX7_takesDown 210 = .ok (.return_, 1) := by decide +kernel
theorem dX7_down_0 : decode cX7_down 0 = .ok (.iload_n 2, 1) := by decide +kernel
theorem dX7_down_1 : decode cX7_down 1 = .ok (.iconst 0, 1) := by decide +kernel
theorem dX7_down_2 : decode cX7_down 2 = .ok (.iconst 2, 1) := by decide +kernel
theorem dX7_down_3 : decode cX7_down 3 = .ok (.invokestatic 75, 3) := by decide +kernel
theorem dX7_down_6 : decode cX7_down 6 = .ok (.ifCond .ne 6, 3) := by decide +kernel
theorem dX7_down_9 : decode cX7_down 9 = .ok (.bipush (-2), 2) := by decide +kernel
theorem dX7_down_11 : decode cX7_down 11 = .ok (.ireturn, 1) := by decide +kernel
theorem dX7_down_12 : decode cX7_down 12 = .ok (.aload_n 0, 1) := by decide +kernel
theorem dX7_down_13 : decode cX7_down 13 = .ok (.invokevirtual 145, 3) := by decide +kernel
theorem dX7_down_16 : decode cX7_down 16 = .ok (.ifCond .eq 10, 3) := by decide +kernel
theorem dX7_down_19 : decode cX7_down 19 = .ok (.aload_n 0, 1) := by decide +kernel
theorem dX7_down_20 : decode cX7_down 20 = .ok (.invokevirtual 149, 3) := by decide +kernel
theorem dX7_down_23 : decode cX7_down 23 = .ok (.ifCond .le 6, 3) := by decide +kernel
theorem dX7_down_26 : decode cX7_down 26 = .ok (.bipush (-3), 2) := by decide +kernel
theorem dX7_down_28 : decode cX7_down 28 = .ok (.ireturn, 1) := by decide +kernel
theorem dX7_down_29 : decode cX7_down 29 = .ok (.aload_n 0, 1) := by decide +kernel
theorem dX7_down_30 : decode cX7_down 30 = .ok (.invokevirtual 206, 3) := by decide +kernel
theorem dX7_down_33 : decode cX7_down 33 = .ok (.iload_n 1, 1) := by decide +kernel
theorem dX7_down_34 : decode cX7_down 34 = .ok (.iconst 0, 1) := by decide +kernel
theorem dX7_down_35 : decode cX7_down 35 = .ok (.aload_n 0, 1) := by decide +kernel
theorem dX7_down_36 : decode cX7_down 36 = .ok (.getfield 194, 3) := by decide +kernel
theorem dX7_down_39 : decode cX7_down 39 = .ok (.iconst 1, 1) := by decide +kernel
theorem dX7_down_40 : decode cX7_down 40 = .ok (.isub, 1) := by decide +kernel
theorem dX7_down_41 : decode cX7_down 41 = .ok (.invokestatic 75, 3) := by decide +kernel
theorem dX7_down_44 : decode cX7_down 44 = .ok (.ifCond .eq 16, 3) := by decide +kernel
theorem dX7_down_47 : decode cX7_down 47 = .ok (.aload_n 0, 1) := by decide +kernel
theorem dX7_down_48 : decode cX7_down 48 = .ok (.getfield 56, 3) := by decide +kernel
theorem dX7_down_51 : decode cX7_down 51 = .ok (.iconst 3, 1) := by decide +kernel
theorem dX7_down_52 : decode cX7_down 52 = .ok (.iload_n 1, 1) := by decide +kernel
theorem dX7_down_53 : decode cX7_down 53 = .ok (.imul, 1) := by decide +kernel
theorem dX7_down_54 : decode cX7_down 54 = .ok (.iload_n 2, 1) := by decide +kernel
theorem dX7_down_55 : decode cX7_down 55 = .ok (.iadd, 1) := by decide +kernel
theorem dX7_down_56 : decode cX7_down 56 = .ok (.iaload, 1) := by decide +kernel
theorem dX7_down_57 : decode cX7_down 57 = .ok (.goto 5, 3) := by decide +kernel
theorem dX7_down_60 : decode cX7_down 60 = .ok (.bipush (-12), 2) := by decide +kernel
theorem dX7_down_62 : decode cX7_down 62 = .ok (.ireturn, 1) := by decide +kernel
theorem dX7_puts_0 : decode cX7_puts 0 = .ok (.aload_n 0, 1) := by decide +kernel
theorem dX7_puts_1 : decode cX7_puts 1 = .ok (.getfield 22, 3) := by decide +kernel
theorem dX7_puts_4 : decode cX7_puts 4 = .ok (.aload_n 0, 1) := by decide +kernel
theorem dX7_puts_5 : decode cX7_puts 5 = .ok (.getfield 209, 3) := by decide +kernel
theorem dX7_puts_8 : decode cX7_puts 8 = .ok (.iload_n 1, 1) := by decide +kernel
theorem dX7_puts_9 : decode cX7_puts 9 = .ok (.iastore, 1) := by decide +kernel
theorem dX7_puts_10 : decode cX7_puts 10 = .ok (.aload_n 0, 1) := by decide +kernel
theorem dX7_puts_11 : decode cX7_puts 11 = .ok (.dup, 1) := by decide +kernel
theorem dX7_puts_12 : decode cX7_puts 12 = .ok (.getfield 209, 3) := by decide +kernel
theorem dX7_puts_15 : decode cX7_puts 15 = .ok (.iconst 1, 1) := by decide +kernel
theorem dX7_puts_16 : decode cX7_puts 16 = .ok (.iadd, 1) := by decide +kernel
theorem dX7_puts_17 : decode cX7_puts 17 = .ok (.putfield 209, 3) := by decide +kernel
theorem dX7_puts_20 : decode cX7_puts 20 = .ok (.return_, 1) := by decide +kernel
theorem dX7_putsName_0 : decode cX7_putsName 0 = .ok (.iconst 0, 1) := by decide +kernel
theorem dX7_putsName_1 : decode cX7_putsName 1 = .ok (.istore_n 2, 1) := by decide +kernel
theorem dX7_putsName_2 : decode cX7_putsName 2 = .ok (.iload_n 2, 1) := by decide +kernel
theorem dX7_putsName_3 : decode cX7_putsName 3 = .ok (.aload_n 0, 1) := by decide +kernel
theorem dX7_putsName_4 : decode cX7_putsName 4 = .ok (.iload_n 1, 1) := by decide +kernel
theorem dX7_putsName_5 : decode cX7_putsName 5 = .ok (.invokevirtual 158, 3) := by decide +kernel
theorem dX7_putsName_8 : decode cX7_putsName 8 = .ok (.if_icmp .ge 23, 3) := by decide +kernel
theorem dX7_putsName_11 : decode cX7_putsName 11 = .ok (.aload_n 0, 1) := by decide +kernel
theorem dX7_putsName_12 : decode cX7_putsName 12 = .ok (.aload_n 0, 1) := by decide +kernel
theorem dX7_putsName_13 : decode cX7_putsName 13 = .ok (.getfield 9, 3) := by decide +kernel
theorem dX7_putsName_16 : decode cX7_putsName 16 = .ok (.iconst 4, 1) := by decide +kernel
theorem dX7_putsName_17 : decode cX7_putsName 17 = .ok (.iload_n 1, 1) := by decide +kernel
theorem dX7_putsName_18 : decode cX7_putsName 18 = .ok (.imul, 1) := by decide +kernel
theorem dX7_putsName_19 : decode cX7_putsName 19 = .ok (.iload_n 2, 1) := by decide +kernel
theorem dX7_putsName_20 : decode cX7_putsName 20 = .ok (.iadd, 1) := by decide +kernel
theorem dX7_putsName_21 : decode cX7_putsName 21 = .ok (.iaload, 1) := by decide +kernel
theorem dX7_putsName_22 : decode cX7_putsName 22 = .ok (.invokevirtual 212, 3) := by decide +kernel
theorem dX7_putsName_25 : decode cX7_putsName 25 = .ok (.iinc 2 1, 3) := by decide +kernel
theorem dX7_putsName_28 : decode cX7_putsName 28 = .ok (.goto (-26), 3) := by decide +kernel
theorem dX7_putsName_31 : decode cX7_putsName 31 = .ok (.return_, 1) := by decide +kernel
theorem dX7_line_0 : decode cX7_line 0 = .ok (.aload_n 0, 1) := by decide +kernel
theorem dX7_line_1 : decode cX7_line 1 = .ok (.iconst 0, 1) := by decide +kernel
theorem dX7_line_2 : decode cX7_line 2 = .ok (.putfield 209, 3) := by decide +kernel
theorem dX7_line_5 : decode cX7_line 5 = .ok (.iconst 0, 1) := by decide +kernel
theorem dX7_line_6 : decode cX7_line 6 = .ok (.istore_n 2, 1) := by decide +kernel
theorem dX7_line_7 : decode cX7_line 7 = .ok (.iload_n 2, 1) := by decide +kernel
theorem dX7_line_8 : decode cX7_line 8 = .ok (.aload_n 0, 1) := by decide +kernel
theorem dX7_line_9 : decode cX7_line 9 = .ok (.getfield 106, 3) := by decide +kernel
theorem dX7_line_12 : decode cX7_line 12 = .ok (.if_icmp .ge 45, 3) := by decide +kernel
theorem dX7_line_15 : decode cX7_line 15 = .ok (.iload_n 2, 1) := by decide +kernel
theorem dX7_line_16 : decode cX7_line 16 = .ok (.ifCond .le 9, 3) := by decide +kernel
theorem dX7_line_19 : decode cX7_line 19 = .ok (.aload_n 0, 1) := by decide +kernel
theorem dX7_line_20 : decode cX7_line 20 = .ok (.bipush 32, 2) := by decide +kernel
theorem dX7_line_22 : decode cX7_line 22 = .ok (.invokevirtual 212, 3) := by decide +kernel
theorem dX7_line_25 : decode cX7_line 25 = .ok (.aload_n 0, 1) := by decide +kernel
theorem dX7_line_26 : decode cX7_line 26 = .ok (.aload_n 0, 1) := by decide +kernel
theorem dX7_line_27 : decode cX7_line 27 = .ok (.getfield 13, 3) := by decide +kernel
theorem dX7_line_30 : decode cX7_line 30 = .ok (.iload_n 2, 1) := by decide +kernel
theorem dX7_line_31 : decode cX7_line 31 = .ok (.iaload, 1) := by decide +kernel
theorem dX7_line_32 : decode cX7_line 32 = .ok (.invokevirtual 216, 3) := by decide +kernel
theorem dX7_line_35 : decode cX7_line 35 = .ok (.aload_n 0, 1) := by decide +kernel
theorem dX7_line_36 : decode cX7_line 36 = .ok (.bipush 45, 2) := by decide +kernel
theorem dX7_line_38 : decode cX7_line 38 = .ok (.invokevirtual 212, 3) := by decide +kernel
theorem dX7_line_41 : decode cX7_line 41 = .ok (.aload_n 0, 1) := by decide +kernel
theorem dX7_line_42 : decode cX7_line 42 = .ok (.aload_n 0, 1) := by decide +kernel
theorem dX7_line_43 : decode cX7_line 43 = .ok (.getfield 16, 3) := by decide +kernel
theorem dX7_line_46 : decode cX7_line 46 = .ok (.iload_n 2, 1) := by decide +kernel
theorem dX7_line_47 : decode cX7_line 47 = .ok (.iaload, 1) := by decide +kernel
theorem dX7_line_48 : decode cX7_line 48 = .ok (.invokevirtual 216, 3) := by decide +kernel
theorem dX7_line_51 : decode cX7_line 51 = .ok (.iinc 2 1, 3) := by decide +kernel
theorem dX7_line_54 : decode cX7_line 54 = .ok (.goto (-47), 3) := by decide +kernel
theorem dX7_line_57 : decode cX7_line 57 = .ok (.iload_n 1, 1) := by decide +kernel
theorem dX7_line_58 : decode cX7_line 58 = .ok (.iconst (-1), 1) := by decide +kernel
theorem dX7_line_59 : decode cX7_line 59 = .ok (.if_icmp .ne 10, 3) := by decide +kernel
theorem dX7_line_62 : decode cX7_line 62 = .ok (.aload_n 0, 1) := by decide +kernel
theorem dX7_line_63 : decode cX7_line 63 = .ok (.getfield 209, 3) := by decide +kernel
theorem dX7_line_66 : decode cX7_line 66 = .ok (.goto 27, 3) := by decide +kernel
theorem dX7_line_69 : decode cX7_line 69 = .ok (.iload_n 1, 1) := by decide +kernel
theorem dX7_line_70 : decode cX7_line 70 = .ok (.iconst 0, 1) := by decide +kernel
theorem dX7_line_71 : decode cX7_line 71 = .ok (.aload_n 0, 1) := by decide +kernel
theorem dX7_line_72 : decode cX7_line 72 = .ok (.getfield 209, 3) := by decide +kernel
theorem dX7_line_75 : decode cX7_line 75 = .ok (.iconst 1, 1) := by decide +kernel
theorem dX7_line_76 : decode cX7_line 76 = .ok (.isub, 1) := by decide +kernel
theorem dX7_line_77 : decode cX7_line 77 = .ok (.invokestatic 75, 3) := by decide +kernel
theorem dX7_line_80 : decode cX7_line 80 = .ok (.ifCond .eq 12, 3) := by decide +kernel
theorem dX7_line_83 : decode cX7_line 83 = .ok (.aload_n 0, 1) := by decide +kernel
theorem dX7_line_84 : decode cX7_line 84 = .ok (.getfield 22, 3) := by decide +kernel
theorem dX7_line_87 : decode cX7_line 87 = .ok (.iload_n 1, 1) := by decide +kernel
theorem dX7_line_88 : decode cX7_line 88 = .ok (.iaload, 1) := by decide +kernel
theorem dX7_line_89 : decode cX7_line 89 = .ok (.goto 4, 3) := by decide +kernel
theorem dX7_line_92 : decode cX7_line 92 = .ok (.iconst (-1), 1) := by decide +kernel
theorem dX7_line_93 : decode cX7_line 93 = .ok (.ireturn, 1) := by decide +kernel
theorem dX7_feed_0 : decode cX7_feed 0 = .ok (.iload_n 1, 1) := by decide +kernel
theorem dX7_feed_1 : decode cX7_feed 1 = .ok (.iconst 1, 1) := by decide +kernel
theorem dX7_feed_2 : decode cX7_feed 2 = .ok (.iconst 5, 1) := by decide +kernel
theorem dX7_feed_3 : decode cX7_feed 3 = .ok (.invokestatic 75, 3) := by decide +kernel
theorem dX7_feed_6 : decode cX7_feed 6 = .ok (.ifCond .eq 61, 3) := by decide +kernel
theorem dX7_feed_9 : decode cX7_feed 9 = .ok (.iload_n 2, 1) := by decide +kernel
theorem dX7_feed_10 : decode cX7_feed 10 = .ok (.iconst 0, 1) := by decide +kernel
theorem dX7_feed_11 : decode cX7_feed 11 = .ok (.sipush 255, 3) := by decide +kernel
theorem dX7_feed_14 : decode cX7_feed 14 = .ok (.invokestatic 75, 3) := by decide +kernel
theorem dX7_feed_17 : decode cX7_feed 17 = .ok (.ifCond .eq 50, 3) := by decide +kernel
theorem dX7_feed_20 : decode cX7_feed 20 = .ok (.iload_n 3, 1) := by decide +kernel
theorem dX7_feed_21 : decode cX7_feed 21 = .ok (.iconst 0, 1) := by decide +kernel
theorem dX7_feed_22 : decode cX7_feed 22 = .ok (.sipush 255, 3) := by decide +kernel
theorem dX7_feed_25 : decode cX7_feed 25 = .ok (.invokestatic 75, 3) := by decide +kernel
theorem dX7_feed_28 : decode cX7_feed 28 = .ok (.ifCond .eq 39, 3) := by decide +kernel
theorem dX7_feed_31 : decode cX7_feed 31 = .ok (.iload 4, 2) := by decide +kernel
theorem dX7_feed_33 : decode cX7_feed 33 = .ok (.iconst 0, 1) := by decide +kernel
theorem dX7_feed_34 : decode cX7_feed 34 = .ok (.sipush 255, 3) := by decide +kernel
theorem dX7_feed_37 : decode cX7_feed 37 = .ok (.invokestatic 75, 3) := by decide +kernel
theorem dX7_feed_40 : decode cX7_feed 40 = .ok (.ifCond .eq 27, 3) := by decide +kernel
theorem dX7_feed_43 : decode cX7_feed 43 = .ok (.iload 5, 2) := by decide +kernel
theorem dX7_feed_45 : decode cX7_feed 45 = .ok (.iconst 0, 1) := by decide +kernel
theorem dX7_feed_46 : decode cX7_feed 46 = .ok (.sipush 255, 3) := by decide +kernel
theorem dX7_feed_49 : decode cX7_feed 49 = .ok (.invokestatic 75, 3) := by decide +kernel
theorem dX7_feed_52 : decode cX7_feed 52 = .ok (.ifCond .eq 15, 3) := by decide +kernel
theorem dX7_feed_55 : decode cX7_feed 55 = .ok (.iload 6, 2) := by decide +kernel
theorem dX7_feed_57 : decode cX7_feed 57 = .ok (.iconst 0, 1) := by decide +kernel
theorem dX7_feed_58 : decode cX7_feed 58 = .ok (.sipush 255, 3) := by decide +kernel
theorem dX7_feed_61 : decode cX7_feed 61 = .ok (.invokestatic 75, 3) := by decide +kernel
theorem dX7_feed_64 : decode cX7_feed 64 = .ok (.ifCond .ne 6, 3) := by decide +kernel
theorem dX7_feed_67 : decode cX7_feed 67 = .ok (.bipush (-2), 2) := by decide +kernel
theorem dX7_feed_69 : decode cX7_feed 69 = .ok (.ireturn, 1) := by decide +kernel
theorem dX7_feed_70 : decode cX7_feed 70 = .ok (.aload_n 0, 1) := by decide +kernel
theorem dX7_feed_71 : decode cX7_feed 71 = .ok (.getfield 155, 3) := by decide +kernel
theorem dX7_feed_74 : decode cX7_feed 74 = .ok (.iload_n 1, 1) := by decide +kernel
theorem dX7_feed_75 : decode cX7_feed 75 = .ok (.iadd, 1) := by decide +kernel
theorem dX7_feed_76 : decode cX7_feed 76 = .ok (.bipush 30, 2) := by decide +kernel
theorem dX7_feed_78 : decode cX7_feed 78 = .ok (.if_icmp .le 6, 3) := by decide +kernel
theorem dX7_feed_81 : decode cX7_feed 81 = .ok (.bipush (-4), 2) := by decide +kernel
theorem dX7_feed_83 : decode cX7_feed 83 = .ok (.ireturn, 1) := by decide +kernel
theorem dX7_feed_84 : decode cX7_feed 84 = .ok (.iconst 0, 1) := by decide +kernel
theorem dX7_feed_85 : decode cX7_feed 85 = .ok (.istore 7, 2) := by decide +kernel
theorem dX7_feed_87 : decode cX7_feed 87 = .ok (.iload 7, 2) := by decide +kernel
theorem dX7_feed_89 : decode cX7_feed 89 = .ok (.iload_n 1, 1) := by decide +kernel
theorem dX7_feed_90 : decode cX7_feed 90 = .ok (.if_icmp .ge 64, 3) := by decide +kernel
theorem dX7_feed_93 : decode cX7_feed 93 = .ok (.aload_n 0, 1) := by decide +kernel
theorem dX7_feed_94 : decode cX7_feed 94 = .ok (.getfield 19, 3) := by decide +kernel
theorem dX7_feed_97 : decode cX7_feed 97 = .ok (.aload_n 0, 1) := by decide +kernel
theorem dX7_feed_98 : decode cX7_feed 98 = .ok (.getfield 155, 3) := by decide +kernel
theorem dX7_feed_101 : decode cX7_feed 101 = .ok (.iload 7, 2) := by decide +kernel
theorem dX7_feed_103 : decode cX7_feed 103 = .ok (.iadd, 1) := by decide +kernel
theorem dX7_feed_104 : decode cX7_feed 104 = .ok (.iload 7, 2) := by decide +kernel
theorem dX7_feed_106 : decode cX7_feed 106 = .ok (.ifCond .ne 7, 3) := by decide +kernel
theorem dX7_feed_109 : decode cX7_feed 109 = .ok (.iload_n 2, 1) := by decide +kernel
theorem dX7_feed_110 : decode cX7_feed 110 = .ok (.goto 37, 3) := by decide +kernel
theorem dX7_feed_113 : decode cX7_feed 113 = .ok (.iload 7, 2) := by decide +kernel
theorem dX7_feed_115 : decode cX7_feed 115 = .ok (.iconst 1, 1) := by decide +kernel
theorem dX7_feed_116 : decode cX7_feed 116 = .ok (.if_icmp .ne 7, 3) := by decide +kernel
theorem dX7_feed_119 : decode cX7_feed 119 = .ok (.iload_n 3, 1) := by decide +kernel
theorem dX7_feed_120 : decode cX7_feed 120 = .ok (.goto 27, 3) := by decide +kernel
theorem dX7_feed_123 : decode cX7_feed 123 = .ok (.iload 7, 2) := by decide +kernel
theorem dX7_feed_125 : decode cX7_feed 125 = .ok (.iconst 2, 1) := by decide +kernel
theorem dX7_feed_126 : decode cX7_feed 126 = .ok (.if_icmp .ne 8, 3) := by decide +kernel
theorem dX7_feed_129 : decode cX7_feed 129 = .ok (.iload 4, 2) := by decide +kernel
theorem dX7_feed_131 : decode cX7_feed 131 = .ok (.goto 16, 3) := by decide +kernel
theorem dX7_feed_134 : decode cX7_feed 134 = .ok (.iload 7, 2) := by decide +kernel
theorem dX7_feed_136 : decode cX7_feed 136 = .ok (.iconst 3, 1) := by decide +kernel
theorem dX7_feed_137 : decode cX7_feed 137 = .ok (.if_icmp .ne 8, 3) := by decide +kernel
theorem dX7_feed_140 : decode cX7_feed 140 = .ok (.iload 5, 2) := by decide +kernel
theorem dX7_feed_142 : decode cX7_feed 142 = .ok (.goto 5, 3) := by decide +kernel
theorem dX7_feed_145 : decode cX7_feed 145 = .ok (.iload 6, 2) := by decide +kernel
theorem dX7_feed_147 : decode cX7_feed 147 = .ok (.iastore, 1) := by decide +kernel
theorem dX7_feed_148 : decode cX7_feed 148 = .ok (.iinc 7 1, 3) := by decide +kernel
theorem dX7_feed_151 : decode cX7_feed 151 = .ok (.goto (-64), 3) := by decide +kernel
theorem dX7_feed_154 : decode cX7_feed 154 = .ok (.aload_n 0, 1) := by decide +kernel
theorem dX7_feed_155 : decode cX7_feed 155 = .ok (.dup, 1) := by decide +kernel
theorem dX7_feed_156 : decode cX7_feed 156 = .ok (.getfield 155, 3) := by decide +kernel
theorem dX7_feed_159 : decode cX7_feed 159 = .ok (.iload_n 1, 1) := by decide +kernel
theorem dX7_feed_160 : decode cX7_feed 160 = .ok (.iadd, 1) := by decide +kernel
theorem dX7_feed_161 : decode cX7_feed 161 = .ok (.putfield 155, 3) := by decide +kernel
theorem dX7_feed_164 : decode cX7_feed 164 = .ok (.aload_n 0, 1) := by decide +kernel
theorem dX7_feed_165 : decode cX7_feed 165 = .ok (.getfield 155, 3) := by decide +kernel
theorem dX7_feed_168 : decode cX7_feed 168 = .ok (.ireturn, 1) := by decide +kernel
theorem dX7_isLetter_0 : decode cX7_isLetter 0 = .ok (.iload_n 1, 1) := by decide +kernel
theorem dX7_isLetter_1 : decode cX7_isLetter 1 = .ok (.aload_n 0, 1) := by decide +kernel
theorem dX7_isLetter_2 : decode cX7_isLetter 2 = .ok (.getfield 155, 3) := by decide +kernel
theorem dX7_isLetter_5 : decode cX7_isLetter 5 = .ok (.if_icmp .ge 23, 3) := by decide +kernel
theorem dX7_isLetter_8 : decode cX7_isLetter 8 = .ok (.aload_n 0, 1) := by decide +kernel
theorem dX7_isLetter_9 : decode cX7_isLetter 9 = .ok (.getfield 19, 3) := by decide +kernel
theorem dX7_isLetter_12 : decode cX7_isLetter 12 = .ok (.iload_n 1, 1) := by decide +kernel
theorem dX7_isLetter_13 : decode cX7_isLetter 13 = .ok (.iaload, 1) := by decide +kernel
theorem dX7_isLetter_14 : decode cX7_isLetter 14 = .ok (.bipush 97, 2) := by decide +kernel
theorem dX7_isLetter_16 : decode cX7_isLetter 16 = .ok (.bipush 122, 2) := by decide +kernel
theorem dX7_isLetter_18 : decode cX7_isLetter 18 = .ok (.invokestatic 75, 3) := by decide +kernel
theorem dX7_isLetter_21 : decode cX7_isLetter 21 = .ok (.ifCond .eq 7, 3) := by decide +kernel
theorem dX7_isLetter_24 : decode cX7_isLetter 24 = .ok (.iconst 1, 1) := by decide +kernel
theorem dX7_isLetter_25 : decode cX7_isLetter 25 = .ok (.goto 4, 3) := by decide +kernel
theorem dX7_isLetter_28 : decode cX7_isLetter 28 = .ok (.iconst 0, 1) := by decide +kernel
theorem dX7_isLetter_29 : decode cX7_isLetter 29 = .ok (.ireturn, 1) := by decide +kernel
theorem dX7_fails_0 : decode cX7_fails 0 = .ok (.aload_n 0, 1) := by decide +kernel
theorem dX7_fails_1 : decode cX7_fails 1 = .ok (.getfield 219, 3) := by decide +kernel
theorem dX7_fails_4 : decode cX7_fails 4 = .ok (.ifCond .ge 8, 3) := by decide +kernel
theorem dX7_fails_7 : decode cX7_fails 7 = .ok (.aload_n 0, 1) := by decide +kernel
theorem dX7_fails_8 : decode cX7_fails 8 = .ok (.iload_n 1, 1) := by decide +kernel
theorem dX7_fails_9 : decode cX7_fails 9 = .ok (.putfield 219, 3) := by decide +kernel
theorem dX7_fails_12 : decode cX7_fails 12 = .ok (.return_, 1) := by decide +kernel
theorem dX7_word_0 : decode cX7_word 0 = .ok (.aload_n 0, 1) := by decide +kernel
theorem dX7_word_1 : decode cX7_word 1 = .ok (.getfield 222, 3) := by decide +kernel
theorem dX7_word_4 : decode cX7_word 4 = .ok (.aload_n 0, 1) := by decide +kernel
theorem dX7_word_5 : decode cX7_word 5 = .ok (.getfield 155, 3) := by decide +kernel
theorem dX7_word_8 : decode cX7_word 8 = .ok (.if_icmp .ge 30, 3) := by decide +kernel
theorem dX7_word_11 : decode cX7_word 11 = .ok (.aload_n 0, 1) := by decide +kernel
theorem dX7_word_12 : decode cX7_word 12 = .ok (.getfield 19, 3) := by decide +kernel
theorem dX7_word_15 : decode cX7_word 15 = .ok (.aload_n 0, 1) := by decide +kernel
theorem dX7_word_16 : decode cX7_word 16 = .ok (.getfield 222, 3) := by decide +kernel
theorem dX7_word_19 : decode cX7_word 19 = .ok (.iaload, 1) := by decide +kernel
theorem dX7_word_20 : decode cX7_word 20 = .ok (.bipush 32, 2) := by decide +kernel
theorem dX7_word_22 : decode cX7_word 22 = .ok (.if_icmp .ne 16, 3) := by decide +kernel
theorem dX7_word_25 : decode cX7_word 25 = .ok (.aload_n 0, 1) := by decide +kernel
theorem dX7_word_26 : decode cX7_word 26 = .ok (.dup, 1) := by decide +kernel
theorem dX7_word_27 : decode cX7_word 27 = .ok (.getfield 222, 3) := by decide +kernel
theorem dX7_word_30 : decode cX7_word 30 = .ok (.iconst 1, 1) := by decide +kernel
theorem dX7_word_31 : decode cX7_word 31 = .ok (.iadd, 1) := by decide +kernel
theorem dX7_word_32 : decode cX7_word 32 = .ok (.putfield 222, 3) := by decide +kernel
theorem dX7_word_35 : decode cX7_word 35 = .ok (.goto (-35), 3) := by decide +kernel
theorem dX7_word_38 : decode cX7_word 38 = .ok (.aload_n 0, 1) := by decide +kernel
theorem dX7_word_39 : decode cX7_word 39 = .ok (.aload_n 0, 1) := by decide +kernel
theorem dX7_word_40 : decode cX7_word 40 = .ok (.getfield 222, 3) := by decide +kernel
theorem dX7_word_43 : decode cX7_word 43 = .ok (.putfield 225, 3) := by decide +kernel
theorem dX7_word_46 : decode cX7_word 46 = .ok (.aload_n 0, 1) := by decide +kernel
theorem dX7_word_47 : decode cX7_word 47 = .ok (.aload_n 0, 1) := by decide +kernel
theorem dX7_word_48 : decode cX7_word 48 = .ok (.getfield 222, 3) := by decide +kernel
theorem dX7_word_51 : decode cX7_word 51 = .ok (.invokevirtual 228, 3) := by decide +kernel
theorem dX7_word_54 : decode cX7_word 54 = .ok (.ifCond .eq 16, 3) := by decide +kernel
theorem dX7_word_57 : decode cX7_word 57 = .ok (.aload_n 0, 1) := by decide +kernel
theorem dX7_word_58 : decode cX7_word 58 = .ok (.dup, 1) := by decide +kernel
theorem dX7_word_59 : decode cX7_word 59 = .ok (.getfield 222, 3) := by decide +kernel
theorem dX7_word_62 : decode cX7_word 62 = .ok (.iconst 1, 1) := by decide +kernel
theorem dX7_word_63 : decode cX7_word 63 = .ok (.iadd, 1) := by decide +kernel
theorem dX7_word_64 : decode cX7_word 64 = .ok (.putfield 222, 3) := by decide +kernel
theorem dX7_word_67 : decode cX7_word 67 = .ok (.goto (-21), 3) := by decide +kernel
theorem dX7_word_70 : decode cX7_word 70 = .ok (.aload_n 0, 1) := by decide +kernel
theorem dX7_word_71 : decode cX7_word 71 = .ok (.aload_n 0, 1) := by decide +kernel
theorem dX7_word_72 : decode cX7_word 72 = .ok (.getfield 222, 3) := by decide +kernel
theorem dX7_word_75 : decode cX7_word 75 = .ok (.putfield 231, 3) := by decide +kernel
theorem dX7_word_78 : decode cX7_word 78 = .ok (.aload_n 0, 1) := by decide +kernel
theorem dX7_word_79 : decode cX7_word 79 = .ok (.getfield 231, 3) := by decide +kernel
theorem dX7_word_82 : decode cX7_word 82 = .ok (.aload_n 0, 1) := by decide +kernel
theorem dX7_word_83 : decode cX7_word 83 = .ok (.getfield 225, 3) := by decide +kernel
theorem dX7_word_86 : decode cX7_word 86 = .ok (.if_icmp .eq 16, 3) := by decide +kernel
theorem dX7_word_89 : decode cX7_word 89 = .ok (.aload_n 0, 1) := by decide +kernel
theorem dX7_word_90 : decode cX7_word 90 = .ok (.getfield 231, 3) := by decide +kernel
theorem dX7_word_93 : decode cX7_word 93 = .ok (.aload_n 0, 1) := by decide +kernel
theorem dX7_word_94 : decode cX7_word 94 = .ok (.getfield 225, 3) := by decide +kernel
theorem dX7_word_97 : decode cX7_word 97 = .ok (.isub, 1) := by decide +kernel
theorem dX7_word_98 : decode cX7_word 98 = .ok (.iconst 4, 1) := by decide +kernel
theorem dX7_word_99 : decode cX7_word 99 = .ok (.if_icmp .le 11, 3) := by decide +kernel
theorem dX7_word_102 : decode cX7_word 102 = .ok (.aload_n 0, 1) := by decide +kernel
theorem dX7_word_103 : decode cX7_word 103 = .ok (.aload_n 0, 1) := by decide +kernel
theorem dX7_word_104 : decode cX7_word 104 = .ok (.getfield 225, 3) := by decide +kernel
theorem dX7_word_107 : decode cX7_word 107 = .ok (.invokevirtual 234, 3) := by decide +kernel
theorem dX7_word_110 : decode cX7_word 110 = .ok (.return_, 1) := by decide +kernel
theorem dX7_isWord_0 : decode cX7_isWord 0 = .ok (.aload_n 0, 1) := by decide +kernel
theorem dX7_isWord_1 : decode cX7_isWord 1 = .ok (.getfield 231, 3) := by decide +kernel
theorem dX7_isWord_4 : decode cX7_isWord 4 = .ok (.aload_n 0, 1) := by decide +kernel
theorem dX7_isWord_5 : decode cX7_isWord 5 = .ok (.getfield 225, 3) := by decide +kernel
theorem dX7_isWord_8 : decode cX7_isWord 8 = .ok (.isub, 1) := by decide +kernel
theorem dX7_isWord_9 : decode cX7_isWord 9 = .ok (.iconst 3, 1) := by decide +kernel
theorem dX7_isWord_10 : decode cX7_isWord 10 = .ok (.if_icmp .ne 50, 3) := by decide +kernel
theorem dX7_isWord_13 : decode cX7_isWord 13 = .ok (.aload_n 0, 1) := by decide +kernel
theorem dX7_isWord_14 : decode cX7_isWord 14 = .ok (.getfield 19, 3) := by decide +kernel
theorem dX7_isWord_17 : decode cX7_isWord 17 = .ok (.aload_n 0, 1) := by decide +kernel
theorem dX7_isWord_18 : decode cX7_isWord 18 = .ok (.getfield 225, 3) := by decide +kernel
theorem dX7_isWord_21 : decode cX7_isWord 21 = .ok (.iaload, 1) := by decide +kernel
theorem dX7_isWord_22 : decode cX7_isWord 22 = .ok (.iload_n 1, 1) := by decide +kernel
theorem dX7_isWord_23 : decode cX7_isWord 23 = .ok (.if_icmp .ne 37, 3) := by decide +kernel
theorem dX7_isWord_26 : decode cX7_isWord 26 = .ok (.aload_n 0, 1) := by decide +kernel
theorem dX7_isWord_27 : decode cX7_isWord 27 = .ok (.getfield 19, 3) := by decide +kernel
theorem dX7_isWord_30 : decode cX7_isWord 30 = .ok (.aload_n 0, 1) := by decide +kernel
theorem dX7_isWord_31 : decode cX7_isWord 31 = .ok (.getfield 225, 3) := by decide +kernel
theorem dX7_isWord_34 : decode cX7_isWord 34 = .ok (.iconst 1, 1) := by decide +kernel
theorem dX7_isWord_35 : decode cX7_isWord 35 = .ok (.iadd, 1) := by decide +kernel
theorem dX7_isWord_36 : decode cX7_isWord 36 = .ok (.iaload, 1) := by decide +kernel
theorem dX7_isWord_37 : decode cX7_isWord 37 = .ok (.iload_n 2, 1) := by decide +kernel
theorem dX7_isWord_38 : decode cX7_isWord 38 = .ok (.if_icmp .ne 22, 3) := by decide +kernel
theorem dX7_isWord_41 : decode cX7_isWord 41 = .ok (.aload_n 0, 1) := by decide +kernel
theorem dX7_isWord_42 : decode cX7_isWord 42 = .ok (.getfield 19, 3) := by decide +kernel
theorem dX7_isWord_45 : decode cX7_isWord 45 = .ok (.aload_n 0, 1) := by decide +kernel
theorem dX7_isWord_46 : decode cX7_isWord 46 = .ok (.getfield 225, 3) := by decide +kernel
theorem dX7_isWord_49 : decode cX7_isWord 49 = .ok (.iconst 2, 1) := by decide +kernel
theorem dX7_isWord_50 : decode cX7_isWord 50 = .ok (.iadd, 1) := by decide +kernel
theorem dX7_isWord_51 : decode cX7_isWord 51 = .ok (.iaload, 1) := by decide +kernel
theorem dX7_isWord_52 : decode cX7_isWord 52 = .ok (.iload_n 3, 1) := by decide +kernel
theorem dX7_isWord_53 : decode cX7_isWord 53 = .ok (.if_icmp .ne 7, 3) := by decide +kernel
theorem dX7_isWord_56 : decode cX7_isWord 56 = .ok (.iconst 1, 1) := by decide +kernel
theorem dX7_isWord_57 : decode cX7_isWord 57 = .ok (.goto 4, 3) := by decide +kernel
theorem dX7_isWord_60 : decode cX7_isWord 60 = .ok (.iconst 0, 1) := by decide +kernel
theorem dX7_isWord_61 : decode cX7_isWord 61 = .ok (.ireturn, 1) := by decide +kernel
theorem dX7_verb_0 : decode cX7_verb 0 = .ok (.aload_n 0, 1) := by decide +kernel
theorem dX7_verb_1 : decode cX7_verb 1 = .ok (.bipush 112, 2) := by decide +kernel
theorem dX7_verb_3 : decode cX7_verb 3 = .ok (.bipush 105, 2) := by decide +kernel
theorem dX7_verb_5 : decode cX7_verb 5 = .ok (.bipush 110, 2) := by decide +kernel
theorem dX7_verb_7 : decode cX7_verb 7 = .ok (.invokevirtual 237, 3) := by decide +kernel
theorem dX7_verb_10 : decode cX7_verb 10 = .ok (.ifCond .eq 7, 3) := by decide +kernel
theorem dX7_verb_13 : decode cX7_verb 13 = .ok (.iconst 0, 1) := by decide +kernel
theorem dX7_verb_14 : decode cX7_verb 14 = .ok (.goto 38, 3) := by decide +kernel
theorem dX7_verb_17 : decode cX7_verb 17 = .ok (.aload_n 0, 1) := by decide +kernel
theorem dX7_verb_18 : decode cX7_verb 18 = .ok (.bipush 98, 2) := by decide +kernel
theorem dX7_verb_20 : decode cX7_verb 20 = .ok (.bipush 97, 2) := by decide +kernel
theorem dX7_verb_22 : decode cX7_verb 22 = .ok (.bipush 114, 2) := by decide +kernel
theorem dX7_verb_24 : decode cX7_verb 24 = .ok (.invokevirtual 237, 3) := by decide +kernel
theorem dX7_verb_27 : decode cX7_verb 27 = .ok (.ifCond .eq 7, 3) := by decide +kernel
theorem dX7_verb_30 : decode cX7_verb 30 = .ok (.iconst 1, 1) := by decide +kernel
theorem dX7_verb_31 : decode cX7_verb 31 = .ok (.goto 21, 3) := by decide +kernel
theorem dX7_verb_34 : decode cX7_verb 34 = .ok (.aload_n 0, 1) := by decide +kernel
theorem dX7_verb_35 : decode cX7_verb 35 = .ok (.bipush 111, 2) := by decide +kernel
theorem dX7_verb_37 : decode cX7_verb 37 = .ok (.bipush 102, 2) := by decide +kernel
theorem dX7_verb_39 : decode cX7_verb 39 = .ok (.bipush 102, 2) := by decide +kernel
theorem dX7_verb_41 : decode cX7_verb 41 = .ok (.invokevirtual 237, 3) := by decide +kernel
theorem dX7_verb_44 : decode cX7_verb 44 = .ok (.ifCond .eq 7, 3) := by decide +kernel
theorem dX7_verb_47 : decode cX7_verb 47 = .ok (.iconst 2, 1) := by decide +kernel
theorem dX7_verb_48 : decode cX7_verb 48 = .ok (.goto 4, 3) := by decide +kernel
theorem dX7_verb_51 : decode cX7_verb 51 = .ok (.iconst (-1), 1) := by decide +kernel
theorem dX7_verb_52 : decode cX7_verb 52 = .ok (.ireturn, 1) := by decide +kernel
theorem dX7_whose_0 : decode cX7_whose 0 = .ok (.iconst 0, 1) := by decide +kernel
theorem dX7_whose_1 : decode cX7_whose 1 = .ok (.istore_n 1, 1) := by decide +kernel
theorem dX7_whose_2 : decode cX7_whose 2 = .ok (.iload_n 1, 1) := by decide +kernel
theorem dX7_whose_3 : decode cX7_whose 3 = .ok (.aload_n 0, 1) := by decide +kernel
theorem dX7_whose_4 : decode cX7_whose 4 = .ok (.getfield 71, 3) := by decide +kernel
theorem dX7_whose_7 : decode cX7_whose 7 = .ok (.if_icmp .ge 93, 3) := by decide +kernel
theorem dX7_whose_10 : decode cX7_whose 10 = .ok (.aload_n 0, 1) := by decide +kernel
theorem dX7_whose_11 : decode cX7_whose 11 = .ok (.iload_n 1, 1) := by decide +kernel
theorem dX7_whose_12 : decode cX7_whose 12 = .ok (.invokevirtual 158, 3) := by decide +kernel
theorem dX7_whose_15 : decode cX7_whose 15 = .ok (.aload_n 0, 1) := by decide +kernel
theorem dX7_whose_16 : decode cX7_whose 16 = .ok (.getfield 231, 3) := by decide +kernel
theorem dX7_whose_19 : decode cX7_whose 19 = .ok (.aload_n 0, 1) := by decide +kernel
theorem dX7_whose_20 : decode cX7_whose 20 = .ok (.getfield 225, 3) := by decide +kernel
theorem dX7_whose_23 : decode cX7_whose 23 = .ok (.isub, 1) := by decide +kernel
theorem dX7_whose_24 : decode cX7_whose 24 = .ok (.if_icmp .ne 7, 3) := by decide +kernel
theorem dX7_whose_27 : decode cX7_whose 27 = .ok (.iconst 1, 1) := by decide +kernel
theorem dX7_whose_28 : decode cX7_whose 28 = .ok (.goto 4, 3) := by decide +kernel
theorem dX7_whose_31 : decode cX7_whose 31 = .ok (.iconst 0, 1) := by decide +kernel
theorem dX7_whose_32 : decode cX7_whose 32 = .ok (.istore_n 2, 1) := by decide +kernel
theorem dX7_whose_33 : decode cX7_whose 33 = .ok (.iconst 0, 1) := by decide +kernel
theorem dX7_whose_34 : decode cX7_whose 34 = .ok (.istore_n 3, 1) := by decide +kernel
theorem dX7_whose_35 : decode cX7_whose 35 = .ok (.iload_n 3, 1) := by decide +kernel
theorem dX7_whose_36 : decode cX7_whose 36 = .ok (.aload_n 0, 1) := by decide +kernel
theorem dX7_whose_37 : decode cX7_whose 37 = .ok (.getfield 231, 3) := by decide +kernel
theorem dX7_whose_40 : decode cX7_whose 40 = .ok (.aload_n 0, 1) := by decide +kernel
theorem dX7_whose_41 : decode cX7_whose 41 = .ok (.getfield 225, 3) := by decide +kernel
theorem dX7_whose_44 : decode cX7_whose 44 = .ok (.isub, 1) := by decide +kernel
theorem dX7_whose_45 : decode cX7_whose 45 = .ok (.if_icmp .ge 43, 3) := by decide +kernel
theorem dX7_whose_48 : decode cX7_whose 48 = .ok (.iload_n 2, 1) := by decide +kernel
theorem dX7_whose_49 : decode cX7_whose 49 = .ok (.ifCond .eq 39, 3) := by decide +kernel
theorem dX7_whose_52 : decode cX7_whose 52 = .ok (.aload_n 0, 1) := by decide +kernel
theorem dX7_whose_53 : decode cX7_whose 53 = .ok (.getfield 9, 3) := by decide +kernel
theorem dX7_whose_56 : decode cX7_whose 56 = .ok (.iconst 4, 1) := by decide +kernel
theorem dX7_whose_57 : decode cX7_whose 57 = .ok (.iload_n 1, 1) := by decide +kernel
theorem dX7_whose_58 : decode cX7_whose 58 = .ok (.imul, 1) := by decide +kernel
theorem dX7_whose_59 : decode cX7_whose 59 = .ok (.iload_n 3, 1) := by decide +kernel
theorem dX7_whose_60 : decode cX7_whose 60 = .ok (.iadd, 1) := by decide +kernel
theorem dX7_whose_61 : decode cX7_whose 61 = .ok (.iaload, 1) := by decide +kernel
theorem dX7_whose_62 : decode cX7_whose 62 = .ok (.aload_n 0, 1) := by decide +kernel
theorem dX7_whose_63 : decode cX7_whose 63 = .ok (.getfield 19, 3) := by decide +kernel
theorem dX7_whose_66 : decode cX7_whose 66 = .ok (.aload_n 0, 1) := by decide +kernel
theorem dX7_whose_67 : decode cX7_whose 67 = .ok (.getfield 225, 3) := by decide +kernel
theorem dX7_whose_70 : decode cX7_whose 70 = .ok (.iload_n 3, 1) := by decide +kernel
theorem dX7_whose_71 : decode cX7_whose 71 = .ok (.iadd, 1) := by decide +kernel
theorem dX7_whose_72 : decode cX7_whose 72 = .ok (.iaload, 1) := by decide +kernel
theorem dX7_whose_73 : decode cX7_whose 73 = .ok (.if_icmp .ne 7, 3) := by decide +kernel
theorem dX7_whose_76 : decode cX7_whose 76 = .ok (.iconst 1, 1) := by decide +kernel
theorem dX7_whose_77 : decode cX7_whose 77 = .ok (.goto 4, 3) := by decide +kernel
theorem dX7_whose_80 : decode cX7_whose 80 = .ok (.iconst 0, 1) := by decide +kernel
theorem dX7_whose_81 : decode cX7_whose 81 = .ok (.istore_n 2, 1) := by decide +kernel
theorem dX7_whose_82 : decode cX7_whose 82 = .ok (.iinc 3 1, 3) := by decide +kernel
theorem dX7_whose_85 : decode cX7_whose 85 = .ok (.goto (-50), 3) := by decide +kernel
theorem dX7_whose_88 : decode cX7_whose 88 = .ok (.iload_n 2, 1) := by decide +kernel
theorem dX7_whose_89 : decode cX7_whose 89 = .ok (.ifCond .eq 5, 3) := by decide +kernel
theorem dX7_whose_92 : decode cX7_whose 92 = .ok (.iload_n 1, 1) := by decide +kernel
theorem dX7_whose_93 : decode cX7_whose 93 = .ok (.ireturn, 1) := by decide +kernel
theorem dX7_whose_94 : decode cX7_whose 94 = .ok (.iinc 1 1, 3) := by decide +kernel
theorem dX7_whose_97 : decode cX7_whose 97 = .ok (.goto (-95), 3) := by decide +kernel
theorem dX7_whose_100 : decode cX7_whose 100 = .ok (.iconst (-1), 1) := by decide +kernel
theorem dX7_whose_101 : decode cX7_whose 101 = .ok (.ireturn, 1) := by decide +kernel
theorem dX7_nameOf_0 : decode cX7_nameOf 0 = .ok (.aload_n 0, 1) := by decide +kernel
theorem dX7_nameOf_1 : decode cX7_nameOf 1 = .ok (.getfield 219, 3) := by decide +kernel
theorem dX7_nameOf_4 : decode cX7_nameOf 4 = .ok (.ifCond .lt 5, 3) := by decide +kernel
theorem dX7_nameOf_7 : decode cX7_nameOf 7 = .ok (.iconst (-1), 1) := by decide +kernel
theorem dX7_nameOf_8 : decode cX7_nameOf 8 = .ok (.ireturn, 1) := by decide +kernel
theorem dX7_nameOf_9 : decode cX7_nameOf 9 = .ok (.aload_n 0, 1) := by decide +kernel
theorem dX7_nameOf_10 : decode cX7_nameOf 10 = .ok (.invokevirtual 240, 3) := by decide +kernel
theorem dX7_nameOf_13 : decode cX7_nameOf 13 = .ok (.aload_n 0, 1) := by decide +kernel
theorem dX7_nameOf_14 : decode cX7_nameOf 14 = .ok (.getfield 219, 3) := by decide +kernel
theorem dX7_nameOf_17 : decode cX7_nameOf 17 = .ok (.ifCond .lt 5, 3) := by decide +kernel
theorem dX7_nameOf_20 : decode cX7_nameOf 20 = .ok (.iconst (-1), 1) := by decide +kernel
theorem dX7_nameOf_21 : decode cX7_nameOf 21 = .ok (.ireturn, 1) := by decide +kernel
theorem dX7_nameOf_22 : decode cX7_nameOf 22 = .ok (.aload_n 0, 1) := by decide +kernel
theorem dX7_nameOf_23 : decode cX7_nameOf 23 = .ok (.invokevirtual 243, 3) := by decide +kernel
theorem dX7_nameOf_26 : decode cX7_nameOf 26 = .ok (.istore_n 2, 1) := by decide +kernel
theorem dX7_nameOf_27 : decode cX7_nameOf 27 = .ok (.iload_n 2, 1) := by decide +kernel
theorem dX7_nameOf_28 : decode cX7_nameOf 28 = .ok (.ifCond .lt 8, 3) := by decide +kernel
theorem dX7_nameOf_31 : decode cX7_nameOf 31 = .ok (.iload_n 2, 1) := by decide +kernel
theorem dX7_nameOf_32 : decode cX7_nameOf 32 = .ok (.iload_n 1, 1) := by decide +kernel
theorem dX7_nameOf_33 : decode cX7_nameOf 33 = .ok (.if_icmp .ne 11, 3) := by decide +kernel
theorem dX7_nameOf_36 : decode cX7_nameOf 36 = .ok (.aload_n 0, 1) := by decide +kernel
theorem dX7_nameOf_37 : decode cX7_nameOf 37 = .ok (.aload_n 0, 1) := by decide +kernel
theorem dX7_nameOf_38 : decode cX7_nameOf 38 = .ok (.getfield 225, 3) := by decide +kernel
theorem dX7_nameOf_41 : decode cX7_nameOf 41 = .ok (.invokevirtual 234, 3) := by decide +kernel
theorem dX7_nameOf_44 : decode cX7_nameOf 44 = .ok (.iload_n 2, 1) := by decide +kernel
theorem dX7_nameOf_45 : decode cX7_nameOf 45 = .ok (.ireturn, 1) := by decide +kernel
theorem dX7_ends_0 : decode cX7_ends 0 = .ok (.aload_n 0, 1) := by decide +kernel
theorem dX7_ends_1 : decode cX7_ends 1 = .ok (.getfield 222, 3) := by decide +kernel
theorem dX7_ends_4 : decode cX7_ends 4 = .ok (.aload_n 0, 1) := by decide +kernel
theorem dX7_ends_5 : decode cX7_ends 5 = .ok (.getfield 155, 3) := by decide +kernel
theorem dX7_ends_8 : decode cX7_ends 8 = .ok (.if_icmp .ge 30, 3) := by decide +kernel
theorem dX7_ends_11 : decode cX7_ends 11 = .ok (.aload_n 0, 1) := by decide +kernel
theorem dX7_ends_12 : decode cX7_ends 12 = .ok (.getfield 19, 3) := by decide +kernel
theorem dX7_ends_15 : decode cX7_ends 15 = .ok (.aload_n 0, 1) := by decide +kernel
theorem dX7_ends_16 : decode cX7_ends 16 = .ok (.getfield 222, 3) := by decide +kernel
theorem dX7_ends_19 : decode cX7_ends 19 = .ok (.iaload, 1) := by decide +kernel
theorem dX7_ends_20 : decode cX7_ends 20 = .ok (.bipush 32, 2) := by decide +kernel
theorem dX7_ends_22 : decode cX7_ends 22 = .ok (.if_icmp .ne 16, 3) := by decide +kernel
theorem dX7_ends_25 : decode cX7_ends 25 = .ok (.aload_n 0, 1) := by decide +kernel
theorem dX7_ends_26 : decode cX7_ends 26 = .ok (.dup, 1) := by decide +kernel
theorem dX7_ends_27 : decode cX7_ends 27 = .ok (.getfield 222, 3) := by decide +kernel
theorem dX7_ends_30 : decode cX7_ends 30 = .ok (.iconst 1, 1) := by decide +kernel
theorem dX7_ends_31 : decode cX7_ends 31 = .ok (.iadd, 1) := by decide +kernel
theorem dX7_ends_32 : decode cX7_ends 32 = .ok (.putfield 222, 3) := by decide +kernel
theorem dX7_ends_35 : decode cX7_ends 35 = .ok (.goto (-35), 3) := by decide +kernel
theorem dX7_ends_38 : decode cX7_ends 38 = .ok (.aload_n 0, 1) := by decide +kernel
theorem dX7_ends_39 : decode cX7_ends 39 = .ok (.getfield 222, 3) := by decide +kernel
theorem dX7_ends_42 : decode cX7_ends 42 = .ok (.aload_n 0, 1) := by decide +kernel
theorem dX7_ends_43 : decode cX7_ends 43 = .ok (.getfield 155, 3) := by decide +kernel
theorem dX7_ends_46 : decode cX7_ends 46 = .ok (.if_icmp .ge 11, 3) := by decide +kernel
theorem dX7_ends_49 : decode cX7_ends 49 = .ok (.aload_n 0, 1) := by decide +kernel
theorem dX7_ends_50 : decode cX7_ends 50 = .ok (.aload_n 0, 1) := by decide +kernel
theorem dX7_ends_51 : decode cX7_ends 51 = .ok (.getfield 222, 3) := by decide +kernel
theorem dX7_ends_54 : decode cX7_ends 54 = .ok (.invokevirtual 234, 3) := by decide +kernel
theorem dX7_ends_57 : decode cX7_ends 57 = .ok (.return_, 1) := by decide +kernel
theorem dX7_newPin_0 : decode cX7_newPin 0 = .ok (.aload_n 0, 1) := by decide +kernel
theorem dX7_newPin_1 : decode cX7_newPin 1 = .ok (.invokevirtual 240, 3) := by decide +kernel
theorem dX7_newPin_4 : decode cX7_newPin 4 = .ok (.aload_n 0, 1) := by decide +kernel
theorem dX7_newPin_5 : decode cX7_newPin 5 = .ok (.getfield 219, 3) := by decide +kernel
theorem dX7_newPin_8 : decode cX7_newPin 8 = .ok (.ifCond .ge 25, 3) := by decide +kernel
theorem dX7_newPin_11 : decode cX7_newPin 11 = .ok (.aload_n 0, 1) := by decide +kernel
theorem dX7_newPin_12 : decode cX7_newPin 12 = .ok (.invokevirtual 246, 3) := by decide +kernel
theorem dX7_newPin_15 : decode cX7_newPin 15 = .ok (.ifCond .ge 10, 3) := by decide +kernel
theorem dX7_newPin_18 : decode cX7_newPin 18 = .ok (.aload_n 0, 1) := by decide +kernel
theorem dX7_newPin_19 : decode cX7_newPin 19 = .ok (.invokevirtual 243, 3) := by decide +kernel
theorem dX7_newPin_22 : decode cX7_newPin 22 = .ok (.ifCond .lt 11, 3) := by decide +kernel
theorem dX7_newPin_25 : decode cX7_newPin 25 = .ok (.aload_n 0, 1) := by decide +kernel
theorem dX7_newPin_26 : decode cX7_newPin 26 = .ok (.aload_n 0, 1) := by decide +kernel
theorem dX7_newPin_27 : decode cX7_newPin 27 = .ok (.getfield 225, 3) := by decide +kernel
theorem dX7_newPin_30 : decode cX7_newPin 30 = .ok (.invokevirtual 234, 3) := by decide +kernel
theorem dX7_newPin_33 : decode cX7_newPin 33 = .ok (.aload_n 0, 1) := by decide +kernel
theorem dX7_newPin_34 : decode cX7_newPin 34 = .ok (.getfield 225, 3) := by decide +kernel
theorem dX7_newPin_37 : decode cX7_newPin 37 = .ok (.istore_n 1, 1) := by decide +kernel
theorem dX7_newPin_38 : decode cX7_newPin 38 = .ok (.aload_n 0, 1) := by decide +kernel
theorem dX7_newPin_39 : decode cX7_newPin 39 = .ok (.getfield 231, 3) := by decide +kernel
theorem dX7_newPin_42 : decode cX7_newPin 42 = .ok (.aload_n 0, 1) := by decide +kernel
theorem dX7_newPin_43 : decode cX7_newPin 43 = .ok (.getfield 225, 3) := by decide +kernel
theorem dX7_newPin_46 : decode cX7_newPin 46 = .ok (.isub, 1) := by decide +kernel
theorem dX7_newPin_47 : decode cX7_newPin 47 = .ok (.istore_n 2, 1) := by decide +kernel
theorem dX7_newPin_48 : decode cX7_newPin 48 = .ok (.aload_n 0, 1) := by decide +kernel
theorem dX7_newPin_49 : decode cX7_newPin 49 = .ok (.invokevirtual 249, 3) := by decide +kernel
theorem dX7_newPin_52 : decode cX7_newPin 52 = .ok (.aload_n 0, 1) := by decide +kernel
theorem dX7_newPin_53 : decode cX7_newPin 53 = .ok (.getfield 219, 3) := by decide +kernel
theorem dX7_newPin_56 : decode cX7_newPin 56 = .ok (.ifCond .lt 5, 3) := by decide +kernel
theorem dX7_newPin_59 : decode cX7_newPin 59 = .ok (.iconst (-1), 1) := by decide +kernel
theorem dX7_newPin_60 : decode cX7_newPin 60 = .ok (.ireturn, 1) := by decide +kernel
theorem dX7_newPin_61 : decode cX7_newPin 61 = .ok (.aload_n 0, 1) := by decide +kernel
theorem dX7_newPin_62 : decode cX7_newPin 62 = .ok (.getfield 71, 3) := by decide +kernel
theorem dX7_newPin_65 : decode cX7_newPin 65 = .ok (.bipush 12, 2) := by decide +kernel
theorem dX7_newPin_67 : decode cX7_newPin 67 = .ok (.if_icmp .ne 6, 3) := by decide +kernel
theorem dX7_newPin_70 : decode cX7_newPin 70 = .ok (.bipush (-4), 2) := by decide +kernel
theorem dX7_newPin_72 : decode cX7_newPin 72 = .ok (.ireturn, 1) := by decide +kernel
theorem dX7_newPin_73 : decode cX7_newPin 73 = .ok (.iconst 0, 1) := by decide +kernel
theorem dX7_newPin_74 : decode cX7_newPin 74 = .ok (.istore_n 3, 1) := by decide +kernel
theorem dX7_newPin_75 : decode cX7_newPin 75 = .ok (.iload_n 3, 1) := by decide +kernel
theorem dX7_newPin_76 : decode cX7_newPin 76 = .ok (.iconst 4, 1) := by decide +kernel
theorem dX7_newPin_77 : decode cX7_newPin 77 = .ok (.if_icmp .ge 39, 3) := by decide +kernel
theorem dX7_newPin_80 : decode cX7_newPin 80 = .ok (.aload_n 0, 1) := by decide +kernel
theorem dX7_newPin_81 : decode cX7_newPin 81 = .ok (.getfield 9, 3) := by decide +kernel
theorem dX7_newPin_84 : decode cX7_newPin 84 = .ok (.iconst 4, 1) := by decide +kernel
theorem dX7_newPin_85 : decode cX7_newPin 85 = .ok (.aload_n 0, 1) := by decide +kernel
theorem dX7_newPin_86 : decode cX7_newPin 86 = .ok (.getfield 71, 3) := by decide +kernel
theorem dX7_newPin_89 : decode cX7_newPin 89 = .ok (.imul, 1) := by decide +kernel
theorem dX7_newPin_90 : decode cX7_newPin 90 = .ok (.iload_n 3, 1) := by decide +kernel
theorem dX7_newPin_91 : decode cX7_newPin 91 = .ok (.iadd, 1) := by decide +kernel
theorem dX7_newPin_92 : decode cX7_newPin 92 = .ok (.iload_n 3, 1) := by decide +kernel
theorem dX7_newPin_93 : decode cX7_newPin 93 = .ok (.iload_n 2, 1) := by decide +kernel
theorem dX7_newPin_94 : decode cX7_newPin 94 = .ok (.if_icmp .ge 14, 3) := by decide +kernel
theorem dX7_newPin_97 : decode cX7_newPin 97 = .ok (.aload_n 0, 1) := by decide +kernel
theorem dX7_newPin_98 : decode cX7_newPin 98 = .ok (.getfield 19, 3) := by decide +kernel
theorem dX7_newPin_101 : decode cX7_newPin 101 = .ok (.iload_n 1, 1) := by decide +kernel
theorem dX7_newPin_102 : decode cX7_newPin 102 = .ok (.iload_n 3, 1) := by decide +kernel
theorem dX7_newPin_103 : decode cX7_newPin 103 = .ok (.iadd, 1) := by decide +kernel
theorem dX7_newPin_104 : decode cX7_newPin 104 = .ok (.iaload, 1) := by decide +kernel
theorem dX7_newPin_105 : decode cX7_newPin 105 = .ok (.goto 4, 3) := by decide +kernel
theorem dX7_newPin_108 : decode cX7_newPin 108 = .ok (.iconst 0, 1) := by decide +kernel
theorem dX7_newPin_109 : decode cX7_newPin 109 = .ok (.iastore, 1) := by decide +kernel
theorem dX7_newPin_110 : decode cX7_newPin 110 = .ok (.iinc 3 1, 3) := by decide +kernel
theorem dX7_newPin_113 : decode cX7_newPin 113 = .ok (.goto (-38), 3) := by decide +kernel
theorem dX7_newPin_116 : decode cX7_newPin 116 = .ok (.aload_n 0, 1) := by decide +kernel
theorem dX7_newPin_117 : decode cX7_newPin 117 = .ok (.dup, 1) := by decide +kernel
theorem dX7_newPin_118 : decode cX7_newPin 118 = .ok (.getfield 71, 3) := by decide +kernel
theorem dX7_newPin_121 : decode cX7_newPin 121 = .ok (.iconst 1, 1) := by decide +kernel
theorem dX7_newPin_122 : decode cX7_newPin 122 = .ok (.iadd, 1) := by decide +kernel
theorem dX7_newPin_123 : decode cX7_newPin 123 = .ok (.putfield 71, 3) := by decide +kernel
theorem dX7_newPin_126 : decode cX7_newPin 126 = .ok (.aload_n 0, 1) := by decide +kernel
theorem dX7_newPin_127 : decode cX7_newPin 127 = .ok (.getfield 71, 3) := by decide +kernel
theorem dX7_newPin_130 : decode cX7_newPin 130 = .ok (.iconst 1, 1) := by decide +kernel
theorem dX7_newPin_131 : decode cX7_newPin 131 = .ok (.isub, 1) := by decide +kernel
theorem dX7_newPin_132 : decode cX7_newPin 132 = .ok (.ireturn, 1) := by decide +kernel
theorem dX7_toldOf_0 : decode cX7_toldOf 0 = .ok (.aload_n 0, 1) := by decide +kernel
theorem dX7_toldOf_1 : decode cX7_toldOf 1 = .ok (.iconst (-1), 1) := by decide +kernel
theorem dX7_toldOf_2 : decode cX7_toldOf 2 = .ok (.invokevirtual 252, 3) := by decide +kernel
theorem dX7_toldOf_5 : decode cX7_toldOf 5 = .ok (.istore_n 2, 1) := by decide +kernel
theorem dX7_toldOf_6 : decode cX7_toldOf 6 = .ok (.aload_n 0, 1) := by decide +kernel
theorem dX7_toldOf_7 : decode cX7_toldOf 7 = .ok (.iload_n 2, 1) := by decide +kernel
theorem dX7_toldOf_8 : decode cX7_toldOf 8 = .ok (.invokevirtual 252, 3) := by decide +kernel
theorem dX7_toldOf_11 : decode cX7_toldOf 11 = .ok (.istore_n 3, 1) := by decide +kernel
theorem dX7_toldOf_12 : decode cX7_toldOf 12 = .ok (.aload_n 0, 1) := by decide +kernel
theorem dX7_toldOf_13 : decode cX7_toldOf 13 = .ok (.getfield 219, 3) := by decide +kernel
theorem dX7_toldOf_16 : decode cX7_toldOf 16 = .ok (.ifCond .ge 7, 3) := by decide +kernel
theorem dX7_toldOf_19 : decode cX7_toldOf 19 = .ok (.aload_n 0, 1) := by decide +kernel
theorem dX7_toldOf_20 : decode cX7_toldOf 20 = .ok (.invokevirtual 249, 3) := by decide +kernel
theorem dX7_toldOf_23 : decode cX7_toldOf 23 = .ok (.aload_n 0, 1) := by decide +kernel
theorem dX7_toldOf_24 : decode cX7_toldOf 24 = .ok (.getfield 219, 3) := by decide +kernel
theorem dX7_toldOf_27 : decode cX7_toldOf 27 = .ok (.ifCond .lt 5, 3) := by decide +kernel
theorem dX7_toldOf_30 : decode cX7_toldOf 30 = .ok (.iconst (-1), 1) := by decide +kernel
theorem dX7_toldOf_31 : decode cX7_toldOf 31 = .ok (.ireturn, 1) := by decide +kernel
theorem dX7_toldOf_32 : decode cX7_toldOf 32 = .ok (.iload_n 1, 1) := by decide +kernel
theorem dX7_toldOf_33 : decode cX7_toldOf 33 = .ok (.iconst 1, 1) := by decide +kernel
theorem dX7_toldOf_34 : decode cX7_toldOf 34 = .ok (.if_icmp .ne 12, 3) := by decide +kernel
theorem dX7_toldOf_37 : decode cX7_toldOf 37 = .ok (.aload_n 0, 1) := by decide +kernel
theorem dX7_toldOf_38 : decode cX7_toldOf 38 = .ok (.iload_n 2, 1) := by decide +kernel
theorem dX7_toldOf_39 : decode cX7_toldOf 39 = .ok (.iload_n 3, 1) := by decide +kernel
theorem dX7_toldOf_40 : decode cX7_toldOf 40 = .ok (.invokevirtual 255, 3) := by decide +kernel
theorem dX7_toldOf_43 : decode cX7_toldOf 43 = .ok (.goto 9, 3) := by decide +kernel
theorem dX7_toldOf_46 : decode cX7_toldOf 46 = .ok (.aload_n 0, 1) := by decide +kernel
theorem dX7_toldOf_47 : decode cX7_toldOf 47 = .ok (.iload_n 2, 1) := by decide +kernel
theorem dX7_toldOf_48 : decode cX7_toldOf 48 = .ok (.iload_n 3, 1) := by decide +kernel
theorem dX7_toldOf_49 : decode cX7_toldOf 49 = .ok (.invokevirtual 258, 3) := by decide +kernel
theorem dX7_toldOf_52 : decode cX7_toldOf 52 = .ok (.ireturn, 1) := by decide +kernel
theorem dX7_text_0 : decode cX7_text 0 = .ok (.aload_n 0, 1) := by decide +kernel
theorem dX7_text_1 : decode cX7_text 1 = .ok (.iconst 0, 1) := by decide +kernel
theorem dX7_text_2 : decode cX7_text 2 = .ok (.putfield 222, 3) := by decide +kernel
theorem dX7_text_5 : decode cX7_text 5 = .ok (.aload_n 0, 1) := by decide +kernel
theorem dX7_text_6 : decode cX7_text 6 = .ok (.iconst (-1), 1) := by decide +kernel
theorem dX7_text_7 : decode cX7_text 7 = .ok (.putfield 219, 3) := by decide +kernel
theorem dX7_text_10 : decode cX7_text 10 = .ok (.aload_n 0, 1) := by decide +kernel
theorem dX7_text_11 : decode cX7_text 11 = .ok (.invokevirtual 240, 3) := by decide +kernel
theorem dX7_text_14 : decode cX7_text 14 = .ok (.aload_n 0, 1) := by decide +kernel
theorem dX7_text_15 : decode cX7_text 15 = .ok (.getfield 219, 3) := by decide +kernel
theorem dX7_text_18 : decode cX7_text 18 = .ok (.ifCond .ge 10, 3) := by decide +kernel
theorem dX7_text_21 : decode cX7_text 21 = .ok (.aload_n 0, 1) := by decide +kernel
theorem dX7_text_22 : decode cX7_text 22 = .ok (.invokevirtual 246, 3) := by decide +kernel
theorem dX7_text_25 : decode cX7_text 25 = .ok (.goto 4, 3) := by decide +kernel
theorem dX7_text_28 : decode cX7_text 28 = .ok (.iconst (-1), 1) := by decide +kernel
theorem dX7_text_29 : decode cX7_text 29 = .ok (.istore_n 1, 1) := by decide +kernel
theorem dX7_text_30 : decode cX7_text 30 = .ok (.iload_n 1, 1) := by decide +kernel
theorem dX7_text_31 : decode cX7_text 31 = .ok (.ifCond .ge 11, 3) := by decide +kernel
theorem dX7_text_34 : decode cX7_text 34 = .ok (.aload_n 0, 1) := by decide +kernel
theorem dX7_text_35 : decode cX7_text 35 = .ok (.aload_n 0, 1) := by decide +kernel
theorem dX7_text_36 : decode cX7_text 36 = .ok (.getfield 225, 3) := by decide +kernel
theorem dX7_text_39 : decode cX7_text 39 = .ok (.invokevirtual 234, 3) := by decide +kernel
theorem dX7_text_42 : decode cX7_text 42 = .ok (.aload_n 0, 1) := by decide +kernel
theorem dX7_text_43 : decode cX7_text 43 = .ok (.getfield 219, 3) := by decide +kernel
theorem dX7_text_46 : decode cX7_text 46 = .ok (.ifCond .lt 7, 3) := by decide +kernel
theorem dX7_text_49 : decode cX7_text 49 = .ok (.iconst (-1), 1) := by decide +kernel
theorem dX7_text_50 : decode cX7_text 50 = .ok (.goto 19, 3) := by decide +kernel
theorem dX7_text_53 : decode cX7_text 53 = .ok (.iload_n 1, 1) := by decide +kernel
theorem dX7_text_54 : decode cX7_text 54 = .ok (.ifCond .ne 10, 3) := by decide +kernel
theorem dX7_text_57 : decode cX7_text 57 = .ok (.aload_n 0, 1) := by decide +kernel
theorem dX7_text_58 : decode cX7_text 58 = .ok (.invokevirtual 261, 3) := by decide +kernel
theorem dX7_text_61 : decode cX7_text 61 = .ok (.goto 8, 3) := by decide +kernel
theorem dX7_text_64 : decode cX7_text 64 = .ok (.aload_n 0, 1) := by decide +kernel
theorem dX7_text_65 : decode cX7_text 65 = .ok (.iload_n 1, 1) := by decide +kernel
theorem dX7_text_66 : decode cX7_text 66 = .ok (.invokevirtual 264, 3) := by decide +kernel
theorem dX7_text_69 : decode cX7_text 69 = .ok (.istore_n 2, 1) := by decide +kernel
theorem dX7_text_70 : decode cX7_text 70 = .ok (.aload_n 0, 1) := by decide +kernel
theorem dX7_text_71 : decode cX7_text 71 = .ok (.iconst 0, 1) := by decide +kernel
theorem dX7_text_72 : decode cX7_text 72 = .ok (.putfield 155, 3) := by decide +kernel
theorem dX7_text_75 : decode cX7_text 75 = .ok (.aload_n 0, 1) := by decide +kernel
theorem dX7_text_76 : decode cX7_text 76 = .ok (.getfield 219, 3) := by decide +kernel
theorem dX7_text_79 : decode cX7_text 79 = .ok (.ifCond .lt 13, 3) := by decide +kernel
theorem dX7_text_82 : decode cX7_text 82 = .ok (.bipush (-100), 2) := by decide +kernel
theorem dX7_text_84 : decode cX7_text 84 = .ok (.aload_n 0, 1) := by decide +kernel
theorem dX7_text_85 : decode cX7_text 85 = .ok (.getfield 219, 3) := by decide +kernel
theorem dX7_text_88 : decode cX7_text 88 = .ok (.isub, 1) := by decide +kernel
theorem dX7_text_89 : decode cX7_text 89 = .ok (.goto 4, 3) := by decide +kernel
theorem dX7_text_92 : decode cX7_text 92 = .ok (.iload_n 2, 1) := by decide +kernel
theorem dX7_text_93 : decode cX7_text 93 = .ok (.ireturn, 1) := by decide +kernel
theorem dX7_named_0 : decode cX7_named 0 = .ok (.aload_n 0, 1) := by decide +kernel
theorem dX7_named_1 : decode cX7_named 1 = .ok (.iconst 0, 1) := by decide +kernel
theorem dX7_named_2 : decode cX7_named 2 = .ok (.putfield 222, 3) := by decide +kernel
theorem dX7_named_5 : decode cX7_named 5 = .ok (.aload_n 0, 1) := by decide +kernel
theorem dX7_named_6 : decode cX7_named 6 = .ok (.iconst (-1), 1) := by decide +kernel
theorem dX7_named_7 : decode cX7_named 7 = .ok (.putfield 219, 3) := by decide +kernel
theorem dX7_named_10 : decode cX7_named 10 = .ok (.aload_n 0, 1) := by decide +kernel
theorem dX7_named_11 : decode cX7_named 11 = .ok (.iconst 0, 1) := by decide +kernel
theorem dX7_named_12 : decode cX7_named 12 = .ok (.putfield 225, 3) := by decide +kernel
theorem dX7_named_15 : decode cX7_named 15 = .ok (.aload_n 0, 1) := by decide +kernel
theorem dX7_named_16 : decode cX7_named 16 = .ok (.aload_n 0, 1) := by decide +kernel
theorem dX7_named_17 : decode cX7_named 17 = .ok (.getfield 155, 3) := by decide +kernel
theorem dX7_named_20 : decode cX7_named 20 = .ok (.putfield 231, 3) := by decide +kernel
theorem dX7_named_23 : decode cX7_named 23 = .ok (.aload_n 0, 1) := by decide +kernel
theorem dX7_named_24 : decode cX7_named 24 = .ok (.getfield 155, 3) := by decide +kernel
theorem dX7_named_27 : decode cX7_named 27 = .ok (.iconst 4, 1) := by decide +kernel
theorem dX7_named_28 : decode cX7_named 28 = .ok (.if_icmp .le 7, 3) := by decide +kernel
theorem dX7_named_31 : decode cX7_named 31 = .ok (.iconst (-1), 1) := by decide +kernel
theorem dX7_named_32 : decode cX7_named 32 = .ok (.goto 7, 3) := by decide +kernel
theorem dX7_named_35 : decode cX7_named 35 = .ok (.aload_n 0, 1) := by decide +kernel
theorem dX7_named_36 : decode cX7_named 36 = .ok (.invokevirtual 243, 3) := by decide +kernel
theorem dX7_named_39 : decode cX7_named 39 = .ok (.istore_n 1, 1) := by decide +kernel
theorem dX7_named_40 : decode cX7_named 40 = .ok (.aload_n 0, 1) := by decide +kernel
theorem dX7_named_41 : decode cX7_named 41 = .ok (.iconst 0, 1) := by decide +kernel
theorem dX7_named_42 : decode cX7_named 42 = .ok (.putfield 155, 3) := by decide +kernel
theorem dX7_named_45 : decode cX7_named 45 = .ok (.iload_n 1, 1) := by decide +kernel
theorem dX7_named_46 : decode cX7_named 46 = .ok (.ireturn, 1) := by decide +kernel
theorem dX7_isSheet_0 : decode cX7_isSheet 0 = .ok (.iload_n 0, 1) := by decide +kernel
theorem dX7_isSheet_1 : decode cX7_isSheet 1 = .ok (.iconst 0, 1) := by decide +kernel
theorem dX7_isSheet_2 : decode cX7_isSheet 2 = .ok (.iconst 3, 1) := by decide +kernel
theorem dX7_isSheet_3 : decode cX7_isSheet 3 = .ok (.invokestatic 75, 3) := by decide +kernel
theorem dX7_isSheet_6 : decode cX7_isSheet 6 = .ok (.ireturn, 1) := by decide +kernel
theorem dX7_carriesWithLast_0 : decode cX7_carriesWithLast 0 = .ok (.aload_n 0, 1) := by decide +kernel
theorem dX7_carriesWithLast_1 : decode cX7_carriesWithLast 1 = .ok (.invokevirtual 103, 3) := by decide +kernel
theorem dX7_carriesWithLast_4 : decode cX7_carriesWithLast 4 = .ok (.iconst 0, 1) := by decide +kernel
theorem dX7_carriesWithLast_5 : decode cX7_carriesWithLast 5 = .ok (.istore_n 2, 1) := by decide +kernel
theorem dX7_carriesWithLast_6 : decode cX7_carriesWithLast 6 = .ok (.iconst 0, 1) := by decide +kernel
theorem dX7_carriesWithLast_7 : decode cX7_carriesWithLast 7 = .ok (.istore_n 3, 1) := by decide +kernel
theorem dX7_carriesWithLast_8 : decode cX7_carriesWithLast 8 = .ok (.iload_n 3, 1) := by decide +kernel
theorem dX7_carriesWithLast_9 : decode cX7_carriesWithLast 9 = .ok (.aload_n 0, 1) := by decide +kernel
theorem dX7_carriesWithLast_10 : decode cX7_carriesWithLast 10 = .ok (.getfield 106, 3) := by decide +kernel
theorem dX7_carriesWithLast_13 : decode cX7_carriesWithLast 13 = .ok (.if_icmp .ge 42, 3) := by decide +kernel
theorem dX7_carriesWithLast_16 : decode cX7_carriesWithLast 16 = .ok (.iload_n 3, 1) := by decide +kernel
theorem dX7_carriesWithLast_17 : decode cX7_carriesWithLast 17 = .ok (.iload_n 1, 1) := by decide +kernel
theorem dX7_carriesWithLast_18 : decode cX7_carriesWithLast 18 = .ok (.if_icmp .ne 6, 3) := by decide +kernel
theorem dX7_carriesWithLast_21 : decode cX7_carriesWithLast 21 = .ok (.goto 28, 3) := by decide +kernel
theorem dX7_carriesWithLast_24 : decode cX7_carriesWithLast 24 = .ok (.aload_n 0, 1) := by decide +kernel
theorem dX7_carriesWithLast_25 : decode cX7_carriesWithLast 25 = .ok (.getfield 37, 3) := by decide +kernel
theorem dX7_carriesWithLast_28 : decode cX7_carriesWithLast 28 = .ok (.iload_n 2, 1) := by decide +kernel
theorem dX7_carriesWithLast_29 : decode cX7_carriesWithLast 29 = .ok (.aload_n 0, 1) := by decide +kernel
theorem dX7_carriesWithLast_30 : decode cX7_carriesWithLast 30 = .ok (.aload_n 0, 1) := by decide +kernel
theorem dX7_carriesWithLast_31 : decode cX7_carriesWithLast 31 = .ok (.getfield 13, 3) := by decide +kernel
theorem dX7_carriesWithLast_34 : decode cX7_carriesWithLast 34 = .ok (.iload_n 3, 1) := by decide +kernel
theorem dX7_carriesWithLast_35 : decode cX7_carriesWithLast 35 = .ok (.iaload, 1) := by decide +kernel
theorem dX7_carriesWithLast_36 : decode cX7_carriesWithLast 36 = .ok (.aload_n 0, 1) := by decide +kernel
theorem dX7_carriesWithLast_37 : decode cX7_carriesWithLast 37 = .ok (.getfield 16, 3) := by decide +kernel
theorem dX7_carriesWithLast_40 : decode cX7_carriesWithLast 40 = .ok (.iload_n 3, 1) := by decide +kernel
theorem dX7_carriesWithLast_41 : decode cX7_carriesWithLast 41 = .ok (.iaload, 1) := by decide +kernel
theorem dX7_carriesWithLast_42 : decode cX7_carriesWithLast 42 = .ok (.invokevirtual 109, 3) := by decide +kernel
theorem dX7_carriesWithLast_45 : decode cX7_carriesWithLast 45 = .ok (.bastore, 1) := by decide +kernel
theorem dX7_carriesWithLast_46 : decode cX7_carriesWithLast 46 = .ok (.iinc 2 1, 3) := by decide +kernel
theorem dX7_carriesWithLast_49 : decode cX7_carriesWithLast 49 = .ok (.iinc 3 1, 3) := by decide +kernel
theorem dX7_carriesWithLast_52 : decode cX7_carriesWithLast 52 = .ok (.goto (-44), 3) := by decide +kernel
theorem dX7_carriesWithLast_55 : decode cX7_carriesWithLast 55 = .ok (.iload_n 1, 1) := by decide +kernel
theorem dX7_carriesWithLast_56 : decode cX7_carriesWithLast 56 = .ok (.ifCond .lt 25, 3) := by decide +kernel
theorem dX7_carriesWithLast_59 : decode cX7_carriesWithLast 59 = .ok (.aload_n 0, 1) := by decide +kernel
theorem dX7_carriesWithLast_60 : decode cX7_carriesWithLast 60 = .ok (.getfield 37, 3) := by decide +kernel
theorem dX7_carriesWithLast_63 : decode cX7_carriesWithLast 63 = .ok (.iload_n 2, 1) := by decide +kernel
theorem dX7_carriesWithLast_64 : decode cX7_carriesWithLast 64 = .ok (.aload_n 0, 1) := by decide +kernel
theorem dX7_carriesWithLast_65 : decode cX7_carriesWithLast 65 = .ok (.aload_n 0, 1) := by decide +kernel
theorem dX7_carriesWithLast_66 : decode cX7_carriesWithLast 66 = .ok (.getfield 13, 3) := by decide +kernel
theorem dX7_carriesWithLast_69 : decode cX7_carriesWithLast 69 = .ok (.iload_n 1, 1) := by decide +kernel
theorem dX7_carriesWithLast_70 : decode cX7_carriesWithLast 70 = .ok (.iaload, 1) := by decide +kernel
theorem dX7_carriesWithLast_71 : decode cX7_carriesWithLast 71 = .ok (.aload_n 0, 1) := by decide +kernel
theorem dX7_carriesWithLast_72 : decode cX7_carriesWithLast 72 = .ok (.getfield 16, 3) := by decide +kernel
theorem dX7_carriesWithLast_75 : decode cX7_carriesWithLast 75 = .ok (.iload_n 1, 1) := by decide +kernel
theorem dX7_carriesWithLast_76 : decode cX7_carriesWithLast 76 = .ok (.iaload, 1) := by decide +kernel
theorem dX7_carriesWithLast_77 : decode cX7_carriesWithLast 77 = .ok (.invokevirtual 109, 3) := by decide +kernel
theorem dX7_carriesWithLast_80 : decode cX7_carriesWithLast 80 = .ok (.bastore, 1) := by decide +kernel
theorem dX7_carriesWithLast_81 : decode cX7_carriesWithLast 81 = .ok (.return_, 1) := by decide +kernel
theorem dX7_otherwise_0 : decode cX7_otherwise 0 = .ok (.iconst 0, 1) := by decide +kernel
theorem dX7_otherwise_1 : decode cX7_otherwise 1 = .ok (.istore_n 2, 1) := by decide +kernel
theorem dX7_otherwise_2 : decode cX7_otherwise 2 = .ok (.iload_n 2, 1) := by decide +kernel
theorem dX7_otherwise_3 : decode cX7_otherwise 3 = .ok (.aload_n 0, 1) := by decide +kernel
theorem dX7_otherwise_4 : decode cX7_otherwise 4 = .ok (.getfield 62, 3) := by decide +kernel
theorem dX7_otherwise_7 : decode cX7_otherwise 7 = .ok (.iload_n 1, 1) := by decide +kernel
theorem dX7_otherwise_8 : decode cX7_otherwise 8 = .ok (.iaload, 1) := by decide +kernel
theorem dX7_otherwise_9 : decode cX7_otherwise 9 = .ok (.if_icmp .ge 48, 3) := by decide +kernel
theorem dX7_otherwise_12 : decode cX7_otherwise 12 = .ok (.iload_n 2, 1) := by decide +kernel
theorem dX7_otherwise_13 : decode cX7_otherwise 13 = .ok (.aload_n 0, 1) := by decide +kernel
theorem dX7_otherwise_14 : decode cX7_otherwise 14 = .ok (.getfield 106, 3) := by decide +kernel
theorem dX7_otherwise_17 : decode cX7_otherwise 17 = .ok (.if_icmp .ge 40, 3) := by decide +kernel
theorem dX7_otherwise_20 : decode cX7_otherwise 20 = .ok (.aload_n 0, 1) := by decide +kernel
theorem dX7_otherwise_21 : decode cX7_otherwise 21 = .ok (.getfield 65, 3) := by decide +kernel
theorem dX7_otherwise_24 : decode cX7_otherwise 24 = .ok (.bipush 40, 2) := by decide +kernel
theorem dX7_otherwise_26 : decode cX7_otherwise 26 = .ok (.iload_n 1, 1) := by decide +kernel
theorem dX7_otherwise_27 : decode cX7_otherwise 27 = .ok (.imul, 1) := by decide +kernel
theorem dX7_otherwise_28 : decode cX7_otherwise 28 = .ok (.iload_n 2, 1) := by decide +kernel
theorem dX7_otherwise_29 : decode cX7_otherwise 29 = .ok (.iadd, 1) := by decide +kernel
theorem dX7_otherwise_30 : decode cX7_otherwise 30 = .ok (.iaload, 1) := by decide +kernel
theorem dX7_otherwise_31 : decode cX7_otherwise 31 = .ok (.iconst 1, 1) := by decide +kernel
theorem dX7_otherwise_32 : decode cX7_otherwise 32 = .ok (.if_icmp .ne 7, 3) := by decide +kernel
theorem dX7_otherwise_35 : decode cX7_otherwise 35 = .ok (.iconst 1, 1) := by decide +kernel
theorem dX7_otherwise_36 : decode cX7_otherwise 36 = .ok (.goto 4, 3) := by decide +kernel
theorem dX7_otherwise_39 : decode cX7_otherwise 39 = .ok (.iconst 0, 1) := by decide +kernel
theorem dX7_otherwise_40 : decode cX7_otherwise 40 = .ok (.aload_n 0, 1) := by decide +kernel
theorem dX7_otherwise_41 : decode cX7_otherwise 41 = .ok (.getfield 37, 3) := by decide +kernel
theorem dX7_otherwise_44 : decode cX7_otherwise 44 = .ok (.iload_n 2, 1) := by decide +kernel
theorem dX7_otherwise_45 : decode cX7_otherwise 45 = .ok (.baload, 1) := by decide +kernel
theorem dX7_otherwise_46 : decode cX7_otherwise 46 = .ok (.if_icmp .eq 5, 3) := by decide +kernel
theorem dX7_otherwise_49 : decode cX7_otherwise 49 = .ok (.iload_n 2, 1) := by decide +kernel
theorem dX7_otherwise_50 : decode cX7_otherwise 50 = .ok (.ireturn, 1) := by decide +kernel
theorem dX7_otherwise_51 : decode cX7_otherwise 51 = .ok (.iinc 2 1, 3) := by decide +kernel
theorem dX7_otherwise_54 : decode cX7_otherwise 54 = .ok (.goto (-52), 3) := by decide +kernel
theorem dX7_otherwise_57 : decode cX7_otherwise 57 = .ok (.aload_n 0, 1) := by decide +kernel
theorem dX7_otherwise_58 : decode cX7_otherwise 58 = .ok (.getfield 62, 3) := by decide +kernel
theorem dX7_otherwise_61 : decode cX7_otherwise 61 = .ok (.iload_n 1, 1) := by decide +kernel
theorem dX7_otherwise_62 : decode cX7_otherwise 62 = .ok (.iaload, 1) := by decide +kernel
theorem dX7_otherwise_63 : decode cX7_otherwise 63 = .ok (.aload_n 0, 1) := by decide +kernel
theorem dX7_otherwise_64 : decode cX7_otherwise 64 = .ok (.getfield 106, 3) := by decide +kernel
theorem dX7_otherwise_67 : decode cX7_otherwise 67 = .ok (.if_icmp .ne 7, 3) := by decide +kernel
theorem dX7_otherwise_70 : decode cX7_otherwise 70 = .ok (.iconst (-1), 1) := by decide +kernel
theorem dX7_otherwise_71 : decode cX7_otherwise 71 = .ok (.goto 16, 3) := by decide +kernel
theorem dX7_otherwise_74 : decode cX7_otherwise 74 = .ok (.aload_n 0, 1) := by decide +kernel
theorem dX7_otherwise_75 : decode cX7_otherwise 75 = .ok (.getfield 62, 3) := by decide +kernel
theorem dX7_otherwise_78 : decode cX7_otherwise 78 = .ok (.iload_n 1, 1) := by decide +kernel
theorem dX7_otherwise_79 : decode cX7_otherwise 79 = .ok (.iaload, 1) := by decide +kernel
theorem dX7_otherwise_80 : decode cX7_otherwise 80 = .ok (.aload_n 0, 1) := by decide +kernel
theorem dX7_otherwise_81 : decode cX7_otherwise 81 = .ok (.getfield 106, 3) := by decide +kernel
theorem dX7_otherwise_84 : decode cX7_otherwise 84 = .ok (.invokestatic 118, 3) := by decide +kernel
theorem dX7_otherwise_87 : decode cX7_otherwise 87 = .ok (.ireturn, 1) := by decide +kernel
theorem dX7_tells_0 : decode cX7_tells 0 = .ok (.iload_n 1, 1) := by decide +kernel
theorem dX7_tells_1 : decode cX7_tells 1 = .ok (.invokestatic 267, 3) := by decide +kernel
theorem dX7_tells_4 : decode cX7_tells 4 = .ok (.ifCond .eq 12, 3) := by decide +kernel
theorem dX7_tells_7 : decode cX7_tells 7 = .ok (.iload_n 2, 1) := by decide +kernel
theorem dX7_tells_8 : decode cX7_tells 8 = .ok (.iconst 0, 1) := by decide +kernel
theorem dX7_tells_9 : decode cX7_tells 9 = .ok (.iconst 1, 1) := by decide +kernel
theorem dX7_tells_10 : decode cX7_tells 10 = .ok (.invokestatic 75, 3) := by decide +kernel
theorem dX7_tells_13 : decode cX7_tells 13 = .ok (.ifCond .ne 6, 3) := by decide +kernel
theorem dX7_tells_16 : decode cX7_tells 16 = .ok (.bipush (-2), 2) := by decide +kernel
theorem dX7_tells_18 : decode cX7_tells 18 = .ok (.ireturn, 1) := by decide +kernel
theorem dX7_tells_19 : decode cX7_tells 19 = .ok (.aload_n 0, 1) := by decide +kernel
theorem dX7_tells_20 : decode cX7_tells 20 = .ok (.getfield 59, 3) := by decide +kernel
theorem dX7_tells_23 : decode cX7_tells 23 = .ok (.iload_n 1, 1) := by decide +kernel
theorem dX7_tells_24 : decode cX7_tells 24 = .ok (.iaload, 1) := by decide +kernel
theorem dX7_tells_25 : decode cX7_tells 25 = .ok (.ifCond .ge 6, 3) := by decide +kernel
theorem dX7_tells_28 : decode cX7_tells 28 = .ok (.bipush (-11), 2) := by decide +kernel
theorem dX7_tells_30 : decode cX7_tells 30 = .ok (.ireturn, 1) := by decide +kernel
theorem dX7_tells_31 : decode cX7_tells 31 = .ok (.aload_n 0, 1) := by decide +kernel
theorem dX7_tells_32 : decode cX7_tells 32 = .ok (.getfield 62, 3) := by decide +kernel
theorem dX7_tells_35 : decode cX7_tells 35 = .ok (.iload_n 1, 1) := by decide +kernel
theorem dX7_tells_36 : decode cX7_tells 36 = .ok (.iaload, 1) := by decide +kernel
theorem dX7_tells_37 : decode cX7_tells 37 = .ok (.bipush 24, 2) := by decide +kernel
theorem dX7_tells_39 : decode cX7_tells 39 = .ok (.if_icmp .le 6, 3) := by decide +kernel
theorem dX7_tells_42 : decode cX7_tells 42 = .ok (.bipush (-2), 2) := by decide +kernel
theorem dX7_tells_44 : decode cX7_tells 44 = .ok (.ireturn, 1) := by decide +kernel
theorem dX7_tells_45 : decode cX7_tells 45 = .ok (.iload_n 2, 1) := by decide +kernel
theorem dX7_tells_46 : decode cX7_tells 46 = .ok (.ifCond .ne 13, 3) := by decide +kernel
theorem dX7_tells_49 : decode cX7_tells 49 = .ok (.aload_n 0, 1) := by decide +kernel
theorem dX7_tells_50 : decode cX7_tells 50 = .ok (.invokevirtual 133, 3) := by decide +kernel
theorem dX7_tells_53 : decode cX7_tells 53 = .ok (.aload_n 0, 1) := by decide +kernel
theorem dX7_tells_54 : decode cX7_tells 54 = .ok (.iload_n 1, 1) := by decide +kernel
theorem dX7_tells_55 : decode cX7_tells 55 = .ok (.invokevirtual 270, 3) := by decide +kernel
theorem dX7_tells_58 : decode cX7_tells 58 = .ok (.ireturn, 1) := by decide +kernel
theorem dX7_tells_59 : decode cX7_tells 59 = .ok (.iconst 0, 1) := by decide +kernel
theorem dX7_tells_60 : decode cX7_tells 60 = .ok (.istore_n 3, 1) := by decide +kernel
theorem dX7_tells_61 : decode cX7_tells 61 = .ok (.iconst 0, 1) := by decide +kernel
theorem dX7_tells_62 : decode cX7_tells 62 = .ok (.istore 4, 2) := by decide +kernel
theorem dX7_tells_64 : decode cX7_tells 64 = .ok (.iload 4, 2) := by decide +kernel
theorem dX7_tells_66 : decode cX7_tells 66 = .ok (.aload_n 0, 1) := by decide +kernel
theorem dX7_tells_67 : decode cX7_tells 67 = .ok (.getfield 106, 3) := by decide +kernel
theorem dX7_tells_70 : decode cX7_tells 70 = .ok (.if_icmp .ge 35, 3) := by decide +kernel
theorem dX7_tells_73 : decode cX7_tells 73 = .ok (.aload_n 0, 1) := by decide +kernel
theorem dX7_tells_74 : decode cX7_tells 74 = .ok (.iload 4, 2) := by decide +kernel
theorem dX7_tells_76 : decode cX7_tells 76 = .ok (.invokevirtual 273, 3) := by decide +kernel
theorem dX7_tells_79 : decode cX7_tells 79 = .ok (.iload_n 3, 1) := by decide +kernel
theorem dX7_tells_80 : decode cX7_tells 80 = .ok (.aload_n 0, 1) := by decide +kernel
theorem dX7_tells_81 : decode cX7_tells 81 = .ok (.iload_n 1, 1) := by decide +kernel
theorem dX7_tells_82 : decode cX7_tells 82 = .ok (.invokevirtual 270, 3) := by decide +kernel
theorem dX7_tells_85 : decode cX7_tells 85 = .ok (.iconst (-1), 1) := by decide +kernel
theorem dX7_tells_86 : decode cX7_tells 86 = .ok (.if_icmp .ne 10, 3) := by decide +kernel
theorem dX7_tells_89 : decode cX7_tells 89 = .ok (.iconst 1, 1) := by decide +kernel
theorem dX7_tells_90 : decode cX7_tells 90 = .ok (.iload 4, 2) := by decide +kernel
theorem dX7_tells_92 : decode cX7_tells 92 = .ok (.ishl, 1) := by decide +kernel
theorem dX7_tells_93 : decode cX7_tells 93 = .ok (.goto 4, 3) := by decide +kernel
theorem dX7_tells_96 : decode cX7_tells 96 = .ok (.iconst 0, 1) := by decide +kernel
theorem dX7_tells_97 : decode cX7_tells 97 = .ok (.ior, 1) := by decide +kernel
theorem dX7_tells_98 : decode cX7_tells 98 = .ok (.istore_n 3, 1) := by decide +kernel
theorem dX7_tells_99 : decode cX7_tells 99 = .ok (.iinc 4 1, 3) := by decide +kernel
theorem dX7_tells_102 : decode cX7_tells 102 = .ok (.goto (-38), 3) := by decide +kernel
theorem dX7_tells_105 : decode cX7_tells 105 = .ok (.iload_n 3, 1) := by decide +kernel
theorem dX7_tells_106 : decode cX7_tells 106 = .ok (.ireturn, 1) := by decide +kernel
theorem dX7_film_0 : decode cX7_film 0 = .ok (.iload_n 1, 1) := by decide +kernel
theorem dX7_film_1 : decode cX7_film 1 = .ok (.invokestatic 267, 3) := by decide +kernel
theorem dX7_film_4 : decode cX7_film 4 = .ok (.ifCond .ne 6, 3) := by decide +kernel
theorem dX7_film_7 : decode cX7_film 7 = .ok (.bipush (-2), 2) := by decide +kernel
theorem dX7_film_9 : decode cX7_film 9 = .ok (.ireturn, 1) := by decide +kernel
theorem dX7_film_10 : decode cX7_film 10 = .ok (.aload_n 0, 1) := by decide +kernel
theorem dX7_film_11 : decode cX7_film 11 = .ok (.invokevirtual 133, 3) := by decide +kernel
theorem dX7_film_14 : decode cX7_film 14 = .ok (.aload_n 0, 1) := by decide +kernel
theorem dX7_film_15 : decode cX7_film 15 = .ok (.getfield 59, 3) := by decide +kernel
theorem dX7_film_18 : decode cX7_film 18 = .ok (.iload_n 1, 1) := by decide +kernel
theorem dX7_film_19 : decode cX7_film 19 = .ok (.iconst 0, 1) := by decide +kernel
theorem dX7_film_20 : decode cX7_film 20 = .ok (.iastore, 1) := by decide +kernel
theorem dX7_film_21 : decode cX7_film 21 = .ok (.aload_n 0, 1) := by decide +kernel
theorem dX7_film_22 : decode cX7_film 22 = .ok (.getfield 62, 3) := by decide +kernel
theorem dX7_film_25 : decode cX7_film 25 = .ok (.iload_n 1, 1) := by decide +kernel
theorem dX7_film_26 : decode cX7_film 26 = .ok (.aload_n 0, 1) := by decide +kernel
theorem dX7_film_27 : decode cX7_film 27 = .ok (.getfield 106, 3) := by decide +kernel
theorem dX7_film_30 : decode cX7_film 30 = .ok (.iastore, 1) := by decide +kernel
theorem dX7_film_31 : decode cX7_film 31 = .ok (.iconst 0, 1) := by decide +kernel
theorem dX7_film_32 : decode cX7_film 32 = .ok (.istore_n 2, 1) := by decide +kernel
theorem dX7_film_33 : decode cX7_film 33 = .ok (.iload_n 2, 1) := by decide +kernel
theorem dX7_film_34 : decode cX7_film 34 = .ok (.aload_n 0, 1) := by decide +kernel
theorem dX7_film_35 : decode cX7_film 35 = .ok (.getfield 106, 3) := by decide +kernel
theorem dX7_film_38 : decode cX7_film 38 = .ok (.if_icmp .ge 34, 3) := by decide +kernel
theorem dX7_film_41 : decode cX7_film 41 = .ok (.aload_n 0, 1) := by decide +kernel
theorem dX7_film_42 : decode cX7_film 42 = .ok (.getfield 65, 3) := by decide +kernel
theorem dX7_film_45 : decode cX7_film 45 = .ok (.bipush 40, 2) := by decide +kernel
theorem dX7_film_47 : decode cX7_film 47 = .ok (.iload_n 1, 1) := by decide +kernel
theorem dX7_film_48 : decode cX7_film 48 = .ok (.imul, 1) := by decide +kernel
theorem dX7_film_49 : decode cX7_film 49 = .ok (.iload_n 2, 1) := by decide +kernel
theorem dX7_film_50 : decode cX7_film 50 = .ok (.iadd, 1) := by decide +kernel
theorem dX7_film_51 : decode cX7_film 51 = .ok (.aload_n 0, 1) := by decide +kernel
theorem dX7_film_52 : decode cX7_film 52 = .ok (.getfield 37, 3) := by decide +kernel
theorem dX7_film_55 : decode cX7_film 55 = .ok (.iload_n 2, 1) := by decide +kernel
theorem dX7_film_56 : decode cX7_film 56 = .ok (.baload, 1) := by decide +kernel
theorem dX7_film_57 : decode cX7_film 57 = .ok (.ifCond .eq 7, 3) := by decide +kernel
theorem dX7_film_60 : decode cX7_film 60 = .ok (.iconst 1, 1) := by decide +kernel
theorem dX7_film_61 : decode cX7_film 61 = .ok (.goto 4, 3) := by decide +kernel
theorem dX7_film_64 : decode cX7_film 64 = .ok (.iconst 0, 1) := by decide +kernel
theorem dX7_film_65 : decode cX7_film 65 = .ok (.iastore, 1) := by decide +kernel
theorem dX7_film_66 : decode cX7_film 66 = .ok (.iinc 2 1, 3) := by decide +kernel
theorem dX7_film_69 : decode cX7_film 69 = .ok (.goto (-36), 3) := by decide +kernel
theorem dX7_film_72 : decode cX7_film 72 = .ok (.aload_n 0, 1) := by decide +kernel
theorem dX7_film_73 : decode cX7_film 73 = .ok (.getfield 106, 3) := by decide +kernel
theorem dX7_film_76 : decode cX7_film 76 = .ok (.ireturn, 1) := by decide +kernel
theorem dX7_image_0 : decode cX7_image 0 = .ok (.aload_n 0, 1) := by decide +kernel
theorem dX7_image_1 : decode cX7_image 1 = .ok (.iconst 1, 1) := by decide +kernel
theorem dX7_image_2 : decode cX7_image 2 = .ok (.putfield 276, 3) := by decide +kernel
theorem dX7_image_5 : decode cX7_image 5 = .ok (.aload_n 0, 1) := by decide +kernel
theorem dX7_image_6 : decode cX7_image 6 = .ok (.aload_n 0, 1) := by decide +kernel
theorem dX7_image_7 : decode cX7_image 7 = .ok (.getfield 71, 3) := by decide +kernel
theorem dX7_image_10 : decode cX7_image 10 = .ok (.putfield 280, 3) := by decide +kernel
theorem dX7_image_13 : decode cX7_image 13 = .ok (.aload_n 0, 1) := by decide +kernel
theorem dX7_image_14 : decode cX7_image 14 = .ok (.aload_n 0, 1) := by decide +kernel
theorem dX7_image_15 : decode cX7_image 15 = .ok (.getfield 106, 3) := by decide +kernel
theorem dX7_image_18 : decode cX7_image 18 = .ok (.putfield 283, 3) := by decide +kernel
theorem dX7_image_21 : decode cX7_image 21 = .ok (.iconst 0, 1) := by decide +kernel
theorem dX7_image_22 : decode cX7_image 22 = .ok (.istore_n 1, 1) := by decide +kernel
theorem dX7_image_23 : decode cX7_image 23 = .ok (.iload_n 1, 1) := by decide +kernel
theorem dX7_image_24 : decode cX7_image 24 = .ok (.bipush 48, 2) := by decide +kernel
theorem dX7_image_26 : decode cX7_image 26 = .ok (.if_icmp .ge 21, 3) := by decide +kernel
theorem dX7_image_29 : decode cX7_image 29 = .ok (.aload_n 0, 1) := by decide +kernel
theorem dX7_image_30 : decode cX7_image 30 = .ok (.getfield 25, 3) := by decide +kernel
theorem dX7_image_33 : decode cX7_image 33 = .ok (.iload_n 1, 1) := by decide +kernel
theorem dX7_image_34 : decode cX7_image 34 = .ok (.aload_n 0, 1) := by decide +kernel
theorem dX7_image_35 : decode cX7_image 35 = .ok (.getfield 9, 3) := by decide +kernel
theorem dX7_image_38 : decode cX7_image 38 = .ok (.iload_n 1, 1) := by decide +kernel
theorem dX7_image_39 : decode cX7_image 39 = .ok (.iaload, 1) := by decide +kernel
theorem dX7_image_40 : decode cX7_image 40 = .ok (.iastore, 1) := by decide +kernel
theorem dX7_image_41 : decode cX7_image 41 = .ok (.iinc 1 1, 3) := by decide +kernel
theorem dX7_image_44 : decode cX7_image 44 = .ok (.goto (-21), 3) := by decide +kernel
theorem dX7_image_47 : decode cX7_image 47 = .ok (.iconst 0, 1) := by decide +kernel
theorem dX7_image_48 : decode cX7_image 48 = .ok (.istore_n 1, 1) := by decide +kernel
theorem dX7_image_49 : decode cX7_image 49 = .ok (.iload_n 1, 1) := by decide +kernel
theorem dX7_image_50 : decode cX7_image 50 = .ok (.bipush 24, 2) := by decide +kernel
theorem dX7_image_52 : decode cX7_image 52 = .ok (.if_icmp .ge 33, 3) := by decide +kernel
theorem dX7_image_55 : decode cX7_image 55 = .ok (.aload_n 0, 1) := by decide +kernel
theorem dX7_image_56 : decode cX7_image 56 = .ok (.getfield 28, 3) := by decide +kernel
theorem dX7_image_59 : decode cX7_image 59 = .ok (.iload_n 1, 1) := by decide +kernel
theorem dX7_image_60 : decode cX7_image 60 = .ok (.aload_n 0, 1) := by decide +kernel
theorem dX7_image_61 : decode cX7_image 61 = .ok (.getfield 13, 3) := by decide +kernel
theorem dX7_image_64 : decode cX7_image 64 = .ok (.iload_n 1, 1) := by decide +kernel
theorem dX7_image_65 : decode cX7_image 65 = .ok (.iaload, 1) := by decide +kernel
theorem dX7_image_66 : decode cX7_image 66 = .ok (.iastore, 1) := by decide +kernel
theorem dX7_image_67 : decode cX7_image 67 = .ok (.aload_n 0, 1) := by decide +kernel
theorem dX7_image_68 : decode cX7_image 68 = .ok (.getfield 31, 3) := by decide +kernel
theorem dX7_image_71 : decode cX7_image 71 = .ok (.iload_n 1, 1) := by decide +kernel
theorem dX7_image_72 : decode cX7_image 72 = .ok (.aload_n 0, 1) := by decide +kernel
theorem dX7_image_73 : decode cX7_image 73 = .ok (.getfield 16, 3) := by decide +kernel
theorem dX7_image_76 : decode cX7_image 76 = .ok (.iload_n 1, 1) := by decide +kernel
theorem dX7_image_77 : decode cX7_image 77 = .ok (.iaload, 1) := by decide +kernel
theorem dX7_image_78 : decode cX7_image 78 = .ok (.iastore, 1) := by decide +kernel
theorem dX7_image_79 : decode cX7_image 79 = .ok (.iinc 1 1, 3) := by decide +kernel
theorem dX7_image_82 : decode cX7_image 82 = .ok (.goto (-33), 3) := by decide +kernel
theorem dX7_image_85 : decode cX7_image 85 = .ok (.aload_n 0, 1) := by decide +kernel
theorem dX7_image_86 : decode cX7_image 86 = .ok (.getfield 71, 3) := by decide +kernel
theorem dX7_image_89 : decode cX7_image 89 = .ok (.ireturn, 1) := by decide +kernel
theorem dX7_back_0 : decode cX7_back 0 = .ok (.aload_n 0, 1) := by decide +kernel
theorem dX7_back_1 : decode cX7_back 1 = .ok (.getfield 276, 3) := by decide +kernel
theorem dX7_back_4 : decode cX7_back 4 = .ok (.ifCond .ne 6, 3) := by decide +kernel
theorem dX7_back_7 : decode cX7_back 7 = .ok (.bipush (-3), 2) := by decide +kernel
theorem dX7_back_9 : decode cX7_back 9 = .ok (.ireturn, 1) := by decide +kernel
theorem dX7_back_10 : decode cX7_back 10 = .ok (.aload_n 0, 1) := by decide +kernel
theorem dX7_back_11 : decode cX7_back 11 = .ok (.aload_n 0, 1) := by decide +kernel
theorem dX7_back_12 : decode cX7_back 12 = .ok (.getfield 280, 3) := by decide +kernel
theorem dX7_back_15 : decode cX7_back 15 = .ok (.putfield 71, 3) := by decide +kernel
theorem dX7_back_18 : decode cX7_back 18 = .ok (.aload_n 0, 1) := by decide +kernel
theorem dX7_back_19 : decode cX7_back 19 = .ok (.aload_n 0, 1) := by decide +kernel
theorem dX7_back_20 : decode cX7_back 20 = .ok (.getfield 283, 3) := by decide +kernel
theorem dX7_back_23 : decode cX7_back 23 = .ok (.putfield 106, 3) := by decide +kernel
theorem dX7_back_26 : decode cX7_back 26 = .ok (.iconst 0, 1) := by decide +kernel
theorem dX7_back_27 : decode cX7_back 27 = .ok (.istore_n 1, 1) := by decide +kernel
theorem dX7_back_28 : decode cX7_back 28 = .ok (.iload_n 1, 1) := by decide +kernel
theorem dX7_back_29 : decode cX7_back 29 = .ok (.bipush 48, 2) := by decide +kernel
theorem dX7_back_31 : decode cX7_back 31 = .ok (.if_icmp .ge 21, 3) := by decide +kernel
theorem dX7_back_34 : decode cX7_back 34 = .ok (.aload_n 0, 1) := by decide +kernel
theorem dX7_back_35 : decode cX7_back 35 = .ok (.getfield 9, 3) := by decide +kernel
theorem dX7_back_38 : decode cX7_back 38 = .ok (.iload_n 1, 1) := by decide +kernel
theorem dX7_back_39 : decode cX7_back 39 = .ok (.aload_n 0, 1) := by decide +kernel
theorem dX7_back_40 : decode cX7_back 40 = .ok (.getfield 25, 3) := by decide +kernel
theorem dX7_back_43 : decode cX7_back 43 = .ok (.iload_n 1, 1) := by decide +kernel
theorem dX7_back_44 : decode cX7_back 44 = .ok (.iaload, 1) := by decide +kernel
theorem dX7_back_45 : decode cX7_back 45 = .ok (.iastore, 1) := by decide +kernel
theorem dX7_back_46 : decode cX7_back 46 = .ok (.iinc 1 1, 3) := by decide +kernel
theorem dX7_back_49 : decode cX7_back 49 = .ok (.goto (-21), 3) := by decide +kernel
theorem dX7_back_52 : decode cX7_back 52 = .ok (.iconst 0, 1) := by decide +kernel
theorem dX7_back_53 : decode cX7_back 53 = .ok (.istore_n 1, 1) := by decide +kernel
theorem dX7_back_54 : decode cX7_back 54 = .ok (.iload_n 1, 1) := by decide +kernel
theorem dX7_back_55 : decode cX7_back 55 = .ok (.bipush 24, 2) := by decide +kernel
theorem dX7_back_57 : decode cX7_back 57 = .ok (.if_icmp .ge 33, 3) := by decide +kernel
theorem dX7_back_60 : decode cX7_back 60 = .ok (.aload_n 0, 1) := by decide +kernel
theorem dX7_back_61 : decode cX7_back 61 = .ok (.getfield 13, 3) := by decide +kernel
theorem dX7_back_64 : decode cX7_back 64 = .ok (.iload_n 1, 1) := by decide +kernel
theorem dX7_back_65 : decode cX7_back 65 = .ok (.aload_n 0, 1) := by decide +kernel
theorem dX7_back_66 : decode cX7_back 66 = .ok (.getfield 28, 3) := by decide +kernel
theorem dX7_back_69 : decode cX7_back 69 = .ok (.iload_n 1, 1) := by decide +kernel
theorem dX7_back_70 : decode cX7_back 70 = .ok (.iaload, 1) := by decide +kernel
theorem dX7_back_71 : decode cX7_back 71 = .ok (.iastore, 1) := by decide +kernel
theorem dX7_back_72 : decode cX7_back 72 = .ok (.aload_n 0, 1) := by decide +kernel
theorem dX7_back_73 : decode cX7_back 73 = .ok (.getfield 16, 3) := by decide +kernel
theorem dX7_back_76 : decode cX7_back 76 = .ok (.iload_n 1, 1) := by decide +kernel
theorem dX7_back_77 : decode cX7_back 77 = .ok (.aload_n 0, 1) := by decide +kernel
theorem dX7_back_78 : decode cX7_back 78 = .ok (.getfield 31, 3) := by decide +kernel
theorem dX7_back_81 : decode cX7_back 81 = .ok (.iload_n 1, 1) := by decide +kernel
theorem dX7_back_82 : decode cX7_back 82 = .ok (.iaload, 1) := by decide +kernel
theorem dX7_back_83 : decode cX7_back 83 = .ok (.iastore, 1) := by decide +kernel
theorem dX7_back_84 : decode cX7_back 84 = .ok (.iinc 1 1, 3) := by decide +kernel
theorem dX7_back_87 : decode cX7_back 87 = .ok (.goto (-33), 3) := by decide +kernel
theorem dX7_back_90 : decode cX7_back 90 = .ok (.aload_n 0, 1) := by decide +kernel
theorem dX7_back_91 : decode cX7_back 91 = .ok (.getfield 71, 3) := by decide +kernel
theorem dX7_back_94 : decode cX7_back 94 = .ok (.ireturn, 1) := by decide +kernel
theorem dX7_sheet_0 : decode cX7_sheet 0 = .ok (.iload_n 1, 1) := by decide +kernel
theorem dX7_sheet_1 : decode cX7_sheet 1 = .ok (.invokestatic 267, 3) := by decide +kernel
theorem dX7_sheet_4 : decode cX7_sheet 4 = .ok (.ifCond .eq 22, 3) := by decide +kernel
theorem dX7_sheet_7 : decode cX7_sheet 7 = .ok (.iload_n 2, 1) := by decide +kernel
theorem dX7_sheet_8 : decode cX7_sheet 8 = .ok (.iconst (-1), 1) := by decide +kernel
theorem dX7_sheet_9 : decode cX7_sheet 9 = .ok (.iconst 1, 1) := by decide +kernel
theorem dX7_sheet_10 : decode cX7_sheet 10 = .ok (.invokestatic 75, 3) := by decide +kernel
theorem dX7_sheet_13 : decode cX7_sheet 13 = .ok (.ifCond .eq 13, 3) := by decide +kernel
theorem dX7_sheet_16 : decode cX7_sheet 16 = .ok (.iload_n 2, 1) := by decide +kernel
theorem dX7_sheet_17 : decode cX7_sheet 17 = .ok (.ifCond .lt 12, 3) := by decide +kernel
theorem dX7_sheet_20 : decode cX7_sheet 20 = .ok (.iload_n 3, 1) := by decide +kernel
theorem dX7_sheet_21 : decode cX7_sheet 21 = .ok (.bipush 40, 2) := by decide +kernel
theorem dX7_sheet_23 : decode cX7_sheet 23 = .ok (.if_icmp .le 6, 3) := by decide +kernel
theorem dX7_sheet_26 : decode cX7_sheet 26 = .ok (.bipush (-2), 2) := by decide +kernel
theorem dX7_sheet_28 : decode cX7_sheet 28 = .ok (.ireturn, 1) := by decide +kernel
theorem dX7_sheet_29 : decode cX7_sheet 29 = .ok (.iload_n 2, 1) := by decide +kernel
theorem dX7_sheet_30 : decode cX7_sheet 30 = .ok (.ifCond .lt 10, 3) := by decide +kernel
theorem dX7_sheet_33 : decode cX7_sheet 33 = .ok (.iload_n 3, 1) := by decide +kernel
theorem dX7_sheet_34 : decode cX7_sheet 34 = .ok (.ifCond .ge 6, 3) := by decide +kernel
theorem dX7_sheet_37 : decode cX7_sheet 37 = .ok (.bipush (-14), 2) := by decide +kernel
theorem dX7_sheet_39 : decode cX7_sheet 39 = .ok (.ireturn, 1) := by decide +kernel
theorem dX7_sheet_40 : decode cX7_sheet 40 = .ok (.aload_n 0, 1) := by decide +kernel
theorem dX7_sheet_41 : decode cX7_sheet 41 = .ok (.getfield 59, 3) := by decide +kernel
theorem dX7_sheet_44 : decode cX7_sheet 44 = .ok (.iload_n 1, 1) := by decide +kernel
theorem dX7_sheet_45 : decode cX7_sheet 45 = .ok (.iload_n 2, 1) := by decide +kernel
theorem dX7_sheet_46 : decode cX7_sheet 46 = .ok (.iastore, 1) := by decide +kernel
theorem dX7_sheet_47 : decode cX7_sheet 47 = .ok (.aload_n 0, 1) := by decide +kernel
theorem dX7_sheet_48 : decode cX7_sheet 48 = .ok (.getfield 62, 3) := by decide +kernel
theorem dX7_sheet_51 : decode cX7_sheet 51 = .ok (.iload_n 1, 1) := by decide +kernel
theorem dX7_sheet_52 : decode cX7_sheet 52 = .ok (.iload_n 2, 1) := by decide +kernel
theorem dX7_sheet_53 : decode cX7_sheet 53 = .ok (.ifCond .ge 7, 3) := by decide +kernel
theorem dX7_sheet_56 : decode cX7_sheet 56 = .ok (.iconst 0, 1) := by decide +kernel
theorem dX7_sheet_57 : decode cX7_sheet 57 = .ok (.goto 4, 3) := by decide +kernel
theorem dX7_sheet_60 : decode cX7_sheet 60 = .ok (.iload_n 3, 1) := by decide +kernel
theorem dX7_sheet_61 : decode cX7_sheet 61 = .ok (.iastore, 1) := by decide +kernel
theorem dX7_sheet_62 : decode cX7_sheet 62 = .ok (.iconst 0, 1) := by decide +kernel
theorem dX7_sheet_63 : decode cX7_sheet 63 = .ok (.istore 4, 2) := by decide +kernel
theorem dX7_sheet_65 : decode cX7_sheet 65 = .ok (.iload 4, 2) := by decide +kernel
theorem dX7_sheet_67 : decode cX7_sheet 67 = .ok (.bipush 40, 2) := by decide +kernel
theorem dX7_sheet_69 : decode cX7_sheet 69 = .ok (.if_icmp .ge 22, 3) := by decide +kernel
theorem dX7_sheet_72 : decode cX7_sheet 72 = .ok (.aload_n 0, 1) := by decide +kernel
theorem dX7_sheet_73 : decode cX7_sheet 73 = .ok (.getfield 65, 3) := by decide +kernel
theorem dX7_sheet_76 : decode cX7_sheet 76 = .ok (.bipush 40, 2) := by decide +kernel
theorem dX7_sheet_78 : decode cX7_sheet 78 = .ok (.iload_n 1, 1) := by decide +kernel
theorem dX7_sheet_79 : decode cX7_sheet 79 = .ok (.imul, 1) := by decide +kernel
theorem dX7_sheet_80 : decode cX7_sheet 80 = .ok (.iload 4, 2) := by decide +kernel
theorem dX7_sheet_82 : decode cX7_sheet 82 = .ok (.iadd, 1) := by decide +kernel
theorem dX7_sheet_83 : decode cX7_sheet 83 = .ok (.iconst 0, 1) := by decide +kernel
theorem dX7_sheet_84 : decode cX7_sheet 84 = .ok (.iastore, 1) := by decide +kernel
theorem dX7_sheet_85 : decode cX7_sheet 85 = .ok (.iinc 4 1, 3) := by decide +kernel
theorem dX7_sheet_88 : decode cX7_sheet 88 = .ok (.goto (-23), 3) := by decide +kernel
theorem dX7_sheet_91 : decode cX7_sheet 91 = .ok (.iconst 1, 1) := by decide +kernel
theorem dX7_sheet_92 : decode cX7_sheet 92 = .ok (.ireturn, 1) := by decide +kernel
theorem dX7_put_0 : decode cX7_put 0 = .ok (.iload_n 1, 1) := by decide +kernel
theorem dX7_put_1 : decode cX7_put 1 = .ok (.invokestatic 267, 3) := by decide +kernel
theorem dX7_put_4 : decode cX7_put 4 = .ok (.ifCond .ne 6, 3) := by decide +kernel
theorem dX7_put_7 : decode cX7_put 7 = .ok (.bipush (-2), 2) := by decide +kernel
theorem dX7_put_9 : decode cX7_put 9 = .ok (.ireturn, 1) := by decide +kernel
theorem dX7_put_10 : decode cX7_put 10 = .ok (.aload_n 0, 1) := by decide +kernel
theorem dX7_put_11 : decode cX7_put 11 = .ok (.getfield 59, 3) := by decide +kernel
theorem dX7_put_14 : decode cX7_put 14 = .ok (.iload_n 1, 1) := by decide +kernel
theorem dX7_put_15 : decode cX7_put 15 = .ok (.iaload, 1) := by decide +kernel
theorem dX7_put_16 : decode cX7_put 16 = .ok (.ifCond .ge 6, 3) := by decide +kernel
theorem dX7_put_19 : decode cX7_put 19 = .ok (.bipush (-11), 2) := by decide +kernel
theorem dX7_put_21 : decode cX7_put 21 = .ok (.ireturn, 1) := by decide +kernel
theorem dX7_put_22 : decode cX7_put 22 = .ok (.iload_n 2, 1) := by decide +kernel
theorem dX7_put_23 : decode cX7_put 23 = .ok (.iconst 0, 1) := by decide +kernel
theorem dX7_put_24 : decode cX7_put 24 = .ok (.aload_n 0, 1) := by decide +kernel
theorem dX7_put_25 : decode cX7_put 25 = .ok (.getfield 62, 3) := by decide +kernel
theorem dX7_put_28 : decode cX7_put 28 = .ok (.iload_n 1, 1) := by decide +kernel
theorem dX7_put_29 : decode cX7_put 29 = .ok (.iaload, 1) := by decide +kernel
theorem dX7_put_30 : decode cX7_put 30 = .ok (.iconst 1, 1) := by decide +kernel
theorem dX7_put_31 : decode cX7_put 31 = .ok (.isub, 1) := by decide +kernel
theorem dX7_put_32 : decode cX7_put 32 = .ok (.invokestatic 75, 3) := by decide +kernel
theorem dX7_put_35 : decode cX7_put 35 = .ok (.ifCond .ne 6, 3) := by decide +kernel
theorem dX7_put_38 : decode cX7_put 38 = .ok (.bipush (-12), 2) := by decide +kernel
theorem dX7_put_40 : decode cX7_put 40 = .ok (.ireturn, 1) := by decide +kernel
theorem dX7_put_41 : decode cX7_put 41 = .ok (.aload_n 0, 1) := by decide +kernel
theorem dX7_put_42 : decode cX7_put 42 = .ok (.getfield 65, 3) := by decide +kernel
theorem dX7_put_45 : decode cX7_put 45 = .ok (.bipush 40, 2) := by decide +kernel
theorem dX7_put_47 : decode cX7_put 47 = .ok (.iload_n 1, 1) := by decide +kernel
theorem dX7_put_48 : decode cX7_put 48 = .ok (.imul, 1) := by decide +kernel
theorem dX7_put_49 : decode cX7_put 49 = .ok (.iload_n 2, 1) := by decide +kernel
theorem dX7_put_50 : decode cX7_put 50 = .ok (.iadd, 1) := by decide +kernel
theorem dX7_put_51 : decode cX7_put 51 = .ok (.aload_n 0, 1) := by decide +kernel
theorem dX7_put_52 : decode cX7_put 52 = .ok (.getfield 59, 3) := by decide +kernel
theorem dX7_put_55 : decode cX7_put 55 = .ok (.iload_n 1, 1) := by decide +kernel
theorem dX7_put_56 : decode cX7_put 56 = .ok (.iaload, 1) := by decide +kernel
theorem dX7_put_57 : decode cX7_put 57 = .ok (.ifCond .ne 8, 3) := by decide +kernel
theorem dX7_put_60 : decode cX7_put 60 = .ok (.iload_n 3, 1) := by decide +kernel
theorem dX7_put_61 : decode cX7_put 61 = .ok (.i2b, 1) := by decide +kernel
theorem dX7_put_62 : decode cX7_put 62 = .ok (.goto 4, 3) := by decide +kernel
theorem dX7_put_65 : decode cX7_put 65 = .ok (.iload_n 3, 1) := by decide +kernel
theorem dX7_put_66 : decode cX7_put 66 = .ok (.iastore, 1) := by decide +kernel
theorem dX7_put_67 : decode cX7_put 67 = .ok (.iconst 1, 1) := by decide +kernel
theorem dX7_put_68 : decode cX7_put 68 = .ok (.ireturn, 1) := by decide +kernel
theorem dX7_copy_0 : decode cX7_copy 0 = .ok (.iload_n 1, 1) := by decide +kernel
theorem dX7_copy_1 : decode cX7_copy 1 = .ok (.invokestatic 267, 3) := by decide +kernel
theorem dX7_copy_4 : decode cX7_copy 4 = .ok (.ifCond .eq 10, 3) := by decide +kernel
theorem dX7_copy_7 : decode cX7_copy 7 = .ok (.iload_n 3, 1) := by decide +kernel
theorem dX7_copy_8 : decode cX7_copy 8 = .ok (.invokestatic 267, 3) := by decide +kernel
theorem dX7_copy_11 : decode cX7_copy 11 = .ok (.ifCond .ne 6, 3) := by decide +kernel
theorem dX7_copy_14 : decode cX7_copy 14 = .ok (.bipush (-2), 2) := by decide +kernel
theorem dX7_copy_16 : decode cX7_copy 16 = .ok (.ireturn, 1) := by decide +kernel
theorem dX7_copy_17 : decode cX7_copy 17 = .ok (.aload_n 0, 1) := by decide +kernel
theorem dX7_copy_18 : decode cX7_copy 18 = .ok (.getfield 59, 3) := by decide +kernel
theorem dX7_copy_21 : decode cX7_copy 21 = .ok (.iload_n 1, 1) := by decide +kernel
theorem dX7_copy_22 : decode cX7_copy 22 = .ok (.iaload, 1) := by decide +kernel
theorem dX7_copy_23 : decode cX7_copy 23 = .ok (.ifCond .lt 12, 3) := by decide +kernel
theorem dX7_copy_26 : decode cX7_copy 26 = .ok (.aload_n 0, 1) := by decide +kernel
theorem dX7_copy_27 : decode cX7_copy 27 = .ok (.getfield 59, 3) := by decide +kernel
theorem dX7_copy_30 : decode cX7_copy 30 = .ok (.iload_n 3, 1) := by decide +kernel
theorem dX7_copy_31 : decode cX7_copy 31 = .ok (.iaload, 1) := by decide +kernel
theorem dX7_copy_32 : decode cX7_copy 32 = .ok (.ifCond .ge 6, 3) := by decide +kernel
theorem dX7_copy_35 : decode cX7_copy 35 = .ok (.bipush (-11), 2) := by decide +kernel
theorem dX7_copy_37 : decode cX7_copy 37 = .ok (.ireturn, 1) := by decide +kernel
theorem dX7_copy_38 : decode cX7_copy 38 = .ok (.aload_n 0, 1) := by decide +kernel
theorem dX7_copy_39 : decode cX7_copy 39 = .ok (.getfield 59, 3) := by decide +kernel
theorem dX7_copy_42 : decode cX7_copy 42 = .ok (.iload_n 1, 1) := by decide +kernel
theorem dX7_copy_43 : decode cX7_copy 43 = .ok (.iaload, 1) := by decide +kernel
theorem dX7_copy_44 : decode cX7_copy 44 = .ok (.aload_n 0, 1) := by decide +kernel
theorem dX7_copy_45 : decode cX7_copy 45 = .ok (.getfield 59, 3) := by decide +kernel
theorem dX7_copy_48 : decode cX7_copy 48 = .ok (.iload_n 3, 1) := by decide +kernel
theorem dX7_copy_49 : decode cX7_copy 49 = .ok (.iaload, 1) := by decide +kernel
theorem dX7_copy_50 : decode cX7_copy 50 = .ok (.if_icmp .eq 6, 3) := by decide +kernel
theorem dX7_copy_53 : decode cX7_copy 53 = .ok (.bipush (-13), 2) := by decide +kernel
theorem dX7_copy_55 : decode cX7_copy 55 = .ok (.ireturn, 1) := by decide +kernel
theorem dX7_copy_56 : decode cX7_copy 56 = .ok (.iload 5, 2) := by decide +kernel
theorem dX7_copy_58 : decode cX7_copy 58 = .ok (.ifCond .lt 39, 3) := by decide +kernel
theorem dX7_copy_61 : decode cX7_copy 61 = .ok (.iload_n 2, 1) := by decide +kernel
theorem dX7_copy_62 : decode cX7_copy 62 = .ok (.ifCond .lt 35, 3) := by decide +kernel
theorem dX7_copy_65 : decode cX7_copy 65 = .ok (.iload 4, 2) := by decide +kernel
theorem dX7_copy_67 : decode cX7_copy 67 = .ok (.ifCond .lt 30, 3) := by decide +kernel
theorem dX7_copy_70 : decode cX7_copy 70 = .ok (.iload_n 2, 1) := by decide +kernel
theorem dX7_copy_71 : decode cX7_copy 71 = .ok (.aload_n 0, 1) := by decide +kernel
theorem dX7_copy_72 : decode cX7_copy 72 = .ok (.getfield 62, 3) := by decide +kernel
theorem dX7_copy_75 : decode cX7_copy 75 = .ok (.iload_n 1, 1) := by decide +kernel
theorem dX7_copy_76 : decode cX7_copy 76 = .ok (.iaload, 1) := by decide +kernel
theorem dX7_copy_77 : decode cX7_copy 77 = .ok (.iload 5, 2) := by decide +kernel
theorem dX7_copy_79 : decode cX7_copy 79 = .ok (.isub, 1) := by decide +kernel
theorem dX7_copy_80 : decode cX7_copy 80 = .ok (.if_icmp .gt 17, 3) := by decide +kernel
theorem dX7_copy_83 : decode cX7_copy 83 = .ok (.iload 4, 2) := by decide +kernel
theorem dX7_copy_85 : decode cX7_copy 85 = .ok (.aload_n 0, 1) := by decide +kernel
theorem dX7_copy_86 : decode cX7_copy 86 = .ok (.getfield 62, 3) := by decide +kernel
theorem dX7_copy_89 : decode cX7_copy 89 = .ok (.iload_n 3, 1) := by decide +kernel
theorem dX7_copy_90 : decode cX7_copy 90 = .ok (.iaload, 1) := by decide +kernel
theorem dX7_copy_91 : decode cX7_copy 91 = .ok (.iload 5, 2) := by decide +kernel
theorem dX7_copy_93 : decode cX7_copy 93 = .ok (.isub, 1) := by decide +kernel
theorem dX7_copy_94 : decode cX7_copy 94 = .ok (.if_icmp .le 6, 3) := by decide +kernel
theorem dX7_copy_97 : decode cX7_copy 97 = .ok (.bipush (-12), 2) := by decide +kernel
theorem dX7_copy_99 : decode cX7_copy 99 = .ok (.ireturn, 1) := by decide +kernel
theorem dX7_copy_100 : decode cX7_copy 100 = .ok (.iconst 0, 1) := by decide +kernel
theorem dX7_copy_101 : decode cX7_copy 101 = .ok (.istore 6, 2) := by decide +kernel
theorem dX7_copy_103 : decode cX7_copy 103 = .ok (.iload 6, 2) := by decide +kernel
theorem dX7_copy_105 : decode cX7_copy 105 = .ok (.iload 5, 2) := by decide +kernel
theorem dX7_copy_107 : decode cX7_copy 107 = .ok (.if_icmp .ge 30, 3) := by decide +kernel
theorem dX7_copy_110 : decode cX7_copy 110 = .ok (.aload_n 0, 1) := by decide +kernel
theorem dX7_copy_111 : decode cX7_copy 111 = .ok (.getfield 68, 3) := by decide +kernel
theorem dX7_copy_114 : decode cX7_copy 114 = .ok (.iload 6, 2) := by decide +kernel
theorem dX7_copy_116 : decode cX7_copy 116 = .ok (.aload_n 0, 1) := by decide +kernel
theorem dX7_copy_117 : decode cX7_copy 117 = .ok (.getfield 65, 3) := by decide +kernel
theorem dX7_copy_120 : decode cX7_copy 120 = .ok (.bipush 40, 2) := by decide +kernel
theorem dX7_copy_122 : decode cX7_copy 122 = .ok (.iload_n 1, 1) := by decide +kernel
theorem dX7_copy_123 : decode cX7_copy 123 = .ok (.imul, 1) := by decide +kernel
theorem dX7_copy_124 : decode cX7_copy 124 = .ok (.iload_n 2, 1) := by decide +kernel
theorem dX7_copy_125 : decode cX7_copy 125 = .ok (.iadd, 1) := by decide +kernel
theorem dX7_copy_126 : decode cX7_copy 126 = .ok (.iload 6, 2) := by decide +kernel
theorem dX7_copy_128 : decode cX7_copy 128 = .ok (.iadd, 1) := by decide +kernel
theorem dX7_copy_129 : decode cX7_copy 129 = .ok (.iaload, 1) := by decide +kernel
theorem dX7_copy_130 : decode cX7_copy 130 = .ok (.iastore, 1) := by decide +kernel
theorem dX7_copy_131 : decode cX7_copy 131 = .ok (.iinc 6 1, 3) := by decide +kernel
theorem dX7_copy_134 : decode cX7_copy 134 = .ok (.goto (-31), 3) := by decide +kernel
theorem dX7_copy_137 : decode cX7_copy 137 = .ok (.iconst 0, 1) := by decide +kernel
theorem dX7_copy_138 : decode cX7_copy 138 = .ok (.istore 6, 2) := by decide +kernel
theorem dX7_copy_140 : decode cX7_copy 140 = .ok (.iload 6, 2) := by decide +kernel
theorem dX7_copy_142 : decode cX7_copy 142 = .ok (.iload 5, 2) := by decide +kernel
theorem dX7_copy_144 : decode cX7_copy 144 = .ok (.if_icmp .ge 31, 3) := by decide +kernel
theorem dX7_copy_147 : decode cX7_copy 147 = .ok (.aload_n 0, 1) := by decide +kernel
theorem dX7_copy_148 : decode cX7_copy 148 = .ok (.getfield 65, 3) := by decide +kernel
theorem dX7_copy_151 : decode cX7_copy 151 = .ok (.bipush 40, 2) := by decide +kernel
theorem dX7_copy_153 : decode cX7_copy 153 = .ok (.iload_n 3, 1) := by decide +kernel
theorem dX7_copy_154 : decode cX7_copy 154 = .ok (.imul, 1) := by decide +kernel
theorem dX7_copy_155 : decode cX7_copy 155 = .ok (.iload 4, 2) := by decide +kernel
theorem dX7_copy_157 : decode cX7_copy 157 = .ok (.iadd, 1) := by decide +kernel
theorem dX7_copy_158 : decode cX7_copy 158 = .ok (.iload 6, 2) := by decide +kernel
theorem dX7_copy_160 : decode cX7_copy 160 = .ok (.iadd, 1) := by decide +kernel
theorem dX7_copy_161 : decode cX7_copy 161 = .ok (.aload_n 0, 1) := by decide +kernel
theorem dX7_copy_162 : decode cX7_copy 162 = .ok (.getfield 68, 3) := by decide +kernel
theorem dX7_copy_165 : decode cX7_copy 165 = .ok (.iload 6, 2) := by decide +kernel
theorem dX7_copy_167 : decode cX7_copy 167 = .ok (.iaload, 1) := by decide +kernel
theorem dX7_copy_168 : decode cX7_copy 168 = .ok (.iastore, 1) := by decide +kernel
theorem dX7_copy_169 : decode cX7_copy 169 = .ok (.iinc 6 1, 3) := by decide +kernel
theorem dX7_copy_172 : decode cX7_copy 172 = .ok (.goto (-32), 3) := by decide +kernel
theorem dX7_copy_175 : decode cX7_copy 175 = .ok (.iload 5, 2) := by decide +kernel
theorem dX7_copy_177 : decode cX7_copy 177 = .ok (.ireturn, 1) := by decide +kernel
theorem dX7_load_0 : decode cX7_load 0 = .ok (.iload_n 1, 1) := by decide +kernel
theorem dX7_load_1 : decode cX7_load 1 = .ok (.invokestatic 267, 3) := by decide +kernel
theorem dX7_load_4 : decode cX7_load 4 = .ok (.ifCond .eq 23, 3) := by decide +kernel
theorem dX7_load_7 : decode cX7_load 7 = .ok (.iload_n 2, 1) := by decide +kernel
theorem dX7_load_8 : decode cX7_load 8 = .ok (.iconst 0, 1) := by decide +kernel
theorem dX7_load_9 : decode cX7_load 9 = .ok (.iconst 1, 1) := by decide +kernel
theorem dX7_load_10 : decode cX7_load 10 = .ok (.invokestatic 75, 3) := by decide +kernel
theorem dX7_load_13 : decode cX7_load 13 = .ok (.ifCond .eq 14, 3) := by decide +kernel
theorem dX7_load_16 : decode cX7_load 16 = .ok (.iload 4, 2) := by decide +kernel
theorem dX7_load_18 : decode cX7_load 18 = .ok (.iconst 0, 1) := by decide +kernel
theorem dX7_load_19 : decode cX7_load 19 = .ok (.bipush 24, 2) := by decide +kernel
theorem dX7_load_21 : decode cX7_load 21 = .ok (.invokestatic 75, 3) := by decide +kernel
theorem dX7_load_24 : decode cX7_load 24 = .ok (.ifCond .ne 6, 3) := by decide +kernel
theorem dX7_load_27 : decode cX7_load 27 = .ok (.bipush (-2), 2) := by decide +kernel
theorem dX7_load_29 : decode cX7_load 29 = .ok (.ireturn, 1) := by decide +kernel
theorem dX7_load_30 : decode cX7_load 30 = .ok (.aload_n 0, 1) := by decide +kernel
theorem dX7_load_31 : decode cX7_load 31 = .ok (.getfield 59, 3) := by decide +kernel
theorem dX7_load_34 : decode cX7_load 34 = .ok (.iload_n 1, 1) := by decide +kernel
theorem dX7_load_35 : decode cX7_load 35 = .ok (.iaload, 1) := by decide +kernel
theorem dX7_load_36 : decode cX7_load 36 = .ok (.ifCond .lt 16, 3) := by decide +kernel
theorem dX7_load_39 : decode cX7_load 39 = .ok (.aload_n 0, 1) := by decide +kernel
theorem dX7_load_40 : decode cX7_load 40 = .ok (.getfield 59, 3) := by decide +kernel
theorem dX7_load_43 : decode cX7_load 43 = .ok (.iload_n 1, 1) := by decide +kernel
theorem dX7_load_44 : decode cX7_load 44 = .ok (.iaload, 1) := by decide +kernel
theorem dX7_load_45 : decode cX7_load 45 = .ok (.iload_n 2, 1) := by decide +kernel
theorem dX7_load_46 : decode cX7_load 46 = .ok (.if_icmp .eq 6, 3) := by decide +kernel
theorem dX7_load_49 : decode cX7_load 49 = .ok (.bipush (-13), 2) := by decide +kernel
theorem dX7_load_51 : decode cX7_load 51 = .ok (.ireturn, 1) := by decide +kernel
theorem dX7_load_52 : decode cX7_load 52 = .ok (.aload_n 0, 1) := by decide +kernel
theorem dX7_load_53 : decode cX7_load 53 = .ok (.getfield 59, 3) := by decide +kernel
theorem dX7_load_56 : decode cX7_load 56 = .ok (.iload_n 1, 1) := by decide +kernel
theorem dX7_load_57 : decode cX7_load 57 = .ok (.iaload, 1) := by decide +kernel
theorem dX7_load_58 : decode cX7_load 58 = .ok (.ifCond .ge 6, 3) := by decide +kernel
theorem dX7_load_61 : decode cX7_load 61 = .ok (.bipush (-11), 2) := by decide +kernel
theorem dX7_load_63 : decode cX7_load 63 = .ok (.ireturn, 1) := by decide +kernel
theorem dX7_load_64 : decode cX7_load 64 = .ok (.iconst 0, 1) := by decide +kernel
theorem dX7_load_65 : decode cX7_load 65 = .ok (.istore 5, 2) := by decide +kernel
theorem dX7_load_67 : decode cX7_load 67 = .ok (.iconst 0, 1) := by decide +kernel
theorem dX7_load_68 : decode cX7_load 68 = .ok (.istore 6, 2) := by decide +kernel
theorem dX7_load_70 : decode cX7_load 70 = .ok (.iload 6, 2) := by decide +kernel
theorem dX7_load_72 : decode cX7_load 72 = .ok (.iload 4, 2) := by decide +kernel
theorem dX7_load_74 : decode cX7_load 74 = .ok (.if_icmp .ge 79, 3) := by decide +kernel
theorem dX7_load_77 : decode cX7_load 77 = .ok (.iload_n 3, 1) := by decide +kernel
theorem dX7_load_78 : decode cX7_load 78 = .ok (.ifCond .lt 20, 3) := by decide +kernel
theorem dX7_load_81 : decode cX7_load 81 = .ok (.iload_n 3, 1) := by decide +kernel
theorem dX7_load_82 : decode cX7_load 82 = .ok (.aload_n 0, 1) := by decide +kernel
theorem dX7_load_83 : decode cX7_load 83 = .ok (.getfield 62, 3) := by decide +kernel
theorem dX7_load_86 : decode cX7_load 86 = .ok (.iload_n 1, 1) := by decide +kernel
theorem dX7_load_87 : decode cX7_load 87 = .ok (.iaload, 1) := by decide +kernel
theorem dX7_load_88 : decode cX7_load 88 = .ok (.iconst 2, 1) := by decide +kernel
theorem dX7_load_89 : decode cX7_load 89 = .ok (.isub, 1) := by decide +kernel
theorem dX7_load_90 : decode cX7_load 90 = .ok (.iconst 2, 1) := by decide +kernel
theorem dX7_load_91 : decode cX7_load 91 = .ok (.iload 6, 2) := by decide +kernel
theorem dX7_load_93 : decode cX7_load 93 = .ok (.imul, 1) := by decide +kernel
theorem dX7_load_94 : decode cX7_load 94 = .ok (.isub, 1) := by decide +kernel
theorem dX7_load_95 : decode cX7_load 95 = .ok (.if_icmp .le 6, 3) := by decide +kernel
theorem dX7_load_98 : decode cX7_load 98 = .ok (.bipush (-12), 2) := by decide +kernel
theorem dX7_load_100 : decode cX7_load 100 = .ok (.ireturn, 1) := by decide +kernel
theorem dX7_load_101 : decode cX7_load 101 = .ok (.bipush 40, 2) := by decide +kernel
theorem dX7_load_103 : decode cX7_load 103 = .ok (.iload_n 1, 1) := by decide +kernel
theorem dX7_load_104 : decode cX7_load 104 = .ok (.imul, 1) := by decide +kernel
theorem dX7_load_105 : decode cX7_load 105 = .ok (.iload_n 3, 1) := by decide +kernel
theorem dX7_load_106 : decode cX7_load 106 = .ok (.iadd, 1) := by decide +kernel
theorem dX7_load_107 : decode cX7_load 107 = .ok (.iconst 2, 1) := by decide +kernel
theorem dX7_load_108 : decode cX7_load 108 = .ok (.iload 6, 2) := by decide +kernel
theorem dX7_load_110 : decode cX7_load 110 = .ok (.imul, 1) := by decide +kernel
theorem dX7_load_111 : decode cX7_load 111 = .ok (.iadd, 1) := by decide +kernel
theorem dX7_load_112 : decode cX7_load 112 = .ok (.istore 7, 2) := by decide +kernel
theorem dX7_load_114 : decode cX7_load 114 = .ok (.iload 5, 2) := by decide +kernel
theorem dX7_load_116 : decode cX7_load 116 = .ok (.aload_n 0, 1) := by decide +kernel
theorem dX7_load_117 : decode cX7_load 117 = .ok (.aload_n 0, 1) := by decide +kernel
theorem dX7_load_118 : decode cX7_load 118 = .ok (.getfield 65, 3) := by decide +kernel
theorem dX7_load_121 : decode cX7_load 121 = .ok (.iload 7, 2) := by decide +kernel
theorem dX7_load_123 : decode cX7_load 123 = .ok (.iaload, 1) := by decide +kernel
theorem dX7_load_124 : decode cX7_load 124 = .ok (.aload_n 0, 1) := by decide +kernel
theorem dX7_load_125 : decode cX7_load 125 = .ok (.getfield 65, 3) := by decide +kernel
theorem dX7_load_128 : decode cX7_load 128 = .ok (.iload 7, 2) := by decide +kernel
theorem dX7_load_130 : decode cX7_load 130 = .ok (.iconst 1, 1) := by decide +kernel
theorem dX7_load_131 : decode cX7_load 131 = .ok (.iadd, 1) := by decide +kernel
theorem dX7_load_132 : decode cX7_load 132 = .ok (.iaload, 1) := by decide +kernel
theorem dX7_load_133 : decode cX7_load 133 = .ok (.invokevirtual 255, 3) := by decide +kernel
theorem dX7_load_136 : decode cX7_load 136 = .ok (.ifCond .lt 7, 3) := by decide +kernel
theorem dX7_load_139 : decode cX7_load 139 = .ok (.iconst 1, 1) := by decide +kernel
theorem dX7_load_140 : decode cX7_load 140 = .ok (.goto 4, 3) := by decide +kernel
theorem dX7_load_143 : decode cX7_load 143 = .ok (.iconst 0, 1) := by decide +kernel
theorem dX7_load_144 : decode cX7_load 144 = .ok (.iadd, 1) := by decide +kernel
theorem dX7_load_145 : decode cX7_load 145 = .ok (.istore 5, 2) := by decide +kernel
theorem dX7_load_147 : decode cX7_load 147 = .ok (.iinc 6 1, 3) := by decide +kernel
theorem dX7_load_150 : decode cX7_load 150 = .ok (.goto (-80), 3) := by decide +kernel
theorem dX7_load_153 : decode cX7_load 153 = .ok (.iload 5, 2) := by decide +kernel
theorem dX7_load_155 : decode cX7_load 155 = .ok (.ireturn, 1) := by decide +kernel
