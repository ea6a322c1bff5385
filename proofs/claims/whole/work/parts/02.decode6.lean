theorem dX6_init_0 : decode cX6_init 0 = .ok (.aload_n 0, 1) := by decide +kernel
theorem dX6_init_1 : decode cX6_init 1 = .ok (.invokespecial 1, 3) := by decide +kernel
theorem dX6_init_4 : decode cX6_init 4 = .ok (.aload_n 0, 1) := by decide +kernel
theorem dX6_init_5 : decode cX6_init 5 = .ok (.sipush 200, 3) := by decide +kernel
theorem dX6_init_8 : decode cX6_init 8 = .ok (.newarray .int, 2) := by decide +kernel
theorem dX6_init_10 : decode cX6_init 10 = .ok (.putfield 7, 3) := by decide +kernel
theorem dX6_init_13 : decode cX6_init 13 = .ok (.aload_n 0, 1) := by decide +kernel
theorem dX6_init_14 : decode cX6_init 14 = .ok (.bipush 8, 2) := by decide +kernel
theorem dX6_init_16 : decode cX6_init 16 = .ok (.newarray .int, 2) := by decide +kernel
theorem dX6_init_18 : decode cX6_init 18 = .ok (.putfield 13, 3) := by decide +kernel
theorem dX6_init_21 : decode cX6_init 21 = .ok (.aload_n 0, 1) := by decide +kernel
theorem dX6_init_22 : decode cX6_init 22 = .ok (.bipush 12, 2) := by decide +kernel
theorem dX6_init_24 : decode cX6_init 24 = .ok (.newarray .int, 2) := by decide +kernel
theorem dX6_init_26 : decode cX6_init 26 = .ok (.putfield 16, 3) := by decide +kernel
theorem dX6_init_29 : decode cX6_init 29 = .ok (.aload_n 0, 1) := by decide +kernel
theorem dX6_init_30 : decode cX6_init 30 = .ok (.bipush 12, 2) := by decide +kernel
theorem dX6_init_32 : decode cX6_init 32 = .ok (.newarray .int, 2) := by decide +kernel
theorem dX6_init_34 : decode cX6_init 34 = .ok (.putfield 19, 3) := by decide +kernel
theorem dX6_init_37 : decode cX6_init 37 = .ok (.aload_n 0, 1) := by decide +kernel
theorem dX6_init_38 : decode cX6_init 38 = .ok (.bipush 16, 2) := by decide +kernel
theorem dX6_init_40 : decode cX6_init 40 = .ok (.newarray .int, 2) := by decide +kernel
theorem dX6_init_42 : decode cX6_init 42 = .ok (.putfield 22, 3) := by decide +kernel
theorem dX6_init_45 : decode cX6_init 45 = .ok (.aload_n 0, 1) := by decide +kernel
theorem dX6_init_46 : decode cX6_init 46 = .ok (.bipush 16, 2) := by decide +kernel
theorem dX6_init_48 : decode cX6_init 48 = .ok (.newarray .int, 2) := by decide +kernel
theorem dX6_init_50 : decode cX6_init 50 = .ok (.putfield 25, 3) := by decide +kernel
theorem dX6_init_53 : decode cX6_init 53 = .ok (.aload_n 0, 1) := by decide +kernel
theorem dX6_init_54 : decode cX6_init 54 = .ok (.bipush 16, 2) := by decide +kernel
theorem dX6_init_56 : decode cX6_init 56 = .ok (.newarray .int, 2) := by decide +kernel
theorem dX6_init_58 : decode cX6_init 58 = .ok (.putfield 28, 3) := by decide +kernel
theorem dX6_init_61 : decode cX6_init 61 = .ok (.aload_n 0, 1) := by decide +kernel
theorem dX6_init_62 : decode cX6_init 62 = .ok (.bipush 16, 2) := by decide +kernel
theorem dX6_init_64 : decode cX6_init 64 = .ok (.newarray .int, 2) := by decide +kernel
theorem dX6_init_66 : decode cX6_init 66 = .ok (.putfield 31, 3) := by decide +kernel
theorem dX6_init_69 : decode cX6_init 69 = .ok (.aload_n 0, 1) := by decide +kernel
theorem dX6_init_70 : decode cX6_init 70 = .ok (.bipush 16, 2) := by decide +kernel
theorem dX6_init_72 : decode cX6_init 72 = .ok (.newarray .int, 2) := by decide +kernel
theorem dX6_init_74 : decode cX6_init 74 = .ok (.putfield 34, 3) := by decide +kernel
theorem dX6_init_77 : decode cX6_init 77 = .ok (.aload_n 0, 1) := by decide +kernel
theorem dX6_init_78 : decode cX6_init 78 = .ok (.bipush 16, 2) := by decide +kernel
theorem dX6_init_80 : decode cX6_init 80 = .ok (.newarray .int, 2) := by decide +kernel
theorem dX6_init_82 : decode cX6_init 82 = .ok (.putfield 37, 3) := by decide +kernel
theorem dX6_init_85 : decode cX6_init 85 = .ok (.aload_n 0, 1) := by decide +kernel
theorem dX6_init_86 : decode cX6_init 86 = .ok (.bipush 64, 2) := by decide +kernel
theorem dX6_init_88 : decode cX6_init 88 = .ok (.newarray .int, 2) := by decide +kernel
theorem dX6_init_90 : decode cX6_init 90 = .ok (.putfield 40, 3) := by decide +kernel
theorem dX6_init_93 : decode cX6_init 93 = .ok (.aload_n 0, 1) := by decide +kernel
theorem dX6_init_94 : decode cX6_init 94 = .ok (.bipush 16, 2) := by decide +kernel
theorem dX6_init_96 : decode cX6_init 96 = .ok (.newarray .int, 2) := by decide +kernel
theorem dX6_init_98 : decode cX6_init 98 = .ok (.putfield 43, 3) := by decide +kernel
theorem dX6_init_101 : decode cX6_init 101 = .ok (.aload_n 0, 1) := by decide +kernel
theorem dX6_init_102 : decode cX6_init 102 = .ok (.bipush 37, 2) := by decide +kernel
theorem dX6_init_104 : decode cX6_init 104 = .ok (.newarray .int, 2) := by decide +kernel
theorem dX6_init_106 : decode cX6_init 106 = .ok (.putfield 46, 3) := by decide +kernel
theorem dX6_init_109 : decode cX6_init 109 = .ok (.aload_n 0, 1) := by decide +kernel
theorem dX6_init_110 : decode cX6_init 110 = .ok (.bipush 74, 2) := by decide +kernel
theorem dX6_init_112 : decode cX6_init 112 = .ok (.newarray .int, 2) := by decide +kernel
theorem dX6_init_114 : decode cX6_init 114 = .ok (.putfield 49, 3) := by decide +kernel
theorem dX6_init_117 : decode cX6_init 117 = .ok (.aload_n 0, 1) := by decide +kernel
theorem dX6_init_118 : decode cX6_init 118 = .ok (.iconst 2, 1) := by decide +kernel
theorem dX6_init_119 : decode cX6_init 119 = .ok (.newarray .boolean, 2) := by decide +kernel
theorem dX6_init_121 : decode cX6_init 121 = .ok (.putfield 52, 3) := by decide +kernel
theorem dX6_init_124 : decode cX6_init 124 = .ok (.aload_n 0, 1) := by decide +kernel
theorem dX6_init_125 : decode cX6_init 125 = .ok (.sipush 370, 3) := by decide +kernel
theorem dX6_init_128 : decode cX6_init 128 = .ok (.newarray .int, 2) := by decide +kernel
theorem dX6_init_130 : decode cX6_init 130 = .ok (.putfield 56, 3) := by decide +kernel
theorem dX6_init_133 : decode cX6_init 133 = .ok (.aload_n 0, 1) := by decide +kernel
theorem dX6_init_134 : decode cX6_init 134 = .ok (.iconst 4, 1) := by decide +kernel
theorem dX6_init_135 : decode cX6_init 135 = .ok (.newarray .int, 2) := by decide +kernel
theorem dX6_init_137 : decode cX6_init 137 = .ok (.putfield 59, 3) := by decide +kernel
theorem dX6_init_140 : decode cX6_init 140 = .ok (.aload_n 0, 1) := by decide +kernel
theorem dX6_init_141 : decode cX6_init 141 = .ok (.bipush 6, 2) := by decide +kernel
theorem dX6_init_143 : decode cX6_init 143 = .ok (.newarray .int, 2) := by decide +kernel
theorem dX6_init_145 : decode cX6_init 145 = .ok (.putfield 62, 3) := by decide +kernel
theorem dX6_init_148 : decode cX6_init 148 = .ok (.aload_n 0, 1) := by decide +kernel
theorem dX6_init_149 : decode cX6_init 149 = .ok (.bipush 10, 2) := by decide +kernel
theorem dX6_init_151 : decode cX6_init 151 = .ok (.newarray .int, 2) := by decide +kernel
theorem dX6_init_153 : decode cX6_init 153 = .ok (.putfield 65, 3) := by decide +kernel
theorem dX6_init_156 : decode cX6_init 156 = .ok (.aload_n 0, 1) := by decide +kernel
theorem dX6_init_157 : decode cX6_init 157 = .ok (.invokevirtual 68, 3) := by decide +kernel
theorem dX6_init_160 : decode cX6_init 160 = .ok (.aload_n 0, 1) := by decide +kernel
theorem dX6_init_161 : decode cX6_init 161 = .ok (.invokevirtual 71, 3) := by decide +kernel
theorem dX6_init_164 : decode cX6_init 164 = .ok (.return_, 1) := by decide +kernel
theorem dX6_in_0 : decode cX6_in 0 = .ok (.iload_n 0, 1) := by decide +kernel
theorem dX6_in_1 : decode cX6_in 1 = .ok (.iload_n 1, 1) := by decide +kernel
theorem dX6_in_2 : decode cX6_in 2 = .ok (.if_icmp .lt 12, 3) := by decide +kernel
theorem dX6_in_5 : decode cX6_in 5 = .ok (.iload_n 0, 1) := by decide +kernel
theorem dX6_in_6 : decode cX6_in 6 = .ok (.iload_n 2, 1) := by decide +kernel
theorem dX6_in_7 : decode cX6_in 7 = .ok (.if_icmp .gt 7, 3) := by decide +kernel
theorem dX6_in_10 : decode cX6_in 10 = .ok (.iconst 1, 1) := by decide +kernel
theorem dX6_in_11 : decode cX6_in 11 = .ok (.goto 4, 3) := by decide +kernel
theorem dX6_in_14 : decode cX6_in 14 = .ok (.iconst 0, 1) := by decide +kernel
theorem dX6_in_15 : decode cX6_in 15 = .ok (.ireturn, 1) := by decide +kernel
theorem dX6_ones_0 : decode cX6_ones 0 = .ok (.iconst 0, 1) := by decide +kernel
theorem dX6_ones_1 : decode cX6_ones 1 = .ok (.istore_n 1, 1) := by decide +kernel
theorem dX6_ones_2 : decode cX6_ones 2 = .ok (.iconst 0, 1) := by decide +kernel
theorem dX6_ones_3 : decode cX6_ones 3 = .ok (.istore_n 2, 1) := by decide +kernel
theorem dX6_ones_4 : decode cX6_ones 4 = .ok (.iload_n 2, 1) := by decide +kernel
theorem dX6_ones_5 : decode cX6_ones 5 = .ok (.bipush 8, 2) := by decide +kernel
theorem dX6_ones_7 : decode cX6_ones 7 = .ok (.if_icmp .ge 17, 3) := by decide +kernel
theorem dX6_ones_10 : decode cX6_ones 10 = .ok (.iload_n 1, 1) := by decide +kernel
theorem dX6_ones_11 : decode cX6_ones 11 = .ok (.iload_n 0, 1) := by decide +kernel
theorem dX6_ones_12 : decode cX6_ones 12 = .ok (.iload_n 2, 1) := by decide +kernel
theorem dX6_ones_13 : decode cX6_ones 13 = .ok (.ishr, 1) := by decide +kernel
theorem dX6_ones_14 : decode cX6_ones 14 = .ok (.iconst 1, 1) := by decide +kernel
theorem dX6_ones_15 : decode cX6_ones 15 = .ok (.iand, 1) := by decide +kernel
theorem dX6_ones_16 : decode cX6_ones 16 = .ok (.iadd, 1) := by decide +kernel
theorem dX6_ones_17 : decode cX6_ones 17 = .ok (.istore_n 1, 1) := by decide +kernel
theorem dX6_ones_18 : decode cX6_ones 18 = .ok (.iinc 2 1, 3) := by decide +kernel
theorem dX6_ones_21 : decode cX6_ones 21 = .ok (.goto (-17), 3) := by decide +kernel
theorem dX6_ones_24 : decode cX6_ones 24 = .ok (.iload_n 1, 1) := by decide +kernel
theorem dX6_ones_25 : decode cX6_ones 25 = .ok (.ireturn, 1) := by decide +kernel
theorem dX6_type_0 : decode cX6_type 0 = .ok (.aload_n 0, 1) := by decide +kernel
theorem dX6_type_1 : decode cX6_type 1 = .ok (.iconst 0, 1) := by decide +kernel
theorem dX6_type_2 : decode cX6_type 2 = .ok (.putfield 74, 3) := by decide +kernel
theorem dX6_type_5 : decode cX6_type 5 = .ok (.iload_n 1, 1) := by decide +kernel
theorem dX6_type_6 : decode cX6_type 6 = .ok (.iconst 0, 1) := by decide +kernel
theorem dX6_type_7 : decode cX6_type 7 = .ok (.sipush 255, 3) := by decide +kernel
theorem dX6_type_10 : decode cX6_type 10 = .ok (.invokestatic 78, 3) := by decide +kernel
theorem dX6_type_13 : decode cX6_type 13 = .ok (.ifCond .ne 5, 3) := by decide +kernel
theorem dX6_type_16 : decode cX6_type 16 = .ok (.iconst (-1), 1) := by decide +kernel
theorem dX6_type_17 : decode cX6_type 17 = .ok (.ireturn, 1) := by decide +kernel
theorem dX6_type_18 : decode cX6_type 18 = .ok (.aload_n 0, 1) := by decide +kernel
theorem dX6_type_19 : decode cX6_type 19 = .ok (.getfield 82, 3) := by decide +kernel
theorem dX6_type_22 : decode cX6_type 22 = .ok (.sipush 200, 3) := by decide +kernel
theorem dX6_type_25 : decode cX6_type 25 = .ok (.if_icmp .ne 6, 3) := by decide +kernel
theorem dX6_type_28 : decode cX6_type 28 = .ok (.bipush (-3), 2) := by decide +kernel
theorem dX6_type_30 : decode cX6_type 30 = .ok (.ireturn, 1) := by decide +kernel
theorem dX6_type_31 : decode cX6_type 31 = .ok (.aload_n 0, 1) := by decide +kernel
theorem dX6_type_32 : decode cX6_type 32 = .ok (.getfield 7, 3) := by decide +kernel
theorem dX6_type_35 : decode cX6_type 35 = .ok (.aload_n 0, 1) := by decide +kernel
theorem dX6_type_36 : decode cX6_type 36 = .ok (.getfield 82, 3) := by decide +kernel
theorem dX6_type_39 : decode cX6_type 39 = .ok (.iload_n 1, 1) := by decide +kernel
theorem dX6_type_40 : decode cX6_type 40 = .ok (.iastore, 1) := by decide +kernel
theorem dX6_type_41 : decode cX6_type 41 = .ok (.aload_n 0, 1) := by decide +kernel
theorem dX6_type_42 : decode cX6_type 42 = .ok (.dup, 1) := by decide +kernel
theorem dX6_type_43 : decode cX6_type 43 = .ok (.getfield 82, 3) := by decide +kernel
theorem dX6_type_46 : decode cX6_type 46 = .ok (.iconst 1, 1) := by decide +kernel
theorem dX6_type_47 : decode cX6_type 47 = .ok (.iadd, 1) := by decide +kernel
theorem dX6_type_48 : decode cX6_type 48 = .ok (.putfield 82, 3) := by decide +kernel
theorem dX6_type_51 : decode cX6_type 51 = .ok (.aload_n 0, 1) := by decide +kernel
theorem dX6_type_52 : decode cX6_type 52 = .ok (.getfield 82, 3) := by decide +kernel
theorem dX6_type_55 : decode cX6_type 55 = .ok (.ireturn, 1) := by decide +kernel
theorem dX6_clear_0 : decode cX6_clear 0 = .ok (.aload_n 0, 1) := by decide +kernel
theorem dX6_clear_1 : decode cX6_clear 1 = .ok (.iconst 0, 1) := by decide +kernel
theorem dX6_clear_2 : decode cX6_clear 2 = .ok (.putfield 74, 3) := by decide +kernel
theorem dX6_clear_5 : decode cX6_clear 5 = .ok (.aload_n 0, 1) := by decide +kernel
theorem dX6_clear_6 : decode cX6_clear 6 = .ok (.getfield 82, 3) := by decide +kernel
theorem dX6_clear_9 : decode cX6_clear 9 = .ok (.istore_n 1, 1) := by decide +kernel
theorem dX6_clear_10 : decode cX6_clear 10 = .ok (.aload_n 0, 1) := by decide +kernel
theorem dX6_clear_11 : decode cX6_clear 11 = .ok (.iconst 0, 1) := by decide +kernel
theorem dX6_clear_12 : decode cX6_clear 12 = .ok (.putfield 82, 3) := by decide +kernel
theorem dX6_clear_15 : decode cX6_clear 15 = .ok (.iload_n 1, 1) := by decide +kernel
theorem dX6_clear_16 : decode cX6_clear 16 = .ok (.ireturn, 1) := by decide +kernel
theorem dX6_letterAt_0 : decode cX6_letterAt 0 = .ok (.iload_n 1, 1) := by decide +kernel
theorem dX6_letterAt_1 : decode cX6_letterAt 1 = .ok (.aload_n 0, 1) := by decide +kernel
theorem dX6_letterAt_2 : decode cX6_letterAt 2 = .ok (.getfield 82, 3) := by decide +kernel
theorem dX6_letterAt_5 : decode cX6_letterAt 5 = .ok (.if_icmp .ge 12, 3) := by decide +kernel
theorem dX6_letterAt_8 : decode cX6_letterAt 8 = .ok (.aload_n 0, 1) := by decide +kernel
theorem dX6_letterAt_9 : decode cX6_letterAt 9 = .ok (.getfield 7, 3) := by decide +kernel
theorem dX6_letterAt_12 : decode cX6_letterAt 12 = .ok (.iload_n 1, 1) := by decide +kernel
theorem dX6_letterAt_13 : decode cX6_letterAt 13 = .ok (.iaload, 1) := by decide +kernel
theorem dX6_letterAt_14 : decode cX6_letterAt 14 = .ok (.goto 4, 3) := by decide +kernel
theorem dX6_letterAt_17 : decode cX6_letterAt 17 = .ok (.iconst (-1), 1) := by decide +kernel
theorem dX6_letterAt_18 : decode cX6_letterAt 18 = .ok (.ireturn, 1) := by decide +kernel
theorem dX6_isLetter_0 : decode cX6_isLetter 0 = .ok (.iload_n 0, 1) := by decide +kernel
theorem dX6_isLetter_1 : decode cX6_isLetter 1 = .ok (.bipush 112, 2) := by decide +kernel
theorem dX6_isLetter_3 : decode cX6_isLetter 3 = .ok (.if_icmp .eq 27, 3) := by decide +kernel
theorem dX6_isLetter_6 : decode cX6_isLetter 6 = .ok (.iload_n 0, 1) := by decide +kernel
theorem dX6_isLetter_7 : decode cX6_isLetter 7 = .ok (.bipush 109, 2) := by decide +kernel
theorem dX6_isLetter_9 : decode cX6_isLetter 9 = .ok (.if_icmp .eq 21, 3) := by decide +kernel
theorem dX6_isLetter_12 : decode cX6_isLetter 12 = .ok (.iload_n 0, 1) := by decide +kernel
theorem dX6_isLetter_13 : decode cX6_isLetter 13 = .ok (.bipush 120, 2) := by decide +kernel
theorem dX6_isLetter_15 : decode cX6_isLetter 15 = .ok (.if_icmp .eq 15, 3) := by decide +kernel
theorem dX6_isLetter_18 : decode cX6_isLetter 18 = .ok (.iload_n 0, 1) := by decide +kernel
theorem dX6_isLetter_19 : decode cX6_isLetter 19 = .ok (.bipush 97, 2) := by decide +kernel
theorem dX6_isLetter_21 : decode cX6_isLetter 21 = .ok (.if_icmp .eq 9, 3) := by decide +kernel
theorem dX6_isLetter_24 : decode cX6_isLetter 24 = .ok (.iload_n 0, 1) := by decide +kernel
theorem dX6_isLetter_25 : decode cX6_isLetter 25 = .ok (.bipush 115, 2) := by decide +kernel
theorem dX6_isLetter_27 : decode cX6_isLetter 27 = .ok (.if_icmp .ne 7, 3) := by decide +kernel
theorem dX6_isLetter_30 : decode cX6_isLetter 30 = .ok (.iconst 1, 1) := by decide +kernel
theorem dX6_isLetter_31 : decode cX6_isLetter 31 = .ok (.goto 4, 3) := by decide +kernel
theorem dX6_isLetter_34 : decode cX6_isLetter 34 = .ok (.iconst 0, 1) := by decide +kernel
theorem dX6_isLetter_35 : decode cX6_isLetter 35 = .ok (.ireturn, 1) := by decide +kernel
theorem dX6_advances_0 : decode cX6_advances 0 = .ok (.aload_n 0, 1) := by decide +kernel
theorem dX6_advances_1 : decode cX6_advances 1 = .ok (.aload_n 0, 1) := by decide +kernel
theorem dX6_advances_2 : decode cX6_advances 2 = .ok (.getfield 85, 3) := by decide +kernel
theorem dX6_advances_5 : decode cX6_advances 5 = .ok (.invokevirtual 88, 3) := by decide +kernel
theorem dX6_advances_8 : decode cX6_advances 8 = .ok (.bipush 32, 2) := by decide +kernel
theorem dX6_advances_10 : decode cX6_advances 10 = .ok (.if_icmp .ne 16, 3) := by decide +kernel
theorem dX6_advances_13 : decode cX6_advances 13 = .ok (.aload_n 0, 1) := by decide +kernel
theorem dX6_advances_14 : decode cX6_advances 14 = .ok (.dup, 1) := by decide +kernel
theorem dX6_advances_15 : decode cX6_advances 15 = .ok (.getfield 85, 3) := by decide +kernel
theorem dX6_advances_18 : decode cX6_advances 18 = .ok (.iconst 1, 1) := by decide +kernel
theorem dX6_advances_19 : decode cX6_advances 19 = .ok (.iadd, 1) := by decide +kernel
theorem dX6_advances_20 : decode cX6_advances 20 = .ok (.putfield 85, 3) := by decide +kernel
theorem dX6_advances_23 : decode cX6_advances 23 = .ok (.goto (-23), 3) := by decide +kernel
theorem dX6_advances_26 : decode cX6_advances 26 = .ok (.aload_n 0, 1) := by decide +kernel
theorem dX6_advances_27 : decode cX6_advances 27 = .ok (.aload_n 0, 1) := by decide +kernel
theorem dX6_advances_28 : decode cX6_advances 28 = .ok (.getfield 85, 3) := by decide +kernel
theorem dX6_advances_31 : decode cX6_advances 31 = .ok (.putfield 92, 3) := by decide +kernel
theorem dX6_advances_34 : decode cX6_advances 34 = .ok (.aload_n 0, 1) := by decide +kernel
theorem dX6_advances_35 : decode cX6_advances 35 = .ok (.aload_n 0, 1) := by decide +kernel
theorem dX6_advances_36 : decode cX6_advances 36 = .ok (.getfield 85, 3) := by decide +kernel
theorem dX6_advances_39 : decode cX6_advances 39 = .ok (.invokevirtual 88, 3) := by decide +kernel
theorem dX6_advances_42 : decode cX6_advances 42 = .ok (.istore_n 1, 1) := by decide +kernel
theorem dX6_advances_43 : decode cX6_advances 43 = .ok (.iload_n 1, 1) := by decide +kernel
theorem dX6_advances_44 : decode cX6_advances 44 = .ok (.ifCond .ge 11, 3) := by decide +kernel
theorem dX6_advances_47 : decode cX6_advances 47 = .ok (.aload_n 0, 1) := by decide +kernel
theorem dX6_advances_48 : decode cX6_advances 48 = .ok (.iconst 0, 1) := by decide +kernel
theorem dX6_advances_49 : decode cX6_advances 49 = .ok (.putfield 95, 3) := by decide +kernel
theorem dX6_advances_52 : decode cX6_advances 52 = .ok (.goto 170, 3) := by decide +kernel
theorem dX6_advances_55 : decode cX6_advances 55 = .ok (.iload_n 1, 1) := by decide +kernel
theorem dX6_advances_56 : decode cX6_advances 56 = .ok (.bipush 48, 2) := by decide +kernel
theorem dX6_advances_58 : decode cX6_advances 58 = .ok (.bipush 57, 2) := by decide +kernel
theorem dX6_advances_60 : decode cX6_advances 60 = .ok (.invokestatic 78, 3) := by decide +kernel
theorem dX6_advances_63 : decode cX6_advances 63 = .ok (.ifCond .eq 118, 3) := by decide +kernel
theorem dX6_advances_66 : decode cX6_advances 66 = .ok (.aload_n 0, 1) := by decide +kernel
theorem dX6_advances_67 : decode cX6_advances 67 = .ok (.iconst 0, 1) := by decide +kernel
theorem dX6_advances_68 : decode cX6_advances 68 = .ok (.putfield 98, 3) := by decide +kernel
theorem dX6_advances_71 : decode cX6_advances 71 = .ok (.aload_n 0, 1) := by decide +kernel
theorem dX6_advances_72 : decode cX6_advances 72 = .ok (.aload_n 0, 1) := by decide +kernel
theorem dX6_advances_73 : decode cX6_advances 73 = .ok (.getfield 85, 3) := by decide +kernel
theorem dX6_advances_76 : decode cX6_advances 76 = .ok (.invokevirtual 88, 3) := by decide +kernel
theorem dX6_advances_79 : decode cX6_advances 79 = .ok (.bipush 48, 2) := by decide +kernel
theorem dX6_advances_81 : decode cX6_advances 81 = .ok (.bipush 57, 2) := by decide +kernel
theorem dX6_advances_83 : decode cX6_advances 83 = .ok (.invokestatic 78, 3) := by decide +kernel
theorem dX6_advances_86 : decode cX6_advances 86 = .ok (.ifCond .eq 55, 3) := by decide +kernel
theorem dX6_advances_89 : decode cX6_advances 89 = .ok (.aload_n 0, 1) := by decide +kernel
theorem dX6_advances_90 : decode cX6_advances 90 = .ok (.aload_n 0, 1) := by decide +kernel
theorem dX6_advances_91 : decode cX6_advances 91 = .ok (.getfield 98, 3) := by decide +kernel
theorem dX6_advances_94 : decode cX6_advances 94 = .ok (.bipush 99, 2) := by decide +kernel
theorem dX6_advances_96 : decode cX6_advances 96 = .ok (.if_icmp .le 10, 3) := by decide +kernel
theorem dX6_advances_99 : decode cX6_advances 99 = .ok (.aload_n 0, 1) := by decide +kernel
theorem dX6_advances_100 : decode cX6_advances 100 = .ok (.getfield 98, 3) := by decide +kernel
theorem dX6_advances_103 : decode cX6_advances 103 = .ok (.goto 22, 3) := by decide +kernel
theorem dX6_advances_106 : decode cX6_advances 106 = .ok (.bipush 10, 2) := by decide +kernel
theorem dX6_advances_108 : decode cX6_advances 108 = .ok (.aload_n 0, 1) := by decide +kernel
theorem dX6_advances_109 : decode cX6_advances 109 = .ok (.getfield 98, 3) := by decide +kernel
theorem dX6_advances_112 : decode cX6_advances 112 = .ok (.imul, 1) := by decide +kernel
theorem dX6_advances_113 : decode cX6_advances 113 = .ok (.aload_n 0, 1) := by decide +kernel
theorem dX6_advances_114 : decode cX6_advances 114 = .ok (.aload_n 0, 1) := by decide +kernel
theorem dX6_advances_115 : decode cX6_advances 115 = .ok (.getfield 85, 3) := by decide +kernel
theorem dX6_advances_118 : decode cX6_advances 118 = .ok (.invokevirtual 88, 3) := by decide +kernel
theorem dX6_advances_121 : decode cX6_advances 121 = .ok (.iadd, 1) := by decide +kernel
theorem dX6_advances_122 : decode cX6_advances 122 = .ok (.bipush 48, 2) := by decide +kernel
theorem dX6_advances_124 : decode cX6_advances 124 = .ok (.isub, 1) := by decide +kernel
theorem dX6_advances_125 : decode cX6_advances 125 = .ok (.putfield 98, 3) := by decide +kernel
theorem dX6_advances_128 : decode cX6_advances 128 = .ok (.aload_n 0, 1) := by decide +kernel
theorem dX6_advances_129 : decode cX6_advances 129 = .ok (.dup, 1) := by decide +kernel
theorem dX6_advances_130 : decode cX6_advances 130 = .ok (.getfield 85, 3) := by decide +kernel
theorem dX6_advances_133 : decode cX6_advances 133 = .ok (.iconst 1, 1) := by decide +kernel
theorem dX6_advances_134 : decode cX6_advances 134 = .ok (.iadd, 1) := by decide +kernel
theorem dX6_advances_135 : decode cX6_advances 135 = .ok (.putfield 85, 3) := by decide +kernel
theorem dX6_advances_138 : decode cX6_advances 138 = .ok (.goto (-67), 3) := by decide +kernel
theorem dX6_advances_141 : decode cX6_advances 141 = .ok (.aload_n 0, 1) := by decide +kernel
theorem dX6_advances_142 : decode cX6_advances 142 = .ok (.aload_n 0, 1) := by decide +kernel
theorem dX6_advances_143 : decode cX6_advances 143 = .ok (.getfield 98, 3) := by decide +kernel
theorem dX6_advances_146 : decode cX6_advances 146 = .ok (.bipush 99, 2) := by decide +kernel
theorem dX6_advances_148 : decode cX6_advances 148 = .ok (.if_icmp .gt 22, 3) := by decide +kernel
theorem dX6_advances_151 : decode cX6_advances 151 = .ok (.iload_n 1, 1) := by decide +kernel
theorem dX6_advances_152 : decode cX6_advances 152 = .ok (.bipush 48, 2) := by decide +kernel
theorem dX6_advances_154 : decode cX6_advances 154 = .ok (.if_icmp .ne 20, 3) := by decide +kernel
theorem dX6_advances_157 : decode cX6_advances 157 = .ok (.aload_n 0, 1) := by decide +kernel
theorem dX6_advances_158 : decode cX6_advances 158 = .ok (.getfield 85, 3) := by decide +kernel
theorem dX6_advances_161 : decode cX6_advances 161 = .ok (.aload_n 0, 1) := by decide +kernel
theorem dX6_advances_162 : decode cX6_advances 162 = .ok (.getfield 92, 3) := by decide +kernel
theorem dX6_advances_165 : decode cX6_advances 165 = .ok (.isub, 1) := by decide +kernel
theorem dX6_advances_166 : decode cX6_advances 166 = .ok (.iconst 1, 1) := by decide +kernel
theorem dX6_advances_167 : decode cX6_advances 167 = .ok (.if_icmp .le 7, 3) := by decide +kernel
theorem dX6_advances_170 : decode cX6_advances 170 = .ok (.iconst 4, 1) := by decide +kernel
theorem dX6_advances_171 : decode cX6_advances 171 = .ok (.goto 4, 3) := by decide +kernel
theorem dX6_advances_174 : decode cX6_advances 174 = .ok (.iconst 2, 1) := by decide +kernel
theorem dX6_advances_175 : decode cX6_advances 175 = .ok (.putfield 95, 3) := by decide +kernel
theorem dX6_advances_178 : decode cX6_advances 178 = .ok (.goto 44, 3) := by decide +kernel
theorem dX6_advances_181 : decode cX6_advances 181 = .ok (.aload_n 0, 1) := by decide +kernel
theorem dX6_advances_182 : decode cX6_advances 182 = .ok (.dup, 1) := by decide +kernel
theorem dX6_advances_183 : decode cX6_advances 183 = .ok (.getfield 85, 3) := by decide +kernel
theorem dX6_advances_186 : decode cX6_advances 186 = .ok (.iconst 1, 1) := by decide +kernel
theorem dX6_advances_187 : decode cX6_advances 187 = .ok (.iadd, 1) := by decide +kernel
theorem dX6_advances_188 : decode cX6_advances 188 = .ok (.putfield 85, 3) := by decide +kernel
theorem dX6_advances_191 : decode cX6_advances 191 = .ok (.aload_n 0, 1) := by decide +kernel
theorem dX6_advances_192 : decode cX6_advances 192 = .ok (.iload_n 1, 1) := by decide +kernel
theorem dX6_advances_193 : decode cX6_advances 193 = .ok (.putfield 98, 3) := by decide +kernel
theorem dX6_advances_196 : decode cX6_advances 196 = .ok (.aload_n 0, 1) := by decide +kernel
theorem dX6_advances_197 : decode cX6_advances 197 = .ok (.iload_n 1, 1) := by decide +kernel
theorem dX6_advances_198 : decode cX6_advances 198 = .ok (.bipush 59, 2) := by decide +kernel
theorem dX6_advances_200 : decode cX6_advances 200 = .ok (.if_icmp .ne 7, 3) := by decide +kernel
theorem dX6_advances_203 : decode cX6_advances 203 = .ok (.iconst 3, 1) := by decide +kernel
theorem dX6_advances_204 : decode cX6_advances 204 = .ok (.goto 15, 3) := by decide +kernel
theorem dX6_advances_207 : decode cX6_advances 207 = .ok (.iload_n 1, 1) := by decide +kernel
theorem dX6_advances_208 : decode cX6_advances 208 = .ok (.invokestatic 101, 3) := by decide +kernel
theorem dX6_advances_211 : decode cX6_advances 211 = .ok (.ifCond .eq 7, 3) := by decide +kernel
theorem dX6_advances_214 : decode cX6_advances 214 = .ok (.iconst 1, 1) := by decide +kernel
theorem dX6_advances_215 : decode cX6_advances 215 = .ok (.goto 4, 3) := by decide +kernel
theorem dX6_advances_218 : decode cX6_advances 218 = .ok (.iconst 4, 1) := by decide +kernel
theorem dX6_advances_219 : decode cX6_advances 219 = .ok (.putfield 95, 3) := by decide +kernel
theorem dX6_advances_222 : decode cX6_advances 222 = .ok (.return_, 1) := by decide +kernel
theorem dX6_isWell_0 : decode cX6_isWell 0 = .ok (.aload_n 0, 1) := by decide +kernel
theorem dX6_isWell_1 : decode cX6_isWell 1 = .ok (.getfield 105, 3) := by decide +kernel
theorem dX6_isWell_4 : decode cX6_isWell 4 = .ok (.ifCond .ge 7, 3) := by decide +kernel
theorem dX6_isWell_7 : decode cX6_isWell 7 = .ok (.iconst 1, 1) := by decide +kernel
theorem dX6_isWell_8 : decode cX6_isWell 8 = .ok (.goto 4, 3) := by decide +kernel
theorem dX6_isWell_11 : decode cX6_isWell 11 = .ok (.iconst 0, 1) := by decide +kernel
theorem dX6_isWell_12 : decode cX6_isWell 12 = .ok (.ireturn, 1) := by decide +kernel
theorem dX6_takes_0 : decode cX6_takes 0 = .ok (.aload_n 0, 1) := by decide +kernel
theorem dX6_takes_1 : decode cX6_takes 1 = .ok (.invokevirtual 108, 3) := by decide +kernel
theorem dX6_takes_4 : decode cX6_takes 4 = .ok (.ifCond .ne 5, 3) := by decide +kernel
theorem dX6_takes_7 : decode cX6_takes 7 = .ok (.iconst 0, 1) := by decide +kernel
theorem dX6_takes_8 : decode cX6_takes 8 = .ok (.ireturn, 1) := by decide +kernel
theorem dX6_takes_9 : decode cX6_takes 9 = .ok (.iload_n 1, 1) := by decide +kernel
theorem dX6_takes_10 : decode cX6_takes 10 = .ok (.ifCond .ne 13, 3) := by decide +kernel
theorem dX6_takes_13 : decode cX6_takes 13 = .ok (.aload_n 0, 1) := by decide +kernel
theorem dX6_takes_14 : decode cX6_takes 14 = .ok (.aload_n 0, 1) := by decide +kernel
theorem dX6_takes_15 : decode cX6_takes 15 = .ok (.getfield 92, 3) := by decide +kernel
theorem dX6_takes_18 : decode cX6_takes 18 = .ok (.putfield 105, 3) := by decide +kernel
theorem dX6_takes_21 : decode cX6_takes 21 = .ok (.iconst 0, 1) := by decide +kernel
theorem dX6_takes_22 : decode cX6_takes 22 = .ok (.ireturn, 1) := by decide +kernel
theorem dX6_takes_23 : decode cX6_takes 23 = .ok (.aload_n 0, 1) := by decide +kernel
theorem dX6_takes_24 : decode cX6_takes 24 = .ok (.getfield 98, 3) := by decide +kernel
theorem dX6_takes_27 : decode cX6_takes 27 = .ok (.istore_n 2, 1) := by decide +kernel
theorem dX6_takes_28 : decode cX6_takes 28 = .ok (.aload_n 0, 1) := by decide +kernel
theorem dX6_takes_29 : decode cX6_takes 29 = .ok (.invokevirtual 112, 3) := by decide +kernel
theorem dX6_takes_32 : decode cX6_takes 32 = .ok (.iload_n 2, 1) := by decide +kernel
theorem dX6_takes_33 : decode cX6_takes 33 = .ok (.ireturn, 1) := by decide +kernel
theorem dX6_number_0 : decode cX6_number 0 = .ok (.aload_n 0, 1) := by decide +kernel
theorem dX6_number_1 : decode cX6_number 1 = .ok (.aload_n 0, 1) := by decide +kernel
theorem dX6_number_2 : decode cX6_number 2 = .ok (.getfield 95, 3) := by decide +kernel
theorem dX6_number_5 : decode cX6_number 5 = .ok (.iconst 2, 1) := by decide +kernel
theorem dX6_number_6 : decode cX6_number 6 = .ok (.if_icmp .ne 19, 3) := by decide +kernel
theorem dX6_number_9 : decode cX6_number 9 = .ok (.aload_n 0, 1) := by decide +kernel
theorem dX6_number_10 : decode cX6_number 10 = .ok (.getfield 98, 3) := by decide +kernel
theorem dX6_number_13 : decode cX6_number 13 = .ok (.iload_n 1, 1) := by decide +kernel
theorem dX6_number_14 : decode cX6_number 14 = .ok (.iload_n 2, 1) := by decide +kernel
theorem dX6_number_15 : decode cX6_number 15 = .ok (.invokestatic 78, 3) := by decide +kernel
theorem dX6_number_18 : decode cX6_number 18 = .ok (.ifCond .eq 7, 3) := by decide +kernel
theorem dX6_number_21 : decode cX6_number 21 = .ok (.iconst 1, 1) := by decide +kernel
theorem dX6_number_22 : decode cX6_number 22 = .ok (.goto 4, 3) := by decide +kernel
theorem dX6_number_25 : decode cX6_number 25 = .ok (.iconst 0, 1) := by decide +kernel
theorem dX6_number_26 : decode cX6_number 26 = .ok (.invokevirtual 115, 3) := by decide +kernel
theorem dX6_number_29 : decode cX6_number 29 = .ok (.ireturn, 1) := by decide +kernel
theorem dX6_begins_0 : decode cX6_begins 0 = .ok (.aload_n 0, 1) := by decide +kernel
theorem dX6_begins_1 : decode cX6_begins 1 = .ok (.iconst 0, 1) := by decide +kernel
theorem dX6_begins_2 : decode cX6_begins 2 = .ok (.putfield 119, 3) := by decide +kernel
theorem dX6_begins_5 : decode cX6_begins 5 = .ok (.aload_n 0, 1) := by decide +kernel
theorem dX6_begins_6 : decode cX6_begins 6 = .ok (.getfield 13, 3) := by decide +kernel
theorem dX6_begins_9 : decode cX6_begins 9 = .ok (.iconst 4, 1) := by decide +kernel
theorem dX6_begins_10 : decode cX6_begins 10 = .ok (.iconst 0, 1) := by decide +kernel
theorem dX6_begins_11 : decode cX6_begins 11 = .ok (.iastore, 1) := by decide +kernel
theorem dX6_begins_12 : decode cX6_begins 12 = .ok (.aload_n 0, 1) := by decide +kernel
theorem dX6_begins_13 : decode cX6_begins 13 = .ok (.getfield 13, 3) := by decide +kernel
theorem dX6_begins_16 : decode cX6_begins 16 = .ok (.iconst 5, 1) := by decide +kernel
theorem dX6_begins_17 : decode cX6_begins 17 = .ok (.iconst 0, 1) := by decide +kernel
theorem dX6_begins_18 : decode cX6_begins 18 = .ok (.iastore, 1) := by decide +kernel
theorem dX6_begins_19 : decode cX6_begins 19 = .ok (.aload_n 0, 1) := by decide +kernel
theorem dX6_begins_20 : decode cX6_begins 20 = .ok (.getfield 13, 3) := by decide +kernel
theorem dX6_begins_23 : decode cX6_begins 23 = .ok (.bipush 6, 2) := by decide +kernel
theorem dX6_begins_25 : decode cX6_begins 25 = .ok (.bipush 10, 2) := by decide +kernel
theorem dX6_begins_27 : decode cX6_begins 27 = .ok (.iastore, 1) := by decide +kernel
theorem dX6_begins_28 : decode cX6_begins 28 = .ok (.aload_n 0, 1) := by decide +kernel
theorem dX6_begins_29 : decode cX6_begins 29 = .ok (.getfield 13, 3) := by decide +kernel
theorem dX6_begins_32 : decode cX6_begins 32 = .ok (.bipush 7, 2) := by decide +kernel
theorem dX6_begins_34 : decode cX6_begins 34 = .ok (.bipush 12, 2) := by decide +kernel
theorem dX6_begins_36 : decode cX6_begins 36 = .ok (.iastore, 1) := by decide +kernel
theorem dX6_begins_37 : decode cX6_begins 37 = .ok (.bipush 8, 2) := by decide +kernel
theorem dX6_begins_39 : decode cX6_begins 39 = .ok (.istore_n 1, 1) := by decide +kernel
theorem dX6_begins_40 : decode cX6_begins 40 = .ok (.iload_n 1, 1) := by decide +kernel
theorem dX6_begins_41 : decode cX6_begins 41 = .ok (.bipush 16, 2) := by decide +kernel
theorem dX6_begins_43 : decode cX6_begins 43 = .ok (.if_icmp .ge 16, 3) := by decide +kernel
theorem dX6_begins_46 : decode cX6_begins 46 = .ok (.aload_n 0, 1) := by decide +kernel
theorem dX6_begins_47 : decode cX6_begins 47 = .ok (.getfield 43, 3) := by decide +kernel
theorem dX6_begins_50 : decode cX6_begins 50 = .ok (.iload_n 1, 1) := by decide +kernel
theorem dX6_begins_51 : decode cX6_begins 51 = .ok (.iconst 0, 1) := by decide +kernel
theorem dX6_begins_52 : decode cX6_begins 52 = .ok (.iastore, 1) := by decide +kernel
theorem dX6_begins_53 : decode cX6_begins 53 = .ok (.iinc 1 1, 3) := by decide +kernel
theorem dX6_begins_56 : decode cX6_begins 56 = .ok (.goto (-16), 3) := by decide +kernel
theorem dX6_begins_59 : decode cX6_begins 59 = .ok (.return_, 1) := by decide +kernel
theorem dX6_mayBegin_0 : decode cX6_mayBegin 0 = .ok (.aload_n 0, 1) := by decide +kernel
theorem dX6_mayBegin_1 : decode cX6_mayBegin 1 = .ok (.getfield 98, 3) := by decide +kernel
theorem dX6_mayBegin_4 : decode cX6_mayBegin 4 = .ok (.bipush 112, 2) := by decide +kernel
theorem dX6_mayBegin_6 : decode cX6_mayBegin 6 = .ok (.if_icmp .eq 12, 3) := by decide +kernel
theorem dX6_mayBegin_9 : decode cX6_mayBegin 9 = .ok (.aload_n 0, 1) := by decide +kernel
theorem dX6_mayBegin_10 : decode cX6_mayBegin 10 = .ok (.getfield 98, 3) := by decide +kernel
theorem dX6_mayBegin_13 : decode cX6_mayBegin 13 = .ok (.bipush 109, 2) := by decide +kernel
theorem dX6_mayBegin_15 : decode cX6_mayBegin 15 = .ok (.if_icmp .ne 48, 3) := by decide +kernel
theorem dX6_mayBegin_18 : decode cX6_mayBegin 18 = .ok (.aload_n 0, 1) := by decide +kernel
theorem dX6_mayBegin_19 : decode cX6_mayBegin 19 = .ok (.getfield 98, 3) := by decide +kernel
theorem dX6_mayBegin_22 : decode cX6_mayBegin 22 = .ok (.bipush 112, 2) := by decide +kernel
theorem dX6_mayBegin_24 : decode cX6_mayBegin 24 = .ok (.if_icmp .ne 22, 3) := by decide +kernel
theorem dX6_mayBegin_27 : decode cX6_mayBegin 27 = .ok (.aload_n 0, 1) := by decide +kernel
theorem dX6_mayBegin_28 : decode cX6_mayBegin 28 = .ok (.getfield 13, 3) := by decide +kernel
theorem dX6_mayBegin_31 : decode cX6_mayBegin 31 = .ok (.iconst 4, 1) := by decide +kernel
theorem dX6_mayBegin_32 : decode cX6_mayBegin 32 = .ok (.iaload, 1) := by decide +kernel
theorem dX6_mayBegin_33 : decode cX6_mayBegin 33 = .ok (.bipush 6, 2) := by decide +kernel
theorem dX6_mayBegin_35 : decode cX6_mayBegin 35 = .ok (.if_icmp .ge 7, 3) := by decide +kernel
theorem dX6_mayBegin_38 : decode cX6_mayBegin 38 = .ok (.iconst 1, 1) := by decide +kernel
theorem dX6_mayBegin_39 : decode cX6_mayBegin 39 = .ok (.goto 23, 3) := by decide +kernel
theorem dX6_mayBegin_42 : decode cX6_mayBegin 42 = .ok (.iconst 0, 1) := by decide +kernel
theorem dX6_mayBegin_43 : decode cX6_mayBegin 43 = .ok (.goto 19, 3) := by decide +kernel
theorem dX6_mayBegin_46 : decode cX6_mayBegin 46 = .ok (.aload_n 0, 1) := by decide +kernel
theorem dX6_mayBegin_47 : decode cX6_mayBegin 47 = .ok (.getfield 13, 3) := by decide +kernel
theorem dX6_mayBegin_50 : decode cX6_mayBegin 50 = .ok (.iconst 5, 1) := by decide +kernel
theorem dX6_mayBegin_51 : decode cX6_mayBegin 51 = .ok (.iaload, 1) := by decide +kernel
theorem dX6_mayBegin_52 : decode cX6_mayBegin 52 = .ok (.bipush 8, 2) := by decide +kernel
theorem dX6_mayBegin_54 : decode cX6_mayBegin 54 = .ok (.if_icmp .ge 7, 3) := by decide +kernel
theorem dX6_mayBegin_57 : decode cX6_mayBegin 57 = .ok (.iconst 1, 1) := by decide +kernel
theorem dX6_mayBegin_58 : decode cX6_mayBegin 58 = .ok (.goto 4, 3) := by decide +kernel
theorem dX6_mayBegin_61 : decode cX6_mayBegin 61 = .ok (.iconst 0, 1) := by decide +kernel
theorem dX6_mayBegin_62 : decode cX6_mayBegin 62 = .ok (.ireturn, 1) := by decide +kernel
theorem dX6_mayBegin_63 : decode cX6_mayBegin 63 = .ok (.aload_n 0, 1) := by decide +kernel
theorem dX6_mayBegin_64 : decode cX6_mayBegin 64 = .ok (.getfield 98, 3) := by decide +kernel
theorem dX6_mayBegin_67 : decode cX6_mayBegin 67 = .ok (.bipush 120, 2) := by decide +kernel
theorem dX6_mayBegin_69 : decode cX6_mayBegin 69 = .ok (.if_icmp .eq 25, 3) := by decide +kernel
theorem dX6_mayBegin_72 : decode cX6_mayBegin 72 = .ok (.aload_n 0, 1) := by decide +kernel
theorem dX6_mayBegin_73 : decode cX6_mayBegin 73 = .ok (.getfield 119, 3) := by decide +kernel
theorem dX6_mayBegin_76 : decode cX6_mayBegin 76 = .ok (.aload_n 0, 1) := by decide +kernel
theorem dX6_mayBegin_77 : decode cX6_mayBegin 77 = .ok (.getfield 98, 3) := by decide +kernel
theorem dX6_mayBegin_80 : decode cX6_mayBegin 80 = .ok (.bipush 97, 2) := by decide +kernel
theorem dX6_mayBegin_82 : decode cX6_mayBegin 82 = .ok (.if_icmp .ne 7, 3) := by decide +kernel
theorem dX6_mayBegin_85 : decode cX6_mayBegin 85 = .ok (.iconst 1, 1) := by decide +kernel
theorem dX6_mayBegin_86 : decode cX6_mayBegin 86 = .ok (.goto 4, 3) := by decide +kernel
theorem dX6_mayBegin_89 : decode cX6_mayBegin 89 = .ok (.iconst 2, 1) := by decide +kernel
theorem dX6_mayBegin_90 : decode cX6_mayBegin 90 = .ok (.iand, 1) := by decide +kernel
theorem dX6_mayBegin_91 : decode cX6_mayBegin 91 = .ok (.ifCond .ne 7, 3) := by decide +kernel
theorem dX6_mayBegin_94 : decode cX6_mayBegin 94 = .ok (.iconst 1, 1) := by decide +kernel
theorem dX6_mayBegin_95 : decode cX6_mayBegin 95 = .ok (.goto 4, 3) := by decide +kernel
theorem dX6_mayBegin_98 : decode cX6_mayBegin 98 = .ok (.iconst 0, 1) := by decide +kernel
theorem dX6_mayBegin_99 : decode cX6_mayBegin 99 = .ok (.ireturn, 1) := by decide +kernel
theorem dX6_readsPromise_0 : decode cX6_readsPromise 0 = .ok (.bipush 8, 2) := by decide +kernel
theorem dX6_readsPromise_2 : decode cX6_readsPromise 2 = .ok (.aload_n 0, 1) := by decide +kernel
theorem dX6_readsPromise_3 : decode cX6_readsPromise 3 = .ok (.getfield 13, 3) := by decide +kernel
theorem dX6_readsPromise_6 : decode cX6_readsPromise 6 = .ok (.iconst 5, 1) := by decide +kernel
theorem dX6_readsPromise_7 : decode cX6_readsPromise 7 = .ok (.iaload, 1) := by decide +kernel
theorem dX6_readsPromise_8 : decode cX6_readsPromise 8 = .ok (.iadd, 1) := by decide +kernel
theorem dX6_readsPromise_9 : decode cX6_readsPromise 9 = .ok (.istore_n 1, 1) := by decide +kernel
theorem dX6_readsPromise_10 : decode cX6_readsPromise 10 = .ok (.aload_n 0, 1) := by decide +kernel
theorem dX6_readsPromise_11 : decode cX6_readsPromise 11 = .ok (.getfield 22, 3) := by decide +kernel
theorem dX6_readsPromise_14 : decode cX6_readsPromise 14 = .ok (.iload_n 1, 1) := by decide +kernel
theorem dX6_readsPromise_15 : decode cX6_readsPromise 15 = .ok (.aload_n 0, 1) := by decide +kernel
theorem dX6_readsPromise_16 : decode cX6_readsPromise 16 = .ok (.iconst 0, 1) := by decide +kernel
theorem dX6_readsPromise_17 : decode cX6_readsPromise 17 = .ok (.aload_n 0, 1) := by decide +kernel
theorem dX6_readsPromise_18 : decode cX6_readsPromise 18 = .ok (.getfield 13, 3) := by decide +kernel
theorem dX6_readsPromise_21 : decode cX6_readsPromise 21 = .ok (.iconst 4, 1) := by decide +kernel
theorem dX6_readsPromise_22 : decode cX6_readsPromise 22 = .ok (.iaload, 1) := by decide +kernel
theorem dX6_readsPromise_23 : decode cX6_readsPromise 23 = .ok (.iconst 1, 1) := by decide +kernel
theorem dX6_readsPromise_24 : decode cX6_readsPromise 24 = .ok (.isub, 1) := by decide +kernel
theorem dX6_readsPromise_25 : decode cX6_readsPromise 25 = .ok (.invokevirtual 122, 3) := by decide +kernel
theorem dX6_readsPromise_28 : decode cX6_readsPromise 28 = .ok (.iastore, 1) := by decide +kernel
theorem dX6_readsPromise_29 : decode cX6_readsPromise 29 = .ok (.aload_n 0, 1) := by decide +kernel
theorem dX6_readsPromise_30 : decode cX6_readsPromise 30 = .ok (.getfield 25, 3) := by decide +kernel
theorem dX6_readsPromise_33 : decode cX6_readsPromise 33 = .ok (.iload_n 1, 1) := by decide +kernel
theorem dX6_readsPromise_34 : decode cX6_readsPromise 34 = .ok (.aload_n 0, 1) := by decide +kernel
theorem dX6_readsPromise_35 : decode cX6_readsPromise 35 = .ok (.iconst 0, 1) := by decide +kernel
theorem dX6_readsPromise_36 : decode cX6_readsPromise 36 = .ok (.iconst 5, 1) := by decide +kernel
theorem dX6_readsPromise_37 : decode cX6_readsPromise 37 = .ok (.invokevirtual 122, 3) := by decide +kernel
theorem dX6_readsPromise_40 : decode cX6_readsPromise 40 = .ok (.iastore, 1) := by decide +kernel
theorem dX6_readsPromise_41 : decode cX6_readsPromise 41 = .ok (.aload_n 0, 1) := by decide +kernel
theorem dX6_readsPromise_42 : decode cX6_readsPromise 42 = .ok (.getfield 28, 3) := by decide +kernel
theorem dX6_readsPromise_45 : decode cX6_readsPromise 45 = .ok (.iload_n 1, 1) := by decide +kernel
theorem dX6_readsPromise_46 : decode cX6_readsPromise 46 = .ok (.aload_n 0, 1) := by decide +kernel
theorem dX6_readsPromise_47 : decode cX6_readsPromise 47 = .ok (.iconst 0, 1) := by decide +kernel
theorem dX6_readsPromise_48 : decode cX6_readsPromise 48 = .ok (.iconst 5, 1) := by decide +kernel
theorem dX6_readsPromise_49 : decode cX6_readsPromise 49 = .ok (.invokevirtual 122, 3) := by decide +kernel
theorem dX6_readsPromise_52 : decode cX6_readsPromise 52 = .ok (.iastore, 1) := by decide +kernel
theorem dX6_readsPromise_53 : decode cX6_readsPromise 53 = .ok (.aload_n 0, 1) := by decide +kernel
theorem dX6_readsPromise_54 : decode cX6_readsPromise 54 = .ok (.getfield 31, 3) := by decide +kernel
theorem dX6_readsPromise_57 : decode cX6_readsPromise 57 = .ok (.iload_n 1, 1) := by decide +kernel
theorem dX6_readsPromise_58 : decode cX6_readsPromise 58 = .ok (.aload_n 0, 1) := by decide +kernel
theorem dX6_readsPromise_59 : decode cX6_readsPromise 59 = .ok (.iconst 1, 1) := by decide +kernel
theorem dX6_readsPromise_60 : decode cX6_readsPromise 60 = .ok (.bipush 9, 2) := by decide +kernel
theorem dX6_readsPromise_62 : decode cX6_readsPromise 62 = .ok (.invokevirtual 122, 3) := by decide +kernel
theorem dX6_readsPromise_65 : decode cX6_readsPromise 65 = .ok (.iastore, 1) := by decide +kernel
theorem dX6_readsPromise_66 : decode cX6_readsPromise 66 = .ok (.aload_n 0, 1) := by decide +kernel
theorem dX6_readsPromise_67 : decode cX6_readsPromise 67 = .ok (.getfield 34, 3) := by decide +kernel
theorem dX6_readsPromise_70 : decode cX6_readsPromise 70 = .ok (.iload_n 1, 1) := by decide +kernel
theorem dX6_readsPromise_71 : decode cX6_readsPromise 71 = .ok (.aload_n 0, 1) := by decide +kernel
theorem dX6_readsPromise_72 : decode cX6_readsPromise 72 = .ok (.iconst 0, 1) := by decide +kernel
theorem dX6_readsPromise_73 : decode cX6_readsPromise 73 = .ok (.bipush 99, 2) := by decide +kernel
theorem dX6_readsPromise_75 : decode cX6_readsPromise 75 = .ok (.invokevirtual 122, 3) := by decide +kernel
theorem dX6_readsPromise_78 : decode cX6_readsPromise 78 = .ok (.iastore, 1) := by decide +kernel
theorem dX6_readsPromise_79 : decode cX6_readsPromise 79 = .ok (.iconst 0, 1) := by decide +kernel
theorem dX6_readsPromise_80 : decode cX6_readsPromise 80 = .ok (.istore_n 2, 1) := by decide +kernel
theorem dX6_readsPromise_81 : decode cX6_readsPromise 81 = .ok (.aload_n 0, 1) := by decide +kernel
theorem dX6_readsPromise_82 : decode cX6_readsPromise 82 = .ok (.invokevirtual 108, 3) := by decide +kernel
theorem dX6_readsPromise_85 : decode cX6_readsPromise 85 = .ok (.ifCond .eq 75, 3) := by decide +kernel
theorem dX6_readsPromise_88 : decode cX6_readsPromise 88 = .ok (.iload_n 2, 1) := by decide +kernel
theorem dX6_readsPromise_89 : decode cX6_readsPromise 89 = .ok (.ifCond .eq 11, 3) := by decide +kernel
theorem dX6_readsPromise_92 : decode cX6_readsPromise 92 = .ok (.aload_n 0, 1) := by decide +kernel
theorem dX6_readsPromise_93 : decode cX6_readsPromise 93 = .ok (.getfield 95, 3) := by decide +kernel
theorem dX6_readsPromise_96 : decode cX6_readsPromise 96 = .ok (.iconst 3, 1) := by decide +kernel
theorem dX6_readsPromise_97 : decode cX6_readsPromise 97 = .ok (.if_icmp .eq 63, 3) := by decide +kernel
theorem dX6_readsPromise_100 : decode cX6_readsPromise 100 = .ok (.aload_n 0, 1) := by decide +kernel
theorem dX6_readsPromise_101 : decode cX6_readsPromise 101 = .ok (.iload_n 2, 1) := by decide +kernel
theorem dX6_readsPromise_102 : decode cX6_readsPromise 102 = .ok (.iconst 4, 1) := by decide +kernel
theorem dX6_readsPromise_103 : decode cX6_readsPromise 103 = .ok (.if_icmp .ge 28, 3) := by decide +kernel
theorem dX6_readsPromise_106 : decode cX6_readsPromise 106 = .ok (.aload_n 0, 1) := by decide +kernel
theorem dX6_readsPromise_107 : decode cX6_readsPromise 107 = .ok (.getfield 95, 3) := by decide +kernel
theorem dX6_readsPromise_110 : decode cX6_readsPromise 110 = .ok (.iconst 2, 1) := by decide +kernel
theorem dX6_readsPromise_111 : decode cX6_readsPromise 111 = .ok (.if_icmp .ne 20, 3) := by decide +kernel
theorem dX6_readsPromise_114 : decode cX6_readsPromise 114 = .ok (.aload_n 0, 1) := by decide +kernel
theorem dX6_readsPromise_115 : decode cX6_readsPromise 115 = .ok (.getfield 98, 3) := by decide +kernel
theorem dX6_readsPromise_118 : decode cX6_readsPromise 118 = .ok (.iconst 0, 1) := by decide +kernel
theorem dX6_readsPromise_119 : decode cX6_readsPromise 119 = .ok (.bipush 9, 2) := by decide +kernel
theorem dX6_readsPromise_121 : decode cX6_readsPromise 121 = .ok (.invokestatic 78, 3) := by decide +kernel
theorem dX6_readsPromise_124 : decode cX6_readsPromise 124 = .ok (.ifCond .eq 7, 3) := by decide +kernel
theorem dX6_readsPromise_127 : decode cX6_readsPromise 127 = .ok (.iconst 1, 1) := by decide +kernel
theorem dX6_readsPromise_128 : decode cX6_readsPromise 128 = .ok (.goto 4, 3) := by decide +kernel
theorem dX6_readsPromise_131 : decode cX6_readsPromise 131 = .ok (.iconst 0, 1) := by decide +kernel
theorem dX6_readsPromise_132 : decode cX6_readsPromise 132 = .ok (.invokevirtual 115, 3) := by decide +kernel
theorem dX6_readsPromise_135 : decode cX6_readsPromise 135 = .ok (.istore_n 3, 1) := by decide +kernel
theorem dX6_readsPromise_136 : decode cX6_readsPromise 136 = .ok (.aload_n 0, 1) := by decide +kernel
theorem dX6_readsPromise_137 : decode cX6_readsPromise 137 = .ok (.invokevirtual 108, 3) := by decide +kernel
theorem dX6_readsPromise_140 : decode cX6_readsPromise 140 = .ok (.ifCond .eq 17, 3) := by decide +kernel
theorem dX6_readsPromise_143 : decode cX6_readsPromise 143 = .ok (.aload_n 0, 1) := by decide +kernel
theorem dX6_readsPromise_144 : decode cX6_readsPromise 144 = .ok (.getfield 40, 3) := by decide +kernel
theorem dX6_readsPromise_147 : decode cX6_readsPromise 147 = .ok (.iconst 4, 1) := by decide +kernel
theorem dX6_readsPromise_148 : decode cX6_readsPromise 148 = .ok (.iload_n 1, 1) := by decide +kernel
theorem dX6_readsPromise_149 : decode cX6_readsPromise 149 = .ok (.imul, 1) := by decide +kernel
theorem dX6_readsPromise_150 : decode cX6_readsPromise 150 = .ok (.iload_n 2, 1) := by decide +kernel
theorem dX6_readsPromise_151 : decode cX6_readsPromise 151 = .ok (.iadd, 1) := by decide +kernel
theorem dX6_readsPromise_152 : decode cX6_readsPromise 152 = .ok (.iload_n 3, 1) := by decide +kernel
theorem dX6_readsPromise_153 : decode cX6_readsPromise 153 = .ok (.iastore, 1) := by decide +kernel
theorem dX6_readsPromise_154 : decode cX6_readsPromise 154 = .ok (.iinc 2 1, 3) := by decide +kernel
theorem dX6_readsPromise_157 : decode cX6_readsPromise 157 = .ok (.goto (-76), 3) := by decide +kernel
theorem dX6_readsPromise_160 : decode cX6_readsPromise 160 = .ok (.aload_n 0, 1) := by decide +kernel
theorem dX6_readsPromise_161 : decode cX6_readsPromise 161 = .ok (.getfield 37, 3) := by decide +kernel
theorem dX6_readsPromise_164 : decode cX6_readsPromise 164 = .ok (.iload_n 1, 1) := by decide +kernel
theorem dX6_readsPromise_165 : decode cX6_readsPromise 165 = .ok (.iload_n 2, 1) := by decide +kernel
theorem dX6_readsPromise_166 : decode cX6_readsPromise 166 = .ok (.iastore, 1) := by decide +kernel
theorem dX6_readsPromise_167 : decode cX6_readsPromise 167 = .ok (.aload_n 0, 1) := by decide +kernel
theorem dX6_readsPromise_168 : decode cX6_readsPromise 168 = .ok (.getfield 13, 3) := by decide +kernel
theorem dX6_readsPromise_171 : decode cX6_readsPromise 171 = .ok (.iconst 5, 1) := by decide +kernel
theorem dX6_readsPromise_172 : decode cX6_readsPromise 172 = .ok (.dup2, 1) := by decide +kernel
theorem dX6_readsPromise_173 : decode cX6_readsPromise 173 = .ok (.iaload, 1) := by decide +kernel
theorem dX6_readsPromise_174 : decode cX6_readsPromise 174 = .ok (.iconst 1, 1) := by decide +kernel
theorem dX6_readsPromise_175 : decode cX6_readsPromise 175 = .ok (.iadd, 1) := by decide +kernel
theorem dX6_readsPromise_176 : decode cX6_readsPromise 176 = .ok (.iastore, 1) := by decide +kernel
theorem dX6_readsPromise_177 : decode cX6_readsPromise 177 = .ok (.return_, 1) := by decide +kernel
theorem dX6_readsClash_0 : decode cX6_readsClash 0 = .ok (.aload_n 0, 1) := by decide +kernel
theorem dX6_readsClash_1 : decode cX6_readsClash 1 = .ok (.getfield 13, 3) := by decide +kernel
theorem dX6_readsClash_4 : decode cX6_readsClash 4 = .ok (.iconst 5, 1) := by decide +kernel
theorem dX6_readsClash_5 : decode cX6_readsClash 5 = .ok (.iaload, 1) := by decide +kernel
theorem dX6_readsClash_6 : decode cX6_readsClash 6 = .ok (.iconst 1, 1) := by decide +kernel
theorem dX6_readsClash_7 : decode cX6_readsClash 7 = .ok (.isub, 1) := by decide +kernel
theorem dX6_readsClash_8 : decode cX6_readsClash 8 = .ok (.istore_n 1, 1) := by decide +kernel
theorem dX6_readsClash_9 : decode cX6_readsClash 9 = .ok (.aload_n 0, 1) := by decide +kernel
theorem dX6_readsClash_10 : decode cX6_readsClash 10 = .ok (.iconst 0, 1) := by decide +kernel
theorem dX6_readsClash_11 : decode cX6_readsClash 11 = .ok (.iload_n 1, 1) := by decide +kernel
theorem dX6_readsClash_12 : decode cX6_readsClash 12 = .ok (.invokevirtual 122, 3) := by decide +kernel
theorem dX6_readsClash_15 : decode cX6_readsClash 15 = .ok (.istore_n 2, 1) := by decide +kernel
theorem dX6_readsClash_16 : decode cX6_readsClash 16 = .ok (.aload_n 0, 1) := by decide +kernel
theorem dX6_readsClash_17 : decode cX6_readsClash 17 = .ok (.aload_n 0, 1) := by decide +kernel
theorem dX6_readsClash_18 : decode cX6_readsClash 18 = .ok (.getfield 95, 3) := by decide +kernel
theorem dX6_readsClash_21 : decode cX6_readsClash 21 = .ok (.iconst 2, 1) := by decide +kernel
theorem dX6_readsClash_22 : decode cX6_readsClash 22 = .ok (.if_icmp .ne 27, 3) := by decide +kernel
theorem dX6_readsClash_25 : decode cX6_readsClash 25 = .ok (.aload_n 0, 1) := by decide +kernel
theorem dX6_readsClash_26 : decode cX6_readsClash 26 = .ok (.getfield 98, 3) := by decide +kernel
theorem dX6_readsClash_29 : decode cX6_readsClash 29 = .ok (.iconst 0, 1) := by decide +kernel
theorem dX6_readsClash_30 : decode cX6_readsClash 30 = .ok (.iload_n 1, 1) := by decide +kernel
theorem dX6_readsClash_31 : decode cX6_readsClash 31 = .ok (.invokestatic 78, 3) := by decide +kernel
theorem dX6_readsClash_34 : decode cX6_readsClash 34 = .ok (.ifCond .eq 15, 3) := by decide +kernel
theorem dX6_readsClash_37 : decode cX6_readsClash 37 = .ok (.aload_n 0, 1) := by decide +kernel
theorem dX6_readsClash_38 : decode cX6_readsClash 38 = .ok (.getfield 98, 3) := by decide +kernel
theorem dX6_readsClash_41 : decode cX6_readsClash 41 = .ok (.iload_n 2, 1) := by decide +kernel
theorem dX6_readsClash_42 : decode cX6_readsClash 42 = .ok (.if_icmp .eq 7, 3) := by decide +kernel
theorem dX6_readsClash_45 : decode cX6_readsClash 45 = .ok (.iconst 1, 1) := by decide +kernel
theorem dX6_readsClash_46 : decode cX6_readsClash 46 = .ok (.goto 4, 3) := by decide +kernel
theorem dX6_readsClash_49 : decode cX6_readsClash 49 = .ok (.iconst 0, 1) := by decide +kernel
theorem dX6_readsClash_50 : decode cX6_readsClash 50 = .ok (.invokevirtual 115, 3) := by decide +kernel
theorem dX6_readsClash_53 : decode cX6_readsClash 53 = .ok (.istore_n 3, 1) := by decide +kernel
theorem dX6_readsClash_54 : decode cX6_readsClash 54 = .ok (.aload_n 0, 1) := by decide +kernel
theorem dX6_readsClash_55 : decode cX6_readsClash 55 = .ok (.invokevirtual 108, 3) := by decide +kernel
theorem dX6_readsClash_58 : decode cX6_readsClash 58 = .ok (.ifCond .eq 33, 3) := by decide +kernel
theorem dX6_readsClash_61 : decode cX6_readsClash 61 = .ok (.aload_n 0, 1) := by decide +kernel
theorem dX6_readsClash_62 : decode cX6_readsClash 62 = .ok (.getfield 43, 3) := by decide +kernel
theorem dX6_readsClash_65 : decode cX6_readsClash 65 = .ok (.bipush 8, 2) := by decide +kernel
theorem dX6_readsClash_67 : decode cX6_readsClash 67 = .ok (.iload_n 2, 1) := by decide +kernel
theorem dX6_readsClash_68 : decode cX6_readsClash 68 = .ok (.iadd, 1) := by decide +kernel
theorem dX6_readsClash_69 : decode cX6_readsClash 69 = .ok (.dup2, 1) := by decide +kernel
theorem dX6_readsClash_70 : decode cX6_readsClash 70 = .ok (.iaload, 1) := by decide +kernel
theorem dX6_readsClash_71 : decode cX6_readsClash 71 = .ok (.iconst 1, 1) := by decide +kernel
theorem dX6_readsClash_72 : decode cX6_readsClash 72 = .ok (.iload_n 3, 1) := by decide +kernel
theorem dX6_readsClash_73 : decode cX6_readsClash 73 = .ok (.ishl, 1) := by decide +kernel
theorem dX6_readsClash_74 : decode cX6_readsClash 74 = .ok (.ior, 1) := by decide +kernel
theorem dX6_readsClash_75 : decode cX6_readsClash 75 = .ok (.iastore, 1) := by decide +kernel
theorem dX6_readsClash_76 : decode cX6_readsClash 76 = .ok (.aload_n 0, 1) := by decide +kernel
theorem dX6_readsClash_77 : decode cX6_readsClash 77 = .ok (.getfield 43, 3) := by decide +kernel
theorem dX6_readsClash_80 : decode cX6_readsClash 80 = .ok (.bipush 8, 2) := by decide +kernel
theorem dX6_readsClash_82 : decode cX6_readsClash 82 = .ok (.iload_n 3, 1) := by decide +kernel
theorem dX6_readsClash_83 : decode cX6_readsClash 83 = .ok (.iadd, 1) := by decide +kernel
theorem dX6_readsClash_84 : decode cX6_readsClash 84 = .ok (.dup2, 1) := by decide +kernel
theorem dX6_readsClash_85 : decode cX6_readsClash 85 = .ok (.iaload, 1) := by decide +kernel
theorem dX6_readsClash_86 : decode cX6_readsClash 86 = .ok (.iconst 1, 1) := by decide +kernel
theorem dX6_readsClash_87 : decode cX6_readsClash 87 = .ok (.iload_n 2, 1) := by decide +kernel
theorem dX6_readsClash_88 : decode cX6_readsClash 88 = .ok (.ishl, 1) := by decide +kernel
theorem dX6_readsClash_89 : decode cX6_readsClash 89 = .ok (.ior, 1) := by decide +kernel
theorem dX6_readsClash_90 : decode cX6_readsClash 90 = .ok (.iastore, 1) := by decide +kernel
theorem dX6_readsClash_91 : decode cX6_readsClash 91 = .ok (.return_, 1) := by decide +kernel
theorem dX6_readsItem_0 : decode cX6_readsItem 0 = .ok (.iload_n 1, 1) := by decide +kernel
theorem dX6_readsItem_1 : decode cX6_readsItem 1 = .ok (.bipush 112, 2) := by decide +kernel
theorem dX6_readsItem_3 : decode cX6_readsItem 3 = .ok (.if_icmp .ne 101, 3) := by decide +kernel
theorem dX6_readsItem_6 : decode cX6_readsItem 6 = .ok (.aload_n 0, 1) := by decide +kernel
theorem dX6_readsItem_7 : decode cX6_readsItem 7 = .ok (.getfield 13, 3) := by decide +kernel
theorem dX6_readsItem_10 : decode cX6_readsItem 10 = .ok (.iconst 4, 1) := by decide +kernel
theorem dX6_readsItem_11 : decode cX6_readsItem 11 = .ok (.iaload, 1) := by decide +kernel
theorem dX6_readsItem_12 : decode cX6_readsItem 12 = .ok (.istore_n 2, 1) := by decide +kernel
theorem dX6_readsItem_13 : decode cX6_readsItem 13 = .ok (.aload_n 0, 1) := by decide +kernel
theorem dX6_readsItem_14 : decode cX6_readsItem 14 = .ok (.getfield 16, 3) := by decide +kernel
theorem dX6_readsItem_17 : decode cX6_readsItem 17 = .ok (.bipush 6, 2) := by decide +kernel
theorem dX6_readsItem_19 : decode cX6_readsItem 19 = .ok (.iload_n 2, 1) := by decide +kernel
theorem dX6_readsItem_20 : decode cX6_readsItem 20 = .ok (.iadd, 1) := by decide +kernel
theorem dX6_readsItem_21 : decode cX6_readsItem 21 = .ok (.aload_n 0, 1) := by decide +kernel
theorem dX6_readsItem_22 : decode cX6_readsItem 22 = .ok (.iconst 0, 1) := by decide +kernel
theorem dX6_readsItem_23 : decode cX6_readsItem 23 = .ok (.bipush 99, 2) := by decide +kernel
theorem dX6_readsItem_25 : decode cX6_readsItem 25 = .ok (.invokevirtual 122, 3) := by decide +kernel
theorem dX6_readsItem_28 : decode cX6_readsItem 28 = .ok (.iastore, 1) := by decide +kernel
theorem dX6_readsItem_29 : decode cX6_readsItem 29 = .ok (.aload_n 0, 1) := by decide +kernel
theorem dX6_readsItem_30 : decode cX6_readsItem 30 = .ok (.aload_n 0, 1) := by decide +kernel
theorem dX6_readsItem_31 : decode cX6_readsItem 31 = .ok (.getfield 95, 3) := by decide +kernel
theorem dX6_readsItem_34 : decode cX6_readsItem 34 = .ok (.iconst 2, 1) := by decide +kernel
theorem dX6_readsItem_35 : decode cX6_readsItem 35 = .ok (.if_icmp .ne 30, 3) := by decide +kernel
theorem dX6_readsItem_38 : decode cX6_readsItem 38 = .ok (.aload_n 0, 1) := by decide +kernel
theorem dX6_readsItem_39 : decode cX6_readsItem 39 = .ok (.getfield 98, 3) := by decide +kernel
theorem dX6_readsItem_42 : decode cX6_readsItem 42 = .ok (.iconst 0, 1) := by decide +kernel
theorem dX6_readsItem_43 : decode cX6_readsItem 43 = .ok (.iload_n 2, 1) := by decide +kernel
theorem dX6_readsItem_44 : decode cX6_readsItem 44 = .ok (.iconst 1, 1) := by decide +kernel
theorem dX6_readsItem_45 : decode cX6_readsItem 45 = .ok (.isub, 1) := by decide +kernel
theorem dX6_readsItem_46 : decode cX6_readsItem 46 = .ok (.invokestatic 78, 3) := by decide +kernel
theorem dX6_readsItem_49 : decode cX6_readsItem 49 = .ok (.ifCond .ne 12, 3) := by decide +kernel
theorem dX6_readsItem_52 : decode cX6_readsItem 52 = .ok (.aload_n 0, 1) := by decide +kernel
theorem dX6_readsItem_53 : decode cX6_readsItem 53 = .ok (.getfield 98, 3) := by decide +kernel
theorem dX6_readsItem_56 : decode cX6_readsItem 56 = .ok (.bipush 9, 2) := by decide +kernel
theorem dX6_readsItem_58 : decode cX6_readsItem 58 = .ok (.if_icmp .ne 7, 3) := by decide +kernel
theorem dX6_readsItem_61 : decode cX6_readsItem 61 = .ok (.iconst 1, 1) := by decide +kernel
theorem dX6_readsItem_62 : decode cX6_readsItem 62 = .ok (.goto 4, 3) := by decide +kernel
theorem dX6_readsItem_65 : decode cX6_readsItem 65 = .ok (.iconst 0, 1) := by decide +kernel
theorem dX6_readsItem_66 : decode cX6_readsItem 66 = .ok (.invokevirtual 115, 3) := by decide +kernel
theorem dX6_readsItem_69 : decode cX6_readsItem 69 = .ok (.istore_n 3, 1) := by decide +kernel
theorem dX6_readsItem_70 : decode cX6_readsItem 70 = .ok (.aload_n 0, 1) := by decide +kernel
theorem dX6_readsItem_71 : decode cX6_readsItem 71 = .ok (.getfield 19, 3) := by decide +kernel
theorem dX6_readsItem_74 : decode cX6_readsItem 74 = .ok (.bipush 6, 2) := by decide +kernel
theorem dX6_readsItem_76 : decode cX6_readsItem 76 = .ok (.iload_n 2, 1) := by decide +kernel
theorem dX6_readsItem_77 : decode cX6_readsItem 77 = .ok (.iadd, 1) := by decide +kernel
theorem dX6_readsItem_78 : decode cX6_readsItem 78 = .ok (.iload_n 3, 1) := by decide +kernel
theorem dX6_readsItem_79 : decode cX6_readsItem 79 = .ok (.bipush 9, 2) := by decide +kernel
theorem dX6_readsItem_81 : decode cX6_readsItem 81 = .ok (.if_icmp .ne 8, 3) := by decide +kernel
theorem dX6_readsItem_84 : decode cX6_readsItem 84 = .ok (.bipush (-9), 2) := by decide +kernel
theorem dX6_readsItem_86 : decode cX6_readsItem 86 = .ok (.goto 4, 3) := by decide +kernel
theorem dX6_readsItem_89 : decode cX6_readsItem 89 = .ok (.iload_n 3, 1) := by decide +kernel
theorem dX6_readsItem_90 : decode cX6_readsItem 90 = .ok (.iastore, 1) := by decide +kernel
theorem dX6_readsItem_91 : decode cX6_readsItem 91 = .ok (.aload_n 0, 1) := by decide +kernel
theorem dX6_readsItem_92 : decode cX6_readsItem 92 = .ok (.getfield 13, 3) := by decide +kernel
theorem dX6_readsItem_95 : decode cX6_readsItem 95 = .ok (.iconst 4, 1) := by decide +kernel
theorem dX6_readsItem_96 : decode cX6_readsItem 96 = .ok (.dup2, 1) := by decide +kernel
theorem dX6_readsItem_97 : decode cX6_readsItem 97 = .ok (.iaload, 1) := by decide +kernel
theorem dX6_readsItem_98 : decode cX6_readsItem 98 = .ok (.iconst 1, 1) := by decide +kernel
theorem dX6_readsItem_99 : decode cX6_readsItem 99 = .ok (.iadd, 1) := by decide +kernel
theorem dX6_readsItem_100 : decode cX6_readsItem 100 = .ok (.iastore, 1) := by decide +kernel
theorem dX6_readsItem_101 : decode cX6_readsItem 101 = .ok (.goto 87, 3) := by decide +kernel
theorem dX6_readsItem_104 : decode cX6_readsItem 104 = .ok (.iload_n 1, 1) := by decide +kernel
theorem dX6_readsItem_105 : decode cX6_readsItem 105 = .ok (.bipush 109, 2) := by decide +kernel
theorem dX6_readsItem_107 : decode cX6_readsItem 107 = .ok (.if_icmp .ne 10, 3) := by decide +kernel
theorem dX6_readsItem_110 : decode cX6_readsItem 110 = .ok (.aload_n 0, 1) := by decide +kernel
theorem dX6_readsItem_111 : decode cX6_readsItem 111 = .ok (.invokevirtual 126, 3) := by decide +kernel
theorem dX6_readsItem_114 : decode cX6_readsItem 114 = .ok (.goto 74, 3) := by decide +kernel
theorem dX6_readsItem_117 : decode cX6_readsItem 117 = .ok (.iload_n 1, 1) := by decide +kernel
theorem dX6_readsItem_118 : decode cX6_readsItem 118 = .ok (.bipush 120, 2) := by decide +kernel
theorem dX6_readsItem_120 : decode cX6_readsItem 120 = .ok (.if_icmp .ne 10, 3) := by decide +kernel
theorem dX6_readsItem_123 : decode cX6_readsItem 123 = .ok (.aload_n 0, 1) := by decide +kernel
theorem dX6_readsItem_124 : decode cX6_readsItem 124 = .ok (.invokevirtual 129, 3) := by decide +kernel
theorem dX6_readsItem_127 : decode cX6_readsItem 127 = .ok (.goto 61, 3) := by decide +kernel
theorem dX6_readsItem_130 : decode cX6_readsItem 130 = .ok (.iload_n 1, 1) := by decide +kernel
theorem dX6_readsItem_131 : decode cX6_readsItem 131 = .ok (.bipush 97, 2) := by decide +kernel
theorem dX6_readsItem_133 : decode cX6_readsItem 133 = .ok (.if_icmp .ne 7, 3) := by decide +kernel
theorem dX6_readsItem_136 : decode cX6_readsItem 136 = .ok (.iconst 2, 1) := by decide +kernel
theorem dX6_readsItem_137 : decode cX6_readsItem 137 = .ok (.goto 4, 3) := by decide +kernel
theorem dX6_readsItem_140 : decode cX6_readsItem 140 = .ok (.iconst 3, 1) := by decide +kernel
theorem dX6_readsItem_141 : decode cX6_readsItem 141 = .ok (.istore_n 2, 1) := by decide +kernel
theorem dX6_readsItem_142 : decode cX6_readsItem 142 = .ok (.aload_n 0, 1) := by decide +kernel
theorem dX6_readsItem_143 : decode cX6_readsItem 143 = .ok (.getfield 13, 3) := by decide +kernel
theorem dX6_readsItem_146 : decode cX6_readsItem 146 = .ok (.iconst 4, 1) := by decide +kernel
theorem dX6_readsItem_147 : decode cX6_readsItem 147 = .ok (.iload_n 2, 1) := by decide +kernel
theorem dX6_readsItem_148 : decode cX6_readsItem 148 = .ok (.iadd, 1) := by decide +kernel
theorem dX6_readsItem_149 : decode cX6_readsItem 149 = .ok (.aload_n 0, 1) := by decide +kernel
theorem dX6_readsItem_150 : decode cX6_readsItem 150 = .ok (.iconst 1, 1) := by decide +kernel
theorem dX6_readsItem_151 : decode cX6_readsItem 151 = .ok (.iload_n 1, 1) := by decide +kernel
theorem dX6_readsItem_152 : decode cX6_readsItem 152 = .ok (.bipush 97, 2) := by decide +kernel
theorem dX6_readsItem_154 : decode cX6_readsItem 154 = .ok (.if_icmp .ne 8, 3) := by decide +kernel
theorem dX6_readsItem_157 : decode cX6_readsItem 157 = .ok (.bipush 20, 2) := by decide +kernel
theorem dX6_readsItem_159 : decode cX6_readsItem 159 = .ok (.goto 5, 3) := by decide +kernel
theorem dX6_readsItem_162 : decode cX6_readsItem 162 = .ok (.bipush 27, 2) := by decide +kernel
theorem dX6_readsItem_164 : decode cX6_readsItem 164 = .ok (.invokevirtual 122, 3) := by decide +kernel
theorem dX6_readsItem_167 : decode cX6_readsItem 167 = .ok (.iastore, 1) := by decide +kernel
theorem dX6_readsItem_168 : decode cX6_readsItem 168 = .ok (.aload_n 0, 1) := by decide +kernel
theorem dX6_readsItem_169 : decode cX6_readsItem 169 = .ok (.dup, 1) := by decide +kernel
theorem dX6_readsItem_170 : decode cX6_readsItem 170 = .ok (.getfield 119, 3) := by decide +kernel
theorem dX6_readsItem_173 : decode cX6_readsItem 173 = .ok (.iload_n 1, 1) := by decide +kernel
theorem dX6_readsItem_174 : decode cX6_readsItem 174 = .ok (.bipush 97, 2) := by decide +kernel
theorem dX6_readsItem_176 : decode cX6_readsItem 176 = .ok (.if_icmp .ne 7, 3) := by decide +kernel
theorem dX6_readsItem_179 : decode cX6_readsItem 179 = .ok (.iconst 1, 1) := by decide +kernel
theorem dX6_readsItem_180 : decode cX6_readsItem 180 = .ok (.goto 4, 3) := by decide +kernel
theorem dX6_readsItem_183 : decode cX6_readsItem 183 = .ok (.iconst 2, 1) := by decide +kernel
theorem dX6_readsItem_184 : decode cX6_readsItem 184 = .ok (.ior, 1) := by decide +kernel
theorem dX6_readsItem_185 : decode cX6_readsItem 185 = .ok (.putfield 119, 3) := by decide +kernel
theorem dX6_readsItem_188 : decode cX6_readsItem 188 = .ok (.return_, 1) := by decide +kernel
theorem dX6_moss_0 : decode cX6_moss 0 = .ok (.aload_n 0, 1) := by decide +kernel
theorem dX6_moss_1 : decode cX6_moss 1 = .ok (.iconst 0, 1) := by decide +kernel
theorem dX6_moss_2 : decode cX6_moss 2 = .ok (.putfield 74, 3) := by decide +kernel
theorem dX6_moss_5 : decode cX6_moss 5 = .ok (.aload_n 0, 1) := by decide +kernel
theorem dX6_moss_6 : decode cX6_moss 6 = .ok (.iconst (-1), 1) := by decide +kernel
theorem dX6_moss_7 : decode cX6_moss 7 = .ok (.putfield 105, 3) := by decide +kernel
theorem dX6_moss_10 : decode cX6_moss 10 = .ok (.aload_n 0, 1) := by decide +kernel
theorem dX6_moss_11 : decode cX6_moss 11 = .ok (.iconst 0, 1) := by decide +kernel
theorem dX6_moss_12 : decode cX6_moss 12 = .ok (.putfield 85, 3) := by decide +kernel
theorem dX6_moss_15 : decode cX6_moss 15 = .ok (.aload_n 0, 1) := by decide +kernel
theorem dX6_moss_16 : decode cX6_moss 16 = .ok (.invokevirtual 68, 3) := by decide +kernel
theorem dX6_moss_19 : decode cX6_moss 19 = .ok (.iconst 0, 1) := by decide +kernel
theorem dX6_moss_20 : decode cX6_moss 20 = .ok (.istore_n 1, 1) := by decide +kernel
theorem dX6_moss_21 : decode cX6_moss 21 = .ok (.aload_n 0, 1) := by decide +kernel
theorem dX6_moss_22 : decode cX6_moss 22 = .ok (.invokevirtual 112, 3) := by decide +kernel
theorem dX6_moss_25 : decode cX6_moss 25 = .ok (.aload_n 0, 1) := by decide +kernel
theorem dX6_moss_26 : decode cX6_moss 26 = .ok (.invokevirtual 108, 3) := by decide +kernel
theorem dX6_moss_29 : decode cX6_moss 29 = .ok (.ifCond .eq 71, 3) := by decide +kernel
theorem dX6_moss_32 : decode cX6_moss 32 = .ok (.aload_n 0, 1) := by decide +kernel
theorem dX6_moss_33 : decode cX6_moss 33 = .ok (.getfield 95, 3) := by decide +kernel
theorem dX6_moss_36 : decode cX6_moss 36 = .ok (.ifCond .eq 64, 3) := by decide +kernel
theorem dX6_moss_39 : decode cX6_moss 39 = .ok (.aload_n 0, 1) := by decide +kernel
theorem dX6_moss_40 : decode cX6_moss 40 = .ok (.aload_n 0, 1) := by decide +kernel
theorem dX6_moss_41 : decode cX6_moss 41 = .ok (.getfield 95, 3) := by decide +kernel
theorem dX6_moss_44 : decode cX6_moss 44 = .ok (.iconst 1, 1) := by decide +kernel
theorem dX6_moss_45 : decode cX6_moss 45 = .ok (.if_icmp .ne 14, 3) := by decide +kernel
theorem dX6_moss_48 : decode cX6_moss 48 = .ok (.aload_n 0, 1) := by decide +kernel
theorem dX6_moss_49 : decode cX6_moss 49 = .ok (.invokevirtual 132, 3) := by decide +kernel
theorem dX6_moss_52 : decode cX6_moss 52 = .ok (.ifCond .eq 7, 3) := by decide +kernel
theorem dX6_moss_55 : decode cX6_moss 55 = .ok (.iconst 1, 1) := by decide +kernel
theorem dX6_moss_56 : decode cX6_moss 56 = .ok (.goto 4, 3) := by decide +kernel
theorem dX6_moss_59 : decode cX6_moss 59 = .ok (.iconst 0, 1) := by decide +kernel
theorem dX6_moss_60 : decode cX6_moss 60 = .ok (.invokevirtual 115, 3) := by decide +kernel
theorem dX6_moss_63 : decode cX6_moss 63 = .ok (.istore_n 2, 1) := by decide +kernel
theorem dX6_moss_64 : decode cX6_moss 64 = .ok (.aload_n 0, 1) := by decide +kernel
theorem dX6_moss_65 : decode cX6_moss 65 = .ok (.invokevirtual 108, 3) := by decide +kernel
theorem dX6_moss_68 : decode cX6_moss 68 = .ok (.ifCond .eq 8, 3) := by decide +kernel
theorem dX6_moss_71 : decode cX6_moss 71 = .ok (.aload_n 0, 1) := by decide +kernel
theorem dX6_moss_72 : decode cX6_moss 72 = .ok (.iload_n 2, 1) := by decide +kernel
theorem dX6_moss_73 : decode cX6_moss 73 = .ok (.invokevirtual 135, 3) := by decide +kernel
theorem dX6_moss_76 : decode cX6_moss 76 = .ok (.aload_n 0, 1) := by decide +kernel
theorem dX6_moss_77 : decode cX6_moss 77 = .ok (.aload_n 0, 1) := by decide +kernel
theorem dX6_moss_78 : decode cX6_moss 78 = .ok (.getfield 95, 3) := by decide +kernel
theorem dX6_moss_81 : decode cX6_moss 81 = .ok (.iconst 3, 1) := by decide +kernel
theorem dX6_moss_82 : decode cX6_moss 82 = .ok (.if_icmp .ne 7, 3) := by decide +kernel
theorem dX6_moss_85 : decode cX6_moss 85 = .ok (.iconst 1, 1) := by decide +kernel
theorem dX6_moss_86 : decode cX6_moss 86 = .ok (.goto 4, 3) := by decide +kernel
theorem dX6_moss_89 : decode cX6_moss 89 = .ok (.iconst 0, 1) := by decide +kernel
theorem dX6_moss_90 : decode cX6_moss 90 = .ok (.invokevirtual 115, 3) := by decide +kernel
theorem dX6_moss_93 : decode cX6_moss 93 = .ok (.pop, 1) := by decide +kernel
theorem dX6_moss_94 : decode cX6_moss 94 = .ok (.iinc 1 1, 3) := by decide +kernel
theorem dX6_moss_97 : decode cX6_moss 97 = .ok (.goto (-72), 3) := by decide +kernel
theorem dX6_moss_100 : decode cX6_moss 100 = .ok (.aload_n 0, 1) := by decide +kernel
theorem dX6_moss_101 : decode cX6_moss 101 = .ok (.invokevirtual 108, 3) := by decide +kernel
theorem dX6_moss_104 : decode cX6_moss 104 = .ok (.ifCond .ne 11, 3) := by decide +kernel
theorem dX6_moss_107 : decode cX6_moss 107 = .ok (.bipush (-10), 2) := by decide +kernel
theorem dX6_moss_109 : decode cX6_moss 109 = .ok (.aload_n 0, 1) := by decide +kernel
theorem dX6_moss_110 : decode cX6_moss 110 = .ok (.getfield 105, 3) := by decide +kernel
theorem dX6_moss_113 : decode cX6_moss 113 = .ok (.isub, 1) := by decide +kernel
theorem dX6_moss_114 : decode cX6_moss 114 = .ok (.ireturn, 1) := by decide +kernel
theorem dX6_moss_115 : decode cX6_moss 115 = .ok (.aload_n 0, 1) := by decide +kernel
theorem dX6_moss_116 : decode cX6_moss 116 = .ok (.invokevirtual 71, 3) := by decide +kernel
theorem dX6_moss_119 : decode cX6_moss 119 = .ok (.iload_n 1, 1) := by decide +kernel
theorem dX6_moss_120 : decode cX6_moss 120 = .ok (.ireturn, 1) := by decide +kernel
theorem dX6_settles_0 : decode cX6_settles 0 = .ok (.iconst 0, 1) := by decide +kernel
theorem dX6_settles_1 : decode cX6_settles 1 = .ok (.istore_n 1, 1) := by decide +kernel
theorem dX6_settles_2 : decode cX6_settles 2 = .ok (.iload_n 1, 1) := by decide +kernel
theorem dX6_settles_3 : decode cX6_settles 3 = .ok (.iconst 4, 1) := by decide +kernel
theorem dX6_settles_4 : decode cX6_settles 4 = .ok (.if_icmp .ge 23, 3) := by decide +kernel
theorem dX6_settles_7 : decode cX6_settles 7 = .ok (.aload_n 0, 1) := by decide +kernel
theorem dX6_settles_8 : decode cX6_settles 8 = .ok (.getfield 13, 3) := by decide +kernel
theorem dX6_settles_11 : decode cX6_settles 11 = .ok (.iload_n 1, 1) := by decide +kernel
theorem dX6_settles_12 : decode cX6_settles 12 = .ok (.aload_n 0, 1) := by decide +kernel
theorem dX6_settles_13 : decode cX6_settles 13 = .ok (.getfield 13, 3) := by decide +kernel
theorem dX6_settles_16 : decode cX6_settles 16 = .ok (.iconst 4, 1) := by decide +kernel
theorem dX6_settles_17 : decode cX6_settles 17 = .ok (.iload_n 1, 1) := by decide +kernel
theorem dX6_settles_18 : decode cX6_settles 18 = .ok (.iadd, 1) := by decide +kernel
theorem dX6_settles_19 : decode cX6_settles 19 = .ok (.iaload, 1) := by decide +kernel
theorem dX6_settles_20 : decode cX6_settles 20 = .ok (.iastore, 1) := by decide +kernel
theorem dX6_settles_21 : decode cX6_settles 21 = .ok (.iinc 1 1, 3) := by decide +kernel
theorem dX6_settles_24 : decode cX6_settles 24 = .ok (.goto (-22), 3) := by decide +kernel
theorem dX6_settles_27 : decode cX6_settles 27 = .ok (.iconst 0, 1) := by decide +kernel
theorem dX6_settles_28 : decode cX6_settles 28 = .ok (.istore_n 1, 1) := by decide +kernel
theorem dX6_settles_29 : decode cX6_settles 29 = .ok (.iload_n 1, 1) := by decide +kernel
theorem dX6_settles_30 : decode cX6_settles 30 = .ok (.bipush 6, 2) := by decide +kernel
theorem dX6_settles_32 : decode cX6_settles 32 = .ok (.if_icmp .ge 39, 3) := by decide +kernel
theorem dX6_settles_35 : decode cX6_settles 35 = .ok (.aload_n 0, 1) := by decide +kernel
theorem dX6_settles_36 : decode cX6_settles 36 = .ok (.getfield 16, 3) := by decide +kernel
theorem dX6_settles_39 : decode cX6_settles 39 = .ok (.iload_n 1, 1) := by decide +kernel
theorem dX6_settles_40 : decode cX6_settles 40 = .ok (.aload_n 0, 1) := by decide +kernel
theorem dX6_settles_41 : decode cX6_settles 41 = .ok (.getfield 16, 3) := by decide +kernel
theorem dX6_settles_44 : decode cX6_settles 44 = .ok (.bipush 6, 2) := by decide +kernel
theorem dX6_settles_46 : decode cX6_settles 46 = .ok (.iload_n 1, 1) := by decide +kernel
theorem dX6_settles_47 : decode cX6_settles 47 = .ok (.iadd, 1) := by decide +kernel
theorem dX6_settles_48 : decode cX6_settles 48 = .ok (.iaload, 1) := by decide +kernel
theorem dX6_settles_49 : decode cX6_settles 49 = .ok (.iastore, 1) := by decide +kernel
theorem dX6_settles_50 : decode cX6_settles 50 = .ok (.aload_n 0, 1) := by decide +kernel
theorem dX6_settles_51 : decode cX6_settles 51 = .ok (.getfield 19, 3) := by decide +kernel
theorem dX6_settles_54 : decode cX6_settles 54 = .ok (.iload_n 1, 1) := by decide +kernel
theorem dX6_settles_55 : decode cX6_settles 55 = .ok (.aload_n 0, 1) := by decide +kernel
theorem dX6_settles_56 : decode cX6_settles 56 = .ok (.getfield 19, 3) := by decide +kernel
theorem dX6_settles_59 : decode cX6_settles 59 = .ok (.bipush 6, 2) := by decide +kernel
theorem dX6_settles_61 : decode cX6_settles 61 = .ok (.iload_n 1, 1) := by decide +kernel
theorem dX6_settles_62 : decode cX6_settles 62 = .ok (.iadd, 1) := by decide +kernel
theorem dX6_settles_63 : decode cX6_settles 63 = .ok (.iaload, 1) := by decide +kernel
theorem dX6_settles_64 : decode cX6_settles 64 = .ok (.iastore, 1) := by decide +kernel
theorem dX6_settles_65 : decode cX6_settles 65 = .ok (.iinc 1 1, 3) := by decide +kernel
theorem dX6_settles_68 : decode cX6_settles 68 = .ok (.goto (-39), 3) := by decide +kernel
theorem dX6_settles_71 : decode cX6_settles 71 = .ok (.iconst 0, 1) := by decide +kernel
theorem dX6_settles_72 : decode cX6_settles 72 = .ok (.istore_n 1, 1) := by decide +kernel
theorem dX6_settles_73 : decode cX6_settles 73 = .ok (.iload_n 1, 1) := by decide +kernel
theorem dX6_settles_74 : decode cX6_settles 74 = .ok (.bipush 8, 2) := by decide +kernel
theorem dX6_settles_76 : decode cX6_settles 76 = .ok (.if_icmp .ge 114, 3) := by decide +kernel
theorem dX6_settles_79 : decode cX6_settles 79 = .ok (.aload_n 0, 1) := by decide +kernel
theorem dX6_settles_80 : decode cX6_settles 80 = .ok (.getfield 22, 3) := by decide +kernel
theorem dX6_settles_83 : decode cX6_settles 83 = .ok (.iload_n 1, 1) := by decide +kernel
theorem dX6_settles_84 : decode cX6_settles 84 = .ok (.aload_n 0, 1) := by decide +kernel
theorem dX6_settles_85 : decode cX6_settles 85 = .ok (.getfield 22, 3) := by decide +kernel
theorem dX6_settles_88 : decode cX6_settles 88 = .ok (.bipush 8, 2) := by decide +kernel
theorem dX6_settles_90 : decode cX6_settles 90 = .ok (.iload_n 1, 1) := by decide +kernel
theorem dX6_settles_91 : decode cX6_settles 91 = .ok (.iadd, 1) := by decide +kernel
theorem dX6_settles_92 : decode cX6_settles 92 = .ok (.iaload, 1) := by decide +kernel
theorem dX6_settles_93 : decode cX6_settles 93 = .ok (.iastore, 1) := by decide +kernel
theorem dX6_settles_94 : decode cX6_settles 94 = .ok (.aload_n 0, 1) := by decide +kernel
theorem dX6_settles_95 : decode cX6_settles 95 = .ok (.getfield 25, 3) := by decide +kernel
theorem dX6_settles_98 : decode cX6_settles 98 = .ok (.iload_n 1, 1) := by decide +kernel
theorem dX6_settles_99 : decode cX6_settles 99 = .ok (.aload_n 0, 1) := by decide +kernel
theorem dX6_settles_100 : decode cX6_settles 100 = .ok (.getfield 25, 3) := by decide +kernel
theorem dX6_settles_103 : decode cX6_settles 103 = .ok (.bipush 8, 2) := by decide +kernel
theorem dX6_settles_105 : decode cX6_settles 105 = .ok (.iload_n 1, 1) := by decide +kernel
theorem dX6_settles_106 : decode cX6_settles 106 = .ok (.iadd, 1) := by decide +kernel
theorem dX6_settles_107 : decode cX6_settles 107 = .ok (.iaload, 1) := by decide +kernel
theorem dX6_settles_108 : decode cX6_settles 108 = .ok (.iastore, 1) := by decide +kernel
theorem dX6_settles_109 : decode cX6_settles 109 = .ok (.aload_n 0, 1) := by decide +kernel
theorem dX6_settles_110 : decode cX6_settles 110 = .ok (.getfield 28, 3) := by decide +kernel
theorem dX6_settles_113 : decode cX6_settles 113 = .ok (.iload_n 1, 1) := by decide +kernel
theorem dX6_settles_114 : decode cX6_settles 114 = .ok (.aload_n 0, 1) := by decide +kernel
theorem dX6_settles_115 : decode cX6_settles 115 = .ok (.getfield 28, 3) := by decide +kernel
theorem dX6_settles_118 : decode cX6_settles 118 = .ok (.bipush 8, 2) := by decide +kernel
theorem dX6_settles_120 : decode cX6_settles 120 = .ok (.iload_n 1, 1) := by decide +kernel
theorem dX6_settles_121 : decode cX6_settles 121 = .ok (.iadd, 1) := by decide +kernel
theorem dX6_settles_122 : decode cX6_settles 122 = .ok (.iaload, 1) := by decide +kernel
theorem dX6_settles_123 : decode cX6_settles 123 = .ok (.iastore, 1) := by decide +kernel
theorem dX6_settles_124 : decode cX6_settles 124 = .ok (.aload_n 0, 1) := by decide +kernel
theorem dX6_settles_125 : decode cX6_settles 125 = .ok (.getfield 31, 3) := by decide +kernel
theorem dX6_settles_128 : decode cX6_settles 128 = .ok (.iload_n 1, 1) := by decide +kernel
theorem dX6_settles_129 : decode cX6_settles 129 = .ok (.aload_n 0, 1) := by decide +kernel
theorem dX6_settles_130 : decode cX6_settles 130 = .ok (.getfield 31, 3) := by decide +kernel
theorem dX6_settles_133 : decode cX6_settles 133 = .ok (.bipush 8, 2) := by decide +kernel
theorem dX6_settles_135 : decode cX6_settles 135 = .ok (.iload_n 1, 1) := by decide +kernel
theorem dX6_settles_136 : decode cX6_settles 136 = .ok (.iadd, 1) := by decide +kernel
theorem dX6_settles_137 : decode cX6_settles 137 = .ok (.iaload, 1) := by decide +kernel
theorem dX6_settles_138 : decode cX6_settles 138 = .ok (.iastore, 1) := by decide +kernel
theorem dX6_settles_139 : decode cX6_settles 139 = .ok (.aload_n 0, 1) := by decide +kernel
theorem dX6_settles_140 : decode cX6_settles 140 = .ok (.getfield 34, 3) := by decide +kernel
theorem dX6_settles_143 : decode cX6_settles 143 = .ok (.iload_n 1, 1) := by decide +kernel
theorem dX6_settles_144 : decode cX6_settles 144 = .ok (.aload_n 0, 1) := by decide +kernel
theorem dX6_settles_145 : decode cX6_settles 145 = .ok (.getfield 34, 3) := by decide +kernel
theorem dX6_settles_148 : decode cX6_settles 148 = .ok (.bipush 8, 2) := by decide +kernel
theorem dX6_settles_150 : decode cX6_settles 150 = .ok (.iload_n 1, 1) := by decide +kernel
theorem dX6_settles_151 : decode cX6_settles 151 = .ok (.iadd, 1) := by decide +kernel
theorem dX6_settles_152 : decode cX6_settles 152 = .ok (.iaload, 1) := by decide +kernel
theorem dX6_settles_153 : decode cX6_settles 153 = .ok (.iastore, 1) := by decide +kernel
theorem dX6_settles_154 : decode cX6_settles 154 = .ok (.aload_n 0, 1) := by decide +kernel
theorem dX6_settles_155 : decode cX6_settles 155 = .ok (.getfield 37, 3) := by decide +kernel
theorem dX6_settles_158 : decode cX6_settles 158 = .ok (.iload_n 1, 1) := by decide +kernel
theorem dX6_settles_159 : decode cX6_settles 159 = .ok (.aload_n 0, 1) := by decide +kernel
theorem dX6_settles_160 : decode cX6_settles 160 = .ok (.getfield 37, 3) := by decide +kernel
theorem dX6_settles_163 : decode cX6_settles 163 = .ok (.bipush 8, 2) := by decide +kernel
theorem dX6_settles_165 : decode cX6_settles 165 = .ok (.iload_n 1, 1) := by decide +kernel
theorem dX6_settles_166 : decode cX6_settles 166 = .ok (.iadd, 1) := by decide +kernel
theorem dX6_settles_167 : decode cX6_settles 167 = .ok (.iaload, 1) := by decide +kernel
theorem dX6_settles_168 : decode cX6_settles 168 = .ok (.iastore, 1) := by decide +kernel
theorem dX6_settles_169 : decode cX6_settles 169 = .ok (.aload_n 0, 1) := by decide +kernel
theorem dX6_settles_170 : decode cX6_settles 170 = .ok (.getfield 43, 3) := by decide +kernel
theorem dX6_settles_173 : decode cX6_settles 173 = .ok (.iload_n 1, 1) := by decide +kernel
theorem dX6_settles_174 : decode cX6_settles 174 = .ok (.aload_n 0, 1) := by decide +kernel
theorem dX6_settles_175 : decode cX6_settles 175 = .ok (.getfield 43, 3) := by decide +kernel
theorem dX6_settles_178 : decode cX6_settles 178 = .ok (.bipush 8, 2) := by decide +kernel
theorem dX6_settles_180 : decode cX6_settles 180 = .ok (.iload_n 1, 1) := by decide +kernel
theorem dX6_settles_181 : decode cX6_settles 181 = .ok (.iadd, 1) := by decide +kernel
theorem dX6_settles_182 : decode cX6_settles 182 = .ok (.iaload, 1) := by decide +kernel
theorem dX6_settles_183 : decode cX6_settles 183 = .ok (.iastore, 1) := by decide +kernel
theorem dX6_settles_184 : decode cX6_settles 184 = .ok (.iinc 1 1, 3) := by decide +kernel
theorem dX6_settles_187 : decode cX6_settles 187 = .ok (.goto (-114), 3) := by decide +kernel
theorem dX6_settles_190 : decode cX6_settles 190 = .ok (.iconst 0, 1) := by decide +kernel
theorem dX6_settles_191 : decode cX6_settles 191 = .ok (.istore_n 1, 1) := by decide +kernel
theorem dX6_settles_192 : decode cX6_settles 192 = .ok (.iload_n 1, 1) := by decide +kernel
theorem dX6_settles_193 : decode cX6_settles 193 = .ok (.bipush 32, 2) := by decide +kernel
theorem dX6_settles_195 : decode cX6_settles 195 = .ok (.if_icmp .ge 24, 3) := by decide +kernel
theorem dX6_settles_198 : decode cX6_settles 198 = .ok (.aload_n 0, 1) := by decide +kernel
theorem dX6_settles_199 : decode cX6_settles 199 = .ok (.getfield 40, 3) := by decide +kernel
theorem dX6_settles_202 : decode cX6_settles 202 = .ok (.iload_n 1, 1) := by decide +kernel
theorem dX6_settles_203 : decode cX6_settles 203 = .ok (.aload_n 0, 1) := by decide +kernel
theorem dX6_settles_204 : decode cX6_settles 204 = .ok (.getfield 40, 3) := by decide +kernel
theorem dX6_settles_207 : decode cX6_settles 207 = .ok (.bipush 32, 2) := by decide +kernel
theorem dX6_settles_209 : decode cX6_settles 209 = .ok (.iload_n 1, 1) := by decide +kernel
theorem dX6_settles_210 : decode cX6_settles 210 = .ok (.iadd, 1) := by decide +kernel
theorem dX6_settles_211 : decode cX6_settles 211 = .ok (.iaload, 1) := by decide +kernel
theorem dX6_settles_212 : decode cX6_settles 212 = .ok (.iastore, 1) := by decide +kernel
theorem dX6_settles_213 : decode cX6_settles 213 = .ok (.iinc 1 1, 3) := by decide +kernel
theorem dX6_settles_216 : decode cX6_settles 216 = .ok (.goto (-24), 3) := by decide +kernel
theorem dX6_settles_219 : decode cX6_settles 219 = .ok (.iconst 0, 1) := by decide +kernel
theorem dX6_settles_220 : decode cX6_settles 220 = .ok (.istore_n 1, 1) := by decide +kernel
theorem dX6_settles_221 : decode cX6_settles 221 = .ok (.iload_n 1, 1) := by decide +kernel
theorem dX6_settles_222 : decode cX6_settles 222 = .ok (.bipush 37, 2) := by decide +kernel
theorem dX6_settles_224 : decode cX6_settles 224 = .ok (.if_icmp .ge 16, 3) := by decide +kernel
theorem dX6_settles_227 : decode cX6_settles 227 = .ok (.aload_n 0, 1) := by decide +kernel
theorem dX6_settles_228 : decode cX6_settles 228 = .ok (.getfield 46, 3) := by decide +kernel
theorem dX6_settles_231 : decode cX6_settles 231 = .ok (.iload_n 1, 1) := by decide +kernel
theorem dX6_settles_232 : decode cX6_settles 232 = .ok (.iconst 0, 1) := by decide +kernel
theorem dX6_settles_233 : decode cX6_settles 233 = .ok (.iastore, 1) := by decide +kernel
theorem dX6_settles_234 : decode cX6_settles 234 = .ok (.iinc 1 1, 3) := by decide +kernel
theorem dX6_settles_237 : decode cX6_settles 237 = .ok (.goto (-16), 3) := by decide +kernel
theorem dX6_settles_240 : decode cX6_settles 240 = .ok (.aload_n 0, 1) := by decide +kernel
theorem dX6_settles_241 : decode cX6_settles 241 = .ok (.iconst 0, 1) := by decide +kernel
theorem dX6_settles_242 : decode cX6_settles 242 = .ok (.putfield 82, 3) := by decide +kernel
theorem dX6_settles_245 : decode cX6_settles 245 = .ok (.aload_n 0, 1) := by decide +kernel
theorem dX6_settles_246 : decode cX6_settles 246 = .ok (.iconst 0, 1) := by decide +kernel
theorem dX6_settles_247 : decode cX6_settles 247 = .ok (.putfield 139, 3) := by decide +kernel
theorem dX6_settles_250 : decode cX6_settles 250 = .ok (.aload_n 0, 1) := by decide +kernel
theorem dX6_settles_251 : decode cX6_settles 251 = .ok (.iconst 0, 1) := by decide +kernel
theorem dX6_settles_252 : decode cX6_settles 252 = .ok (.putfield 142, 3) := by decide +kernel
theorem dX6_settles_255 : decode cX6_settles 255 = .ok (.aload_n 0, 1) := by decide +kernel
theorem dX6_settles_256 : decode cX6_settles 256 = .ok (.getfield 52, 3) := by decide +kernel
theorem dX6_settles_259 : decode cX6_settles 259 = .ok (.iconst 0, 1) := by decide +kernel
theorem dX6_settles_260 : decode cX6_settles 260 = .ok (.iconst 0, 1) := by decide +kernel
theorem dX6_settles_261 : decode cX6_settles 261 = .ok (.bastore, 1) := by decide +kernel
theorem dX6_settles_262 : decode cX6_settles 262 = .ok (.aload_n 0, 1) := by decide +kernel
theorem dX6_settles_263 : decode cX6_settles 263 = .ok (.getfield 52, 3) := by decide +kernel
theorem dX6_settles_266 : decode cX6_settles 266 = .ok (.iconst 1, 1) := by decide +kernel
theorem dX6_settles_267 : decode cX6_settles 267 = .ok (.iconst 0, 1) := by decide +kernel
theorem dX6_settles_268 : decode cX6_settles 268 = .ok (.bastore, 1) := by decide +kernel
theorem dX6_settles_269 : decode cX6_settles 269 = .ok (.return_, 1) := by decide +kernel
theorem dX6_isPromise_0 : decode cX6_isPromise 0 = .ok (.iload_n 1, 1) := by decide +kernel
theorem dX6_isPromise_1 : decode cX6_isPromise 1 = .ok (.iconst 0, 1) := by decide +kernel
theorem dX6_isPromise_2 : decode cX6_isPromise 2 = .ok (.aload_n 0, 1) := by decide +kernel
theorem dX6_isPromise_3 : decode cX6_isPromise 3 = .ok (.getfield 13, 3) := by decide +kernel
theorem dX6_isPromise_6 : decode cX6_isPromise 6 = .ok (.iconst 1, 1) := by decide +kernel
theorem dX6_isPromise_7 : decode cX6_isPromise 7 = .ok (.iaload, 1) := by decide +kernel
theorem dX6_isPromise_8 : decode cX6_isPromise 8 = .ok (.iconst 1, 1) := by decide +kernel
theorem dX6_isPromise_9 : decode cX6_isPromise 9 = .ok (.isub, 1) := by decide +kernel
theorem dX6_isPromise_10 : decode cX6_isPromise 10 = .ok (.invokestatic 78, 3) := by decide +kernel
theorem dX6_isPromise_13 : decode cX6_isPromise 13 = .ok (.ireturn, 1) := by decide +kernel
theorem dX6_isCell_0 : decode cX6_isCell 0 = .ok (.iload_n 0, 1) := by decide +kernel
theorem dX6_isCell_1 : decode cX6_isCell 1 = .ok (.iconst 0, 1) := by decide +kernel
theorem dX6_isCell_2 : decode cX6_isCell 2 = .ok (.iconst 5, 1) := by decide +kernel
theorem dX6_isCell_3 : decode cX6_isCell 3 = .ok (.invokestatic 78, 3) := by decide +kernel
theorem dX6_isCell_6 : decode cX6_isCell 6 = .ok (.ireturn, 1) := by decide +kernel
theorem dX6_those_0 : decode cX6_those 0 = .ok (.iconst 0, 1) := by decide +kernel
theorem dX6_those_1 : decode cX6_those 1 = .ok (.istore_n 2, 1) := by decide +kernel
theorem dX6_those_2 : decode cX6_those 2 = .ok (.iconst 0, 1) := by decide +kernel
theorem dX6_those_3 : decode cX6_those 3 = .ok (.istore_n 3, 1) := by decide +kernel
theorem dX6_those_4 : decode cX6_those 4 = .ok (.iload_n 3, 1) := by decide +kernel
theorem dX6_those_5 : decode cX6_those 5 = .ok (.aload_n 0, 1) := by decide +kernel
theorem dX6_those_6 : decode cX6_those 6 = .ok (.getfield 13, 3) := by decide +kernel
theorem dX6_those_9 : decode cX6_those 9 = .ok (.iconst 1, 1) := by decide +kernel
theorem dX6_those_10 : decode cX6_those 10 = .ok (.iaload, 1) := by decide +kernel
theorem dX6_those_11 : decode cX6_those 11 = .ok (.if_icmp .ge 32, 3) := by decide +kernel
theorem dX6_those_14 : decode cX6_those 14 = .ok (.iload_n 2, 1) := by decide +kernel
theorem dX6_those_15 : decode cX6_those 15 = .ok (.aload_n 0, 1) := by decide +kernel
theorem dX6_those_16 : decode cX6_those 16 = .ok (.getfield 46, 3) := by decide +kernel
theorem dX6_those_19 : decode cX6_those 19 = .ok (.bipush 13, 2) := by decide +kernel
theorem dX6_those_21 : decode cX6_those 21 = .ok (.iload_n 3, 1) := by decide +kernel
theorem dX6_those_22 : decode cX6_those 22 = .ok (.iadd, 1) := by decide +kernel
theorem dX6_those_23 : decode cX6_those 23 = .ok (.iaload, 1) := by decide +kernel
theorem dX6_those_24 : decode cX6_those 24 = .ok (.iload_n 1, 1) := by decide +kernel
theorem dX6_those_25 : decode cX6_those 25 = .ok (.if_icmp .ne 9, 3) := by decide +kernel
theorem dX6_those_28 : decode cX6_those 28 = .ok (.iconst 1, 1) := by decide +kernel
theorem dX6_those_29 : decode cX6_those 29 = .ok (.iload_n 3, 1) := by decide +kernel
theorem dX6_those_30 : decode cX6_those 30 = .ok (.ishl, 1) := by decide +kernel
theorem dX6_those_31 : decode cX6_those 31 = .ok (.goto 4, 3) := by decide +kernel
theorem dX6_those_34 : decode cX6_those 34 = .ok (.iconst 0, 1) := by decide +kernel
theorem dX6_those_35 : decode cX6_those 35 = .ok (.ior, 1) := by decide +kernel
theorem dX6_those_36 : decode cX6_those 36 = .ok (.istore_n 2, 1) := by decide +kernel
theorem dX6_those_37 : decode cX6_those 37 = .ok (.iinc 3 1, 3) := by decide +kernel
theorem dX6_those_40 : decode cX6_those 40 = .ok (.goto (-36), 3) := by decide +kernel
theorem dX6_those_43 : decode cX6_those 43 = .ok (.iload_n 2, 1) := by decide +kernel
theorem dX6_those_44 : decode cX6_those 44 = .ok (.ireturn, 1) := by decide +kernel
theorem dX6_lyingIn_0 : decode cX6_lyingIn 0 = .ok (.iconst 0, 1) := by decide +kernel
theorem dX6_lyingIn_1 : decode cX6_lyingIn 1 = .ok (.istore_n 2, 1) := by decide +kernel
theorem dX6_lyingIn_2 : decode cX6_lyingIn 2 = .ok (.iconst 0, 1) := by decide +kernel
theorem dX6_lyingIn_3 : decode cX6_lyingIn 3 = .ok (.istore_n 3, 1) := by decide +kernel
theorem dX6_lyingIn_4 : decode cX6_lyingIn 4 = .ok (.iload_n 3, 1) := by decide +kernel
theorem dX6_lyingIn_5 : decode cX6_lyingIn 5 = .ok (.aload_n 0, 1) := by decide +kernel
theorem dX6_lyingIn_6 : decode cX6_lyingIn 6 = .ok (.getfield 13, 3) := by decide +kernel
theorem dX6_lyingIn_9 : decode cX6_lyingIn 9 = .ok (.iconst 1, 1) := by decide +kernel
theorem dX6_lyingIn_10 : decode cX6_lyingIn 10 = .ok (.iaload, 1) := by decide +kernel
theorem dX6_lyingIn_11 : decode cX6_lyingIn 11 = .ok (.if_icmp .ge 41, 3) := by decide +kernel
theorem dX6_lyingIn_14 : decode cX6_lyingIn 14 = .ok (.iload_n 2, 1) := by decide +kernel
theorem dX6_lyingIn_15 : decode cX6_lyingIn 15 = .ok (.aload_n 0, 1) := by decide +kernel
theorem dX6_lyingIn_16 : decode cX6_lyingIn 16 = .ok (.getfield 46, 3) := by decide +kernel
theorem dX6_lyingIn_19 : decode cX6_lyingIn 19 = .ok (.bipush 13, 2) := by decide +kernel
theorem dX6_lyingIn_21 : decode cX6_lyingIn 21 = .ok (.iload_n 3, 1) := by decide +kernel
theorem dX6_lyingIn_22 : decode cX6_lyingIn 22 = .ok (.iadd, 1) := by decide +kernel
theorem dX6_lyingIn_23 : decode cX6_lyingIn 23 = .ok (.iaload, 1) := by decide +kernel
theorem dX6_lyingIn_24 : decode cX6_lyingIn 24 = .ok (.ifCond .ne 19, 3) := by decide +kernel
theorem dX6_lyingIn_27 : decode cX6_lyingIn 27 = .ok (.aload_n 0, 1) := by decide +kernel
theorem dX6_lyingIn_28 : decode cX6_lyingIn 28 = .ok (.getfield 25, 3) := by decide +kernel
theorem dX6_lyingIn_31 : decode cX6_lyingIn 31 = .ok (.iload_n 3, 1) := by decide +kernel
theorem dX6_lyingIn_32 : decode cX6_lyingIn 32 = .ok (.iaload, 1) := by decide +kernel
theorem dX6_lyingIn_33 : decode cX6_lyingIn 33 = .ok (.iload_n 1, 1) := by decide +kernel
theorem dX6_lyingIn_34 : decode cX6_lyingIn 34 = .ok (.if_icmp .ne 9, 3) := by decide +kernel
theorem dX6_lyingIn_37 : decode cX6_lyingIn 37 = .ok (.iconst 1, 1) := by decide +kernel
theorem dX6_lyingIn_38 : decode cX6_lyingIn 38 = .ok (.iload_n 3, 1) := by decide +kernel
theorem dX6_lyingIn_39 : decode cX6_lyingIn 39 = .ok (.ishl, 1) := by decide +kernel
theorem dX6_lyingIn_40 : decode cX6_lyingIn 40 = .ok (.goto 4, 3) := by decide +kernel
theorem dX6_lyingIn_43 : decode cX6_lyingIn 43 = .ok (.iconst 0, 1) := by decide +kernel
theorem dX6_lyingIn_44 : decode cX6_lyingIn 44 = .ok (.ior, 1) := by decide +kernel
theorem dX6_lyingIn_45 : decode cX6_lyingIn 45 = .ok (.istore_n 2, 1) := by decide +kernel
theorem dX6_lyingIn_46 : decode cX6_lyingIn 46 = .ok (.iinc 3 1, 3) := by decide +kernel
theorem dX6_lyingIn_49 : decode cX6_lyingIn 49 = .ok (.goto (-45), 3) := by decide +kernel
theorem dX6_lyingIn_52 : decode cX6_lyingIn 52 = .ok (.iload_n 2, 1) := by decide +kernel
theorem dX6_lyingIn_53 : decode cX6_lyingIn 53 = .ok (.ireturn, 1) := by decide +kernel
theorem dX6_leftIn_0 : decode cX6_leftIn 0 = .ok (.aload_n 0, 1) := by decide +kernel
theorem dX6_leftIn_1 : decode cX6_leftIn 1 = .ok (.getfield 46, 3) := by decide +kernel
theorem dX6_leftIn_4 : decode cX6_leftIn 4 = .ok (.bipush 13, 2) := by decide +kernel
theorem dX6_leftIn_6 : decode cX6_leftIn 6 = .ok (.iload_n 1, 1) := by decide +kernel
theorem dX6_leftIn_7 : decode cX6_leftIn 7 = .ok (.iadd, 1) := by decide +kernel
theorem dX6_leftIn_8 : decode cX6_leftIn 8 = .ok (.iaload, 1) := by decide +kernel
theorem dX6_leftIn_9 : decode cX6_leftIn 9 = .ok (.ifCond .eq 30, 3) := by decide +kernel
theorem dX6_leftIn_12 : decode cX6_leftIn 12 = .ok (.aload_n 0, 1) := by decide +kernel
theorem dX6_leftIn_13 : decode cX6_leftIn 13 = .ok (.getfield 46, 3) := by decide +kernel
theorem dX6_leftIn_16 : decode cX6_leftIn 16 = .ok (.bipush 13, 2) := by decide +kernel
theorem dX6_leftIn_18 : decode cX6_leftIn 18 = .ok (.iload_n 1, 1) := by decide +kernel
theorem dX6_leftIn_19 : decode cX6_leftIn 19 = .ok (.iadd, 1) := by decide +kernel
theorem dX6_leftIn_20 : decode cX6_leftIn 20 = .ok (.iaload, 1) := by decide +kernel
theorem dX6_leftIn_21 : decode cX6_leftIn 21 = .ok (.iconst 3, 1) := by decide +kernel
theorem dX6_leftIn_22 : decode cX6_leftIn 22 = .ok (.if_icmp .ne 7, 3) := by decide +kernel
theorem dX6_leftIn_25 : decode cX6_leftIn 25 = .ok (.iconst 0, 1) := by decide +kernel
theorem dX6_leftIn_26 : decode cX6_leftIn 26 = .ok (.goto 12, 3) := by decide +kernel
theorem dX6_leftIn_29 : decode cX6_leftIn 29 = .ok (.aload_n 0, 1) := by decide +kernel
theorem dX6_leftIn_30 : decode cX6_leftIn 30 = .ok (.getfield 46, 3) := by decide +kernel
theorem dX6_leftIn_33 : decode cX6_leftIn 33 = .ok (.bipush 21, 2) := by decide +kernel
theorem dX6_leftIn_35 : decode cX6_leftIn 35 = .ok (.iload_n 1, 1) := by decide +kernel
theorem dX6_leftIn_36 : decode cX6_leftIn 36 = .ok (.iadd, 1) := by decide +kernel
theorem dX6_leftIn_37 : decode cX6_leftIn 37 = .ok (.iaload, 1) := by decide +kernel
theorem dX6_leftIn_38 : decode cX6_leftIn 38 = .ok (.ireturn, 1) := by decide +kernel
theorem dX6_leftIn_39 : decode cX6_leftIn 39 = .ok (.aload_n 0, 1) := by decide +kernel
theorem dX6_leftIn_40 : decode cX6_leftIn 40 = .ok (.getfield 37, 3) := by decide +kernel
theorem dX6_leftIn_43 : decode cX6_leftIn 43 = .ok (.iload_n 1, 1) := by decide +kernel
theorem dX6_leftIn_44 : decode cX6_leftIn 44 = .ok (.iaload, 1) := by decide +kernel
theorem dX6_leftIn_45 : decode cX6_leftIn 45 = .ok (.iload_n 2, 1) := by decide +kernel
theorem dX6_leftIn_46 : decode cX6_leftIn 46 = .ok (.aload_n 0, 1) := by decide +kernel
theorem dX6_leftIn_47 : decode cX6_leftIn 47 = .ok (.getfield 28, 3) := by decide +kernel
theorem dX6_leftIn_50 : decode cX6_leftIn 50 = .ok (.iload_n 1, 1) := by decide +kernel
theorem dX6_leftIn_51 : decode cX6_leftIn 51 = .ok (.iaload, 1) := by decide +kernel
theorem dX6_leftIn_52 : decode cX6_leftIn 52 = .ok (.iconst 1, 1) := by decide +kernel
theorem dX6_leftIn_53 : decode cX6_leftIn 53 = .ok (.iadd, 1) := by decide +kernel
theorem dX6_leftIn_54 : decode cX6_leftIn 54 = .ok (.imul, 1) := by decide +kernel
theorem dX6_leftIn_55 : decode cX6_leftIn 55 = .ok (.aload_n 0, 1) := by decide +kernel
theorem dX6_leftIn_56 : decode cX6_leftIn 56 = .ok (.getfield 13, 3) := by decide +kernel
theorem dX6_leftIn_59 : decode cX6_leftIn 59 = .ok (.iconst 2, 1) := by decide +kernel
theorem dX6_leftIn_60 : decode cX6_leftIn 60 = .ok (.iaload, 1) := by decide +kernel
theorem dX6_leftIn_61 : decode cX6_leftIn 61 = .ok (.idiv, 1) := by decide +kernel
theorem dX6_leftIn_62 : decode cX6_leftIn 62 = .ok (.isub, 1) := by decide +kernel
theorem dX6_leftIn_63 : decode cX6_leftIn 63 = .ok (.aload_n 0, 1) := by decide +kernel
theorem dX6_leftIn_64 : decode cX6_leftIn 64 = .ok (.getfield 46, 3) := by decide +kernel
theorem dX6_leftIn_67 : decode cX6_leftIn 67 = .ok (.bipush 29, 2) := by decide +kernel
theorem dX6_leftIn_69 : decode cX6_leftIn 69 = .ok (.iload_n 1, 1) := by decide +kernel
theorem dX6_leftIn_70 : decode cX6_leftIn 70 = .ok (.iadd, 1) := by decide +kernel
theorem dX6_leftIn_71 : decode cX6_leftIn 71 = .ok (.iaload, 1) := by decide +kernel
theorem dX6_leftIn_72 : decode cX6_leftIn 72 = .ok (.isub, 1) := by decide +kernel
theorem dX6_leftIn_73 : decode cX6_leftIn 73 = .ok (.istore_n 3, 1) := by decide +kernel
theorem dX6_leftIn_74 : decode cX6_leftIn 74 = .ok (.iload_n 3, 1) := by decide +kernel
theorem dX6_leftIn_75 : decode cX6_leftIn 75 = .ok (.iconst 1, 1) := by decide +kernel
theorem dX6_leftIn_76 : decode cX6_leftIn 76 = .ok (.if_icmp .ge 7, 3) := by decide +kernel
theorem dX6_leftIn_79 : decode cX6_leftIn 79 = .ok (.iconst 1, 1) := by decide +kernel
theorem dX6_leftIn_80 : decode cX6_leftIn 80 = .ok (.goto 4, 3) := by decide +kernel
theorem dX6_leftIn_83 : decode cX6_leftIn 83 = .ok (.iload_n 3, 1) := by decide +kernel
theorem dX6_leftIn_84 : decode cX6_leftIn 84 = .ok (.ireturn, 1) := by decide +kernel
theorem dX6_leftNow_0 : decode cX6_leftNow 0 = .ok (.aload_n 0, 1) := by decide +kernel
theorem dX6_leftNow_1 : decode cX6_leftNow 1 = .ok (.iload_n 1, 1) := by decide +kernel
theorem dX6_leftNow_2 : decode cX6_leftNow 2 = .ok (.aload_n 0, 1) := by decide +kernel
theorem dX6_leftNow_3 : decode cX6_leftNow 3 = .ok (.getfield 46, 3) := by decide +kernel
theorem dX6_leftNow_6 : decode cX6_leftNow 6 = .ok (.iconst 0, 1) := by decide +kernel
theorem dX6_leftNow_7 : decode cX6_leftNow 7 = .ok (.iaload, 1) := by decide +kernel
theorem dX6_leftNow_8 : decode cX6_leftNow 8 = .ok (.invokevirtual 145, 3) := by decide +kernel
theorem dX6_leftNow_11 : decode cX6_leftNow 11 = .ok (.ireturn, 1) := by decide +kernel
theorem dX6_person_0 : decode cX6_person 0 = .ok (.aload_n 0, 1) := by decide +kernel
theorem dX6_person_1 : decode cX6_person 1 = .ok (.iconst 0, 1) := by decide +kernel
theorem dX6_person_2 : decode cX6_person 2 = .ok (.putfield 74, 3) := by decide +kernel
theorem dX6_person_5 : decode cX6_person 5 = .ok (.iload_n 1, 1) := by decide +kernel
theorem dX6_person_6 : decode cX6_person 6 = .ok (.iconst 0, 1) := by decide +kernel
theorem dX6_person_7 : decode cX6_person 7 = .ok (.aload_n 0, 1) := by decide +kernel
theorem dX6_person_8 : decode cX6_person 8 = .ok (.getfield 13, 3) := by decide +kernel
theorem dX6_person_11 : decode cX6_person 11 = .ok (.iconst 0, 1) := by decide +kernel
theorem dX6_person_12 : decode cX6_person 12 = .ok (.iaload, 1) := by decide +kernel
theorem dX6_person_13 : decode cX6_person 13 = .ok (.iconst 1, 1) := by decide +kernel
theorem dX6_person_14 : decode cX6_person 14 = .ok (.isub, 1) := by decide +kernel
theorem dX6_person_15 : decode cX6_person 15 = .ok (.invokestatic 78, 3) := by decide +kernel
theorem dX6_person_18 : decode cX6_person 18 = .ok (.ifCond .eq 12, 3) := by decide +kernel
theorem dX6_person_21 : decode cX6_person 21 = .ok (.iload_n 2, 1) := by decide +kernel
theorem dX6_person_22 : decode cX6_person 22 = .ok (.iconst 0, 1) := by decide +kernel
theorem dX6_person_23 : decode cX6_person 23 = .ok (.iconst 1, 1) := by decide +kernel
theorem dX6_person_24 : decode cX6_person 24 = .ok (.invokestatic 78, 3) := by decide +kernel
theorem dX6_person_27 : decode cX6_person 27 = .ok (.ifCond .ne 5, 3) := by decide +kernel
theorem dX6_person_30 : decode cX6_person 30 = .ok (.iconst (-1), 1) := by decide +kernel
theorem dX6_person_31 : decode cX6_person 31 = .ok (.ireturn, 1) := by decide +kernel
theorem dX6_person_32 : decode cX6_person 32 = .ok (.iload_n 2, 1) := by decide +kernel
theorem dX6_person_33 : decode cX6_person 33 = .ok (.ifCond .ne 12, 3) := by decide +kernel
theorem dX6_person_36 : decode cX6_person 36 = .ok (.aload_n 0, 1) := by decide +kernel
theorem dX6_person_37 : decode cX6_person 37 = .ok (.getfield 16, 3) := by decide +kernel
theorem dX6_person_40 : decode cX6_person 40 = .ok (.iload_n 1, 1) := by decide +kernel
theorem dX6_person_41 : decode cX6_person 41 = .ok (.iaload, 1) := by decide +kernel
theorem dX6_person_42 : decode cX6_person 42 = .ok (.goto 9, 3) := by decide +kernel
theorem dX6_person_45 : decode cX6_person 45 = .ok (.aload_n 0, 1) := by decide +kernel
theorem dX6_person_46 : decode cX6_person 46 = .ok (.getfield 19, 3) := by decide +kernel
theorem dX6_person_49 : decode cX6_person 49 = .ok (.iload_n 1, 1) := by decide +kernel
theorem dX6_person_50 : decode cX6_person 50 = .ok (.iaload, 1) := by decide +kernel
theorem dX6_person_51 : decode cX6_person 51 = .ok (.ireturn, 1) := by decide +kernel
theorem dX6_promise_0 : decode cX6_promise 0 = .ok (.aload_n 0, 1) := by decide +kernel
theorem dX6_promise_1 : decode cX6_promise 1 = .ok (.iconst 0, 1) := by decide +kernel
theorem dX6_promise_2 : decode cX6_promise 2 = .ok (.putfield 74, 3) := by decide +kernel
theorem dX6_promise_5 : decode cX6_promise 5 = .ok (.aload_n 0, 1) := by decide +kernel
theorem dX6_promise_6 : decode cX6_promise 6 = .ok (.iload_n 1, 1) := by decide +kernel
theorem dX6_promise_7 : decode cX6_promise 7 = .ok (.invokevirtual 148, 3) := by decide +kernel
theorem dX6_promise_10 : decode cX6_promise 10 = .ok (.ifCond .eq 13, 3) := by decide +kernel
theorem dX6_promise_13 : decode cX6_promise 13 = .ok (.iload_n 2, 1) := by decide +kernel
theorem dX6_promise_14 : decode cX6_promise 14 = .ok (.iconst 0, 1) := by decide +kernel
theorem dX6_promise_15 : decode cX6_promise 15 = .ok (.bipush 7, 2) := by decide +kernel
theorem dX6_promise_17 : decode cX6_promise 17 = .ok (.invokestatic 78, 3) := by decide +kernel
theorem dX6_promise_20 : decode cX6_promise 20 = .ok (.ifCond .ne 5, 3) := by decide +kernel
theorem dX6_promise_23 : decode cX6_promise 23 = .ok (.iconst (-1), 1) := by decide +kernel
theorem dX6_promise_24 : decode cX6_promise 24 = .ok (.ireturn, 1) := by decide +kernel
theorem dX6_promise_25 : decode cX6_promise 25 = .ok (.iload_n 2, 1) := by decide +kernel
theorem dX6_promise_26 : decode cX6_promise 26 = .ok (.iconst 4, 1) := by decide +kernel
theorem dX6_promise_27 : decode cX6_promise 27 = .ok (.if_icmp .ge 51, 3) := by decide +kernel
theorem dX6_promise_30 : decode cX6_promise 30 = .ok (.iload_n 2, 1) := by decide +kernel
theorem dX6_promise_31 : decode cX6_promise 31 = .ok (.ifCond .ne 12, 3) := by decide +kernel
theorem dX6_promise_34 : decode cX6_promise 34 = .ok (.aload_n 0, 1) := by decide +kernel
theorem dX6_promise_35 : decode cX6_promise 35 = .ok (.getfield 22, 3) := by decide +kernel
theorem dX6_promise_38 : decode cX6_promise 38 = .ok (.iload_n 1, 1) := by decide +kernel
theorem dX6_promise_39 : decode cX6_promise 39 = .ok (.iaload, 1) := by decide +kernel
theorem dX6_promise_40 : decode cX6_promise 40 = .ok (.goto 37, 3) := by decide +kernel
theorem dX6_promise_43 : decode cX6_promise 43 = .ok (.iload_n 2, 1) := by decide +kernel
theorem dX6_promise_44 : decode cX6_promise 44 = .ok (.iconst 1, 1) := by decide +kernel
theorem dX6_promise_45 : decode cX6_promise 45 = .ok (.if_icmp .ne 12, 3) := by decide +kernel
theorem dX6_promise_48 : decode cX6_promise 48 = .ok (.aload_n 0, 1) := by decide +kernel
theorem dX6_promise_49 : decode cX6_promise 49 = .ok (.getfield 25, 3) := by decide +kernel
theorem dX6_promise_52 : decode cX6_promise 52 = .ok (.iload_n 1, 1) := by decide +kernel
theorem dX6_promise_53 : decode cX6_promise 53 = .ok (.iaload, 1) := by decide +kernel
theorem dX6_promise_54 : decode cX6_promise 54 = .ok (.goto 23, 3) := by decide +kernel
theorem dX6_promise_57 : decode cX6_promise 57 = .ok (.iload_n 2, 1) := by decide +kernel
theorem dX6_promise_58 : decode cX6_promise 58 = .ok (.iconst 2, 1) := by decide +kernel
theorem dX6_promise_59 : decode cX6_promise 59 = .ok (.if_icmp .ne 12, 3) := by decide +kernel
theorem dX6_promise_62 : decode cX6_promise 62 = .ok (.aload_n 0, 1) := by decide +kernel
theorem dX6_promise_63 : decode cX6_promise 63 = .ok (.getfield 28, 3) := by decide +kernel
theorem dX6_promise_66 : decode cX6_promise 66 = .ok (.iload_n 1, 1) := by decide +kernel
theorem dX6_promise_67 : decode cX6_promise 67 = .ok (.iaload, 1) := by decide +kernel
theorem dX6_promise_68 : decode cX6_promise 68 = .ok (.goto 9, 3) := by decide +kernel
theorem dX6_promise_71 : decode cX6_promise 71 = .ok (.aload_n 0, 1) := by decide +kernel
theorem dX6_promise_72 : decode cX6_promise 72 = .ok (.getfield 31, 3) := by decide +kernel
theorem dX6_promise_75 : decode cX6_promise 75 = .ok (.iload_n 1, 1) := by decide +kernel
theorem dX6_promise_76 : decode cX6_promise 76 = .ok (.iaload, 1) := by decide +kernel
theorem dX6_promise_77 : decode cX6_promise 77 = .ok (.ireturn, 1) := by decide +kernel
theorem dX6_promise_78 : decode cX6_promise 78 = .ok (.iload_n 2, 1) := by decide +kernel
theorem dX6_promise_79 : decode cX6_promise 79 = .ok (.iconst 4, 1) := by decide +kernel
theorem dX6_promise_80 : decode cX6_promise 80 = .ok (.if_icmp .ne 12, 3) := by decide +kernel
theorem dX6_promise_83 : decode cX6_promise 83 = .ok (.aload_n 0, 1) := by decide +kernel
theorem dX6_promise_84 : decode cX6_promise 84 = .ok (.getfield 34, 3) := by decide +kernel
theorem dX6_promise_87 : decode cX6_promise 87 = .ok (.iload_n 1, 1) := by decide +kernel
theorem dX6_promise_88 : decode cX6_promise 88 = .ok (.iaload, 1) := by decide +kernel
theorem dX6_promise_89 : decode cX6_promise 89 = .ok (.goto 41, 3) := by decide +kernel
theorem dX6_promise_92 : decode cX6_promise 92 = .ok (.iload_n 2, 1) := by decide +kernel
theorem dX6_promise_93 : decode cX6_promise 93 = .ok (.iconst 5, 1) := by decide +kernel
theorem dX6_promise_94 : decode cX6_promise 94 = .ok (.if_icmp .ne 12, 3) := by decide +kernel
theorem dX6_promise_97 : decode cX6_promise 97 = .ok (.aload_n 0, 1) := by decide +kernel
theorem dX6_promise_98 : decode cX6_promise 98 = .ok (.getfield 37, 3) := by decide +kernel
theorem dX6_promise_101 : decode cX6_promise 101 = .ok (.iload_n 1, 1) := by decide +kernel
theorem dX6_promise_102 : decode cX6_promise 102 = .ok (.iaload, 1) := by decide +kernel
theorem dX6_promise_103 : decode cX6_promise 103 = .ok (.goto 27, 3) := by decide +kernel
theorem dX6_promise_106 : decode cX6_promise 106 = .ok (.iload_n 2, 1) := by decide +kernel
theorem dX6_promise_107 : decode cX6_promise 107 = .ok (.bipush 6, 2) := by decide +kernel
theorem dX6_promise_109 : decode cX6_promise 109 = .ok (.if_icmp .ne 12, 3) := by decide +kernel
theorem dX6_promise_112 : decode cX6_promise 112 = .ok (.aload_n 0, 1) := by decide +kernel
theorem dX6_promise_113 : decode cX6_promise 113 = .ok (.getfield 43, 3) := by decide +kernel
theorem dX6_promise_116 : decode cX6_promise 116 = .ok (.iload_n 1, 1) := by decide +kernel
theorem dX6_promise_117 : decode cX6_promise 117 = .ok (.iaload, 1) := by decide +kernel
theorem dX6_promise_118 : decode cX6_promise 118 = .ok (.goto 12, 3) := by decide +kernel
theorem dX6_promise_121 : decode cX6_promise 121 = .ok (.aload_n 0, 1) := by decide +kernel
theorem dX6_promise_122 : decode cX6_promise 122 = .ok (.getfield 46, 3) := by decide +kernel
theorem dX6_promise_125 : decode cX6_promise 125 = .ok (.bipush 13, 2) := by decide +kernel
theorem dX6_promise_127 : decode cX6_promise 127 = .ok (.iload_n 1, 1) := by decide +kernel
theorem dX6_promise_128 : decode cX6_promise 128 = .ok (.iadd, 1) := by decide +kernel
theorem dX6_promise_129 : decode cX6_promise 129 = .ok (.iaload, 1) := by decide +kernel
theorem dX6_promise_130 : decode cX6_promise 130 = .ok (.ireturn, 1) := by decide +kernel
theorem dX6_word_0 : decode cX6_word 0 = .ok (.aload_n 0, 1) := by decide +kernel
theorem dX6_word_1 : decode cX6_word 1 = .ok (.iconst 0, 1) := by decide +kernel
theorem dX6_word_2 : decode cX6_word 2 = .ok (.putfield 74, 3) := by decide +kernel
theorem dX6_word_5 : decode cX6_word 5 = .ok (.aload_n 0, 1) := by decide +kernel
theorem dX6_word_6 : decode cX6_word 6 = .ok (.iload_n 1, 1) := by decide +kernel
theorem dX6_word_7 : decode cX6_word 7 = .ok (.invokevirtual 148, 3) := by decide +kernel
theorem dX6_word_10 : decode cX6_word 10 = .ok (.ifCond .eq 12, 3) := by decide +kernel
theorem dX6_word_13 : decode cX6_word 13 = .ok (.iload_n 2, 1) := by decide +kernel
theorem dX6_word_14 : decode cX6_word 14 = .ok (.iconst 0, 1) := by decide +kernel
theorem dX6_word_15 : decode cX6_word 15 = .ok (.iconst 3, 1) := by decide +kernel
theorem dX6_word_16 : decode cX6_word 16 = .ok (.invokestatic 78, 3) := by decide +kernel
theorem dX6_word_19 : decode cX6_word 19 = .ok (.ifCond .ne 5, 3) := by decide +kernel
theorem dX6_word_22 : decode cX6_word 22 = .ok (.iconst (-1), 1) := by decide +kernel
theorem dX6_word_23 : decode cX6_word 23 = .ok (.ireturn, 1) := by decide +kernel
theorem dX6_word_24 : decode cX6_word 24 = .ok (.iload_n 2, 1) := by decide +kernel
theorem dX6_word_25 : decode cX6_word 25 = .ok (.aload_n 0, 1) := by decide +kernel
theorem dX6_word_26 : decode cX6_word 26 = .ok (.iload_n 1, 1) := by decide +kernel
theorem dX6_word_27 : decode cX6_word 27 = .ok (.invokevirtual 151, 3) := by decide +kernel
theorem dX6_word_30 : decode cX6_word 30 = .ok (.if_icmp .ge 16, 3) := by decide +kernel
theorem dX6_word_33 : decode cX6_word 33 = .ok (.aload_n 0, 1) := by decide +kernel
theorem dX6_word_34 : decode cX6_word 34 = .ok (.getfield 40, 3) := by decide +kernel
theorem dX6_word_37 : decode cX6_word 37 = .ok (.iconst 4, 1) := by decide +kernel
theorem dX6_word_38 : decode cX6_word 38 = .ok (.iload_n 1, 1) := by decide +kernel
theorem dX6_word_39 : decode cX6_word 39 = .ok (.imul, 1) := by decide +kernel
theorem dX6_word_40 : decode cX6_word 40 = .ok (.iload_n 2, 1) := by decide +kernel
theorem dX6_word_41 : decode cX6_word 41 = .ok (.iadd, 1) := by decide +kernel
theorem dX6_word_42 : decode cX6_word 42 = .ok (.iaload, 1) := by decide +kernel
theorem dX6_word_43 : decode cX6_word 43 = .ok (.goto 5, 3) := by decide +kernel
theorem dX6_word_46 : decode cX6_word 46 = .ok (.bipush (-9), 2) := by decide +kernel
theorem dX6_word_48 : decode cX6_word 48 = .ok (.ireturn, 1) := by decide +kernel
theorem dX6_slidesOf_0 : decode cX6_slidesOf 0 = .ok (.iconst 0, 1) := by decide +kernel
theorem dX6_slidesOf_1 : decode cX6_slidesOf 1 = .ok (.istore_n 1, 1) := by decide +kernel
theorem dX6_slidesOf_2 : decode cX6_slidesOf 2 = .ok (.iconst 0, 1) := by decide +kernel
theorem dX6_slidesOf_3 : decode cX6_slidesOf 3 = .ok (.istore_n 2, 1) := by decide +kernel
theorem dX6_slidesOf_4 : decode cX6_slidesOf 4 = .ok (.iload_n 2, 1) := by decide +kernel
theorem dX6_slidesOf_5 : decode cX6_slidesOf 5 = .ok (.bipush 6, 2) := by decide +kernel
theorem dX6_slidesOf_7 : decode cX6_slidesOf 7 = .ok (.if_icmp .ge 39, 3) := by decide +kernel
theorem dX6_slidesOf_10 : decode cX6_slidesOf 10 = .ok (.aload_n 0, 1) := by decide +kernel
theorem dX6_slidesOf_11 : decode cX6_slidesOf 11 = .ok (.getfield 62, 3) := by decide +kernel
theorem dX6_slidesOf_14 : decode cX6_slidesOf 14 = .ok (.iload_n 2, 1) := by decide +kernel
theorem dX6_slidesOf_15 : decode cX6_slidesOf 15 = .ok (.aload_n 0, 1) := by decide +kernel
theorem dX6_slidesOf_16 : decode cX6_slidesOf 16 = .ok (.getfield 62, 3) := by decide +kernel
theorem dX6_slidesOf_19 : decode cX6_slidesOf 19 = .ok (.iload_n 2, 1) := by decide +kernel
theorem dX6_slidesOf_20 : decode cX6_slidesOf 20 = .ok (.iaload, 1) := by decide +kernel
theorem dX6_slidesOf_21 : decode cX6_slidesOf 21 = .ok (.bipush 9, 2) := by decide +kernel
theorem dX6_slidesOf_23 : decode cX6_slidesOf 23 = .ok (.if_icmp .ge 14, 3) := by decide +kernel
theorem dX6_slidesOf_26 : decode cX6_slidesOf 26 = .ok (.aload_n 0, 1) := by decide +kernel
theorem dX6_slidesOf_27 : decode cX6_slidesOf 27 = .ok (.getfield 62, 3) := by decide +kernel
theorem dX6_slidesOf_30 : decode cX6_slidesOf 30 = .ok (.iload_n 2, 1) := by decide +kernel
theorem dX6_slidesOf_31 : decode cX6_slidesOf 31 = .ok (.iaload, 1) := by decide +kernel
theorem dX6_slidesOf_32 : decode cX6_slidesOf 32 = .ok (.iconst 1, 1) := by decide +kernel
theorem dX6_slidesOf_33 : decode cX6_slidesOf 33 = .ok (.iadd, 1) := by decide +kernel
theorem dX6_slidesOf_34 : decode cX6_slidesOf 34 = .ok (.goto 5, 3) := by decide +kernel
theorem dX6_slidesOf_37 : decode cX6_slidesOf 37 = .ok (.bipush 9, 2) := by decide +kernel
theorem dX6_slidesOf_39 : decode cX6_slidesOf 39 = .ok (.iastore, 1) := by decide +kernel
theorem dX6_slidesOf_40 : decode cX6_slidesOf 40 = .ok (.iinc 2 1, 3) := by decide +kernel
theorem dX6_slidesOf_43 : decode cX6_slidesOf 43 = .ok (.goto (-39), 3) := by decide +kernel
theorem dX6_slidesOf_46 : decode cX6_slidesOf 46 = .ok (.iconst 0, 1) := by decide +kernel
theorem dX6_slidesOf_47 : decode cX6_slidesOf 47 = .ok (.istore_n 2, 1) := by decide +kernel
theorem dX6_slidesOf_48 : decode cX6_slidesOf 48 = .ok (.iload_n 2, 1) := by decide +kernel
theorem dX6_slidesOf_49 : decode cX6_slidesOf 49 = .ok (.bipush 6, 2) := by decide +kernel
theorem dX6_slidesOf_51 : decode cX6_slidesOf 51 = .ok (.if_icmp .ge 71, 3) := by decide +kernel
theorem dX6_slidesOf_54 : decode cX6_slidesOf 54 = .ok (.aload_n 0, 1) := by decide +kernel
theorem dX6_slidesOf_55 : decode cX6_slidesOf 55 = .ok (.getfield 62, 3) := by decide +kernel
theorem dX6_slidesOf_58 : decode cX6_slidesOf 58 = .ok (.iload_n 2, 1) := by decide +kernel
theorem dX6_slidesOf_59 : decode cX6_slidesOf 59 = .ok (.iaload, 1) := by decide +kernel
theorem dX6_slidesOf_60 : decode cX6_slidesOf 60 = .ok (.iload_n 2, 1) := by decide +kernel
theorem dX6_slidesOf_61 : decode cX6_slidesOf 61 = .ok (.ifCond .le 14, 3) := by decide +kernel
theorem dX6_slidesOf_64 : decode cX6_slidesOf 64 = .ok (.aload_n 0, 1) := by decide +kernel
theorem dX6_slidesOf_65 : decode cX6_slidesOf 65 = .ok (.getfield 62, 3) := by decide +kernel
theorem dX6_slidesOf_68 : decode cX6_slidesOf 68 = .ok (.iload_n 2, 1) := by decide +kernel
theorem dX6_slidesOf_69 : decode cX6_slidesOf 69 = .ok (.iconst 1, 1) := by decide +kernel
theorem dX6_slidesOf_70 : decode cX6_slidesOf 70 = .ok (.isub, 1) := by decide +kernel
theorem dX6_slidesOf_71 : decode cX6_slidesOf 71 = .ok (.iaload, 1) := by decide +kernel
theorem dX6_slidesOf_72 : decode cX6_slidesOf 72 = .ok (.goto 4, 3) := by decide +kernel
theorem dX6_slidesOf_75 : decode cX6_slidesOf 75 = .ok (.iconst 0, 1) := by decide +kernel
theorem dX6_slidesOf_76 : decode cX6_slidesOf 76 = .ok (.iadd, 1) := by decide +kernel
theorem dX6_slidesOf_77 : decode cX6_slidesOf 77 = .ok (.iload_n 2, 1) := by decide +kernel
theorem dX6_slidesOf_78 : decode cX6_slidesOf 78 = .ok (.iconst 5, 1) := by decide +kernel
theorem dX6_slidesOf_79 : decode cX6_slidesOf 79 = .ok (.if_icmp .ge 14, 3) := by decide +kernel
theorem dX6_slidesOf_82 : decode cX6_slidesOf 82 = .ok (.aload_n 0, 1) := by decide +kernel
theorem dX6_slidesOf_83 : decode cX6_slidesOf 83 = .ok (.getfield 62, 3) := by decide +kernel
theorem dX6_slidesOf_86 : decode cX6_slidesOf 86 = .ok (.iload_n 2, 1) := by decide +kernel
theorem dX6_slidesOf_87 : decode cX6_slidesOf 87 = .ok (.iconst 1, 1) := by decide +kernel
theorem dX6_slidesOf_88 : decode cX6_slidesOf 88 = .ok (.iadd, 1) := by decide +kernel
theorem dX6_slidesOf_89 : decode cX6_slidesOf 89 = .ok (.iaload, 1) := by decide +kernel
theorem dX6_slidesOf_90 : decode cX6_slidesOf 90 = .ok (.goto 4, 3) := by decide +kernel
theorem dX6_slidesOf_93 : decode cX6_slidesOf 93 = .ok (.iconst 0, 1) := by decide +kernel
theorem dX6_slidesOf_94 : decode cX6_slidesOf 94 = .ok (.iadd, 1) := by decide +kernel
theorem dX6_slidesOf_95 : decode cX6_slidesOf 95 = .ok (.istore_n 3, 1) := by decide +kernel
theorem dX6_slidesOf_96 : decode cX6_slidesOf 96 = .ok (.iload_n 1, 1) := by decide +kernel
theorem dX6_slidesOf_97 : decode cX6_slidesOf 97 = .ok (.iload_n 3, 1) := by decide +kernel
theorem dX6_slidesOf_98 : decode cX6_slidesOf 98 = .ok (.aload_n 0, 1) := by decide +kernel
theorem dX6_slidesOf_99 : decode cX6_slidesOf 99 = .ok (.getfield 13, 3) := by decide +kernel
theorem dX6_slidesOf_102 : decode cX6_slidesOf 102 = .ok (.iconst 3, 1) := by decide +kernel
theorem dX6_slidesOf_103 : decode cX6_slidesOf 103 = .ok (.iaload, 1) := by decide +kernel
theorem dX6_slidesOf_104 : decode cX6_slidesOf 104 = .ok (.if_icmp .lt 9, 3) := by decide +kernel
theorem dX6_slidesOf_107 : decode cX6_slidesOf 107 = .ok (.iconst 1, 1) := by decide +kernel
theorem dX6_slidesOf_108 : decode cX6_slidesOf 108 = .ok (.iload_n 2, 1) := by decide +kernel
theorem dX6_slidesOf_109 : decode cX6_slidesOf 109 = .ok (.ishl, 1) := by decide +kernel
theorem dX6_slidesOf_110 : decode cX6_slidesOf 110 = .ok (.goto 4, 3) := by decide +kernel
theorem dX6_slidesOf_113 : decode cX6_slidesOf 113 = .ok (.iconst 0, 1) := by decide +kernel
theorem dX6_slidesOf_114 : decode cX6_slidesOf 114 = .ok (.ior, 1) := by decide +kernel
theorem dX6_slidesOf_115 : decode cX6_slidesOf 115 = .ok (.istore_n 1, 1) := by decide +kernel
theorem dX6_slidesOf_116 : decode cX6_slidesOf 116 = .ok (.iinc 2 1, 3) := by decide +kernel
theorem dX6_slidesOf_119 : decode cX6_slidesOf 119 = .ok (.goto (-71), 3) := by decide +kernel
theorem dX6_slidesOf_122 : decode cX6_slidesOf 122 = .ok (.iconst 0, 1) := by decide +kernel
theorem dX6_slidesOf_123 : decode cX6_slidesOf 123 = .ok (.istore_n 2, 1) := by decide +kernel
theorem dX6_slidesOf_124 : decode cX6_slidesOf 124 = .ok (.iload_n 2, 1) := by decide +kernel
theorem dX6_slidesOf_125 : decode cX6_slidesOf 125 = .ok (.bipush 6, 2) := by decide +kernel
theorem dX6_slidesOf_127 : decode cX6_slidesOf 127 = .ok (.if_icmp .ge 34, 3) := by decide +kernel
theorem dX6_slidesOf_130 : decode cX6_slidesOf 130 = .ok (.aload_n 0, 1) := by decide +kernel
theorem dX6_slidesOf_131 : decode cX6_slidesOf 131 = .ok (.getfield 62, 3) := by decide +kernel
theorem dX6_slidesOf_134 : decode cX6_slidesOf 134 = .ok (.iload_n 2, 1) := by decide +kernel
theorem dX6_slidesOf_135 : decode cX6_slidesOf 135 = .ok (.iload_n 1, 1) := by decide +kernel
theorem dX6_slidesOf_136 : decode cX6_slidesOf 136 = .ok (.iload_n 2, 1) := by decide +kernel
theorem dX6_slidesOf_137 : decode cX6_slidesOf 137 = .ok (.ishr, 1) := by decide +kernel
theorem dX6_slidesOf_138 : decode cX6_slidesOf 138 = .ok (.iconst 1, 1) := by decide +kernel
theorem dX6_slidesOf_139 : decode cX6_slidesOf 139 = .ok (.iand, 1) := by decide +kernel
theorem dX6_slidesOf_140 : decode cX6_slidesOf 140 = .ok (.iconst 1, 1) := by decide +kernel
theorem dX6_slidesOf_141 : decode cX6_slidesOf 141 = .ok (.if_icmp .ne 7, 3) := by decide +kernel
theorem dX6_slidesOf_144 : decode cX6_slidesOf 144 = .ok (.iconst 0, 1) := by decide +kernel
theorem dX6_slidesOf_145 : decode cX6_slidesOf 145 = .ok (.goto 9, 3) := by decide +kernel
theorem dX6_slidesOf_148 : decode cX6_slidesOf 148 = .ok (.aload_n 0, 1) := by decide +kernel
theorem dX6_slidesOf_149 : decode cX6_slidesOf 149 = .ok (.getfield 62, 3) := by decide +kernel
theorem dX6_slidesOf_152 : decode cX6_slidesOf 152 = .ok (.iload_n 2, 1) := by decide +kernel
theorem dX6_slidesOf_153 : decode cX6_slidesOf 153 = .ok (.iaload, 1) := by decide +kernel
theorem dX6_slidesOf_154 : decode cX6_slidesOf 154 = .ok (.iastore, 1) := by decide +kernel
theorem dX6_slidesOf_155 : decode cX6_slidesOf 155 = .ok (.iinc 2 1, 3) := by decide +kernel
theorem dX6_slidesOf_158 : decode cX6_slidesOf 158 = .ok (.goto (-34), 3) := by decide +kernel
theorem dX6_slidesOf_161 : decode cX6_slidesOf 161 = .ok (.iload_n 1, 1) := by decide +kernel
theorem dX6_slidesOf_162 : decode cX6_slidesOf 162 = .ok (.ireturn, 1) := by decide +kernel
theorem dX6_wetNow_0 : decode cX6_wetNow 0 = .ok (.iconst 0, 1) := by decide +kernel
theorem dX6_wetNow_1 : decode cX6_wetNow 1 = .ok (.istore_n 1, 1) := by decide +kernel
theorem dX6_wetNow_2 : decode cX6_wetNow 2 = .ok (.iload_n 1, 1) := by decide +kernel
theorem dX6_wetNow_3 : decode cX6_wetNow 3 = .ok (.bipush 6, 2) := by decide +kernel
theorem dX6_wetNow_5 : decode cX6_wetNow 5 = .ok (.if_icmp .ge 24, 3) := by decide +kernel
theorem dX6_wetNow_8 : decode cX6_wetNow 8 = .ok (.aload_n 0, 1) := by decide +kernel
theorem dX6_wetNow_9 : decode cX6_wetNow 9 = .ok (.getfield 62, 3) := by decide +kernel
theorem dX6_wetNow_12 : decode cX6_wetNow 12 = .ok (.iload_n 1, 1) := by decide +kernel
theorem dX6_wetNow_13 : decode cX6_wetNow 13 = .ok (.aload_n 0, 1) := by decide +kernel
theorem dX6_wetNow_14 : decode cX6_wetNow 14 = .ok (.getfield 46, 3) := by decide +kernel
theorem dX6_wetNow_17 : decode cX6_wetNow 17 = .ok (.bipush 7, 2) := by decide +kernel
theorem dX6_wetNow_19 : decode cX6_wetNow 19 = .ok (.iload_n 1, 1) := by decide +kernel
theorem dX6_wetNow_20 : decode cX6_wetNow 20 = .ok (.iadd, 1) := by decide +kernel
theorem dX6_wetNow_21 : decode cX6_wetNow 21 = .ok (.iaload, 1) := by decide +kernel
theorem dX6_wetNow_22 : decode cX6_wetNow 22 = .ok (.iastore, 1) := by decide +kernel
theorem dX6_wetNow_23 : decode cX6_wetNow 23 = .ok (.iinc 1 1, 3) := by decide +kernel
theorem dX6_wetNow_26 : decode cX6_wetNow 26 = .ok (.goto (-24), 3) := by decide +kernel
theorem dX6_wetNow_29 : decode cX6_wetNow 29 = .ok (.return_, 1) := by decide +kernel
theorem dX6_slides_0 : decode cX6_slides 0 = .ok (.aload_n 0, 1) := by decide +kernel
theorem dX6_slides_1 : decode cX6_slides 1 = .ok (.invokevirtual 154, 3) := by decide +kernel
theorem dX6_slides_4 : decode cX6_slides 4 = .ok (.iconst 1, 1) := by decide +kernel
theorem dX6_slides_5 : decode cX6_slides 5 = .ok (.istore_n 2, 1) := by decide +kernel
theorem dX6_slides_6 : decode cX6_slides 6 = .ok (.iload_n 2, 1) := by decide +kernel
theorem dX6_slides_7 : decode cX6_slides 7 = .ok (.bipush 50, 2) := by decide +kernel
theorem dX6_slides_9 : decode cX6_slides 9 = .ok (.if_icmp .gt 23, 3) := by decide +kernel
theorem dX6_slides_12 : decode cX6_slides 12 = .ok (.aload_n 0, 1) := by decide +kernel
theorem dX6_slides_13 : decode cX6_slides 13 = .ok (.invokevirtual 157, 3) := by decide +kernel
theorem dX6_slides_16 : decode cX6_slides 16 = .ok (.iload_n 1, 1) := by decide +kernel
theorem dX6_slides_17 : decode cX6_slides 17 = .ok (.ishr, 1) := by decide +kernel
theorem dX6_slides_18 : decode cX6_slides 18 = .ok (.iconst 1, 1) := by decide +kernel
theorem dX6_slides_19 : decode cX6_slides 19 = .ok (.iand, 1) := by decide +kernel
theorem dX6_slides_20 : decode cX6_slides 20 = .ok (.iconst 1, 1) := by decide +kernel
theorem dX6_slides_21 : decode cX6_slides 21 = .ok (.if_icmp .ne 5, 3) := by decide +kernel
theorem dX6_slides_24 : decode cX6_slides 24 = .ok (.iload_n 2, 1) := by decide +kernel
theorem dX6_slides_25 : decode cX6_slides 25 = .ok (.ireturn, 1) := by decide +kernel
theorem dX6_slides_26 : decode cX6_slides 26 = .ok (.iinc 2 1, 3) := by decide +kernel
theorem dX6_slides_29 : decode cX6_slides 29 = .ok (.goto (-23), 3) := by decide +kernel
theorem dX6_slides_32 : decode cX6_slides 32 = .ok (.bipush (-9), 2) := by decide +kernel
theorem dX6_slides_34 : decode cX6_slides 34 = .ok (.ireturn, 1) := by decide +kernel
theorem dX6_cell_0 : decode cX6_cell 0 = .ok (.aload_n 0, 1) := by decide +kernel
theorem dX6_cell_1 : decode cX6_cell 1 = .ok (.iconst 0, 1) := by decide +kernel
theorem dX6_cell_2 : decode cX6_cell 2 = .ok (.putfield 74, 3) := by decide +kernel
theorem dX6_cell_5 : decode cX6_cell 5 = .ok (.iload_n 1, 1) := by decide +kernel
theorem dX6_cell_6 : decode cX6_cell 6 = .ok (.invokestatic 161, 3) := by decide +kernel
theorem dX6_cell_9 : decode cX6_cell 9 = .ok (.ifCond .eq 12, 3) := by decide +kernel
theorem dX6_cell_12 : decode cX6_cell 12 = .ok (.iload_n 2, 1) := by decide +kernel
theorem dX6_cell_13 : decode cX6_cell 13 = .ok (.iconst 0, 1) := by decide +kernel
theorem dX6_cell_14 : decode cX6_cell 14 = .ok (.iconst 3, 1) := by decide +kernel
theorem dX6_cell_15 : decode cX6_cell 15 = .ok (.invokestatic 78, 3) := by decide +kernel
theorem dX6_cell_18 : decode cX6_cell 18 = .ok (.ifCond .ne 5, 3) := by decide +kernel
theorem dX6_cell_21 : decode cX6_cell 21 = .ok (.iconst (-1), 1) := by decide +kernel
theorem dX6_cell_22 : decode cX6_cell 22 = .ok (.ireturn, 1) := by decide +kernel
theorem dX6_cell_23 : decode cX6_cell 23 = .ok (.iload_n 2, 1) := by decide +kernel
theorem dX6_cell_24 : decode cX6_cell 24 = .ok (.ifCond .ne 14, 3) := by decide +kernel
theorem dX6_cell_27 : decode cX6_cell 27 = .ok (.aload_n 0, 1) := by decide +kernel
theorem dX6_cell_28 : decode cX6_cell 28 = .ok (.getfield 46, 3) := by decide +kernel
theorem dX6_cell_31 : decode cX6_cell 31 = .ok (.iconst 1, 1) := by decide +kernel
theorem dX6_cell_32 : decode cX6_cell 32 = .ok (.iload_n 1, 1) := by decide +kernel
theorem dX6_cell_33 : decode cX6_cell 33 = .ok (.iadd, 1) := by decide +kernel
theorem dX6_cell_34 : decode cX6_cell 34 = .ok (.iaload, 1) := by decide +kernel
theorem dX6_cell_35 : decode cX6_cell 35 = .ok (.goto 38, 3) := by decide +kernel
theorem dX6_cell_38 : decode cX6_cell 38 = .ok (.iload_n 2, 1) := by decide +kernel
theorem dX6_cell_39 : decode cX6_cell 39 = .ok (.iconst 1, 1) := by decide +kernel
theorem dX6_cell_40 : decode cX6_cell 40 = .ok (.if_icmp .ne 15, 3) := by decide +kernel
theorem dX6_cell_43 : decode cX6_cell 43 = .ok (.aload_n 0, 1) := by decide +kernel
theorem dX6_cell_44 : decode cX6_cell 44 = .ok (.getfield 46, 3) := by decide +kernel
theorem dX6_cell_47 : decode cX6_cell 47 = .ok (.bipush 7, 2) := by decide +kernel
theorem dX6_cell_49 : decode cX6_cell 49 = .ok (.iload_n 1, 1) := by decide +kernel
theorem dX6_cell_50 : decode cX6_cell 50 = .ok (.iadd, 1) := by decide +kernel
theorem dX6_cell_51 : decode cX6_cell 51 = .ok (.iaload, 1) := by decide +kernel
theorem dX6_cell_52 : decode cX6_cell 52 = .ok (.goto 21, 3) := by decide +kernel
theorem dX6_cell_55 : decode cX6_cell 55 = .ok (.iload_n 2, 1) := by decide +kernel
theorem dX6_cell_56 : decode cX6_cell 56 = .ok (.iconst 2, 1) := by decide +kernel
theorem dX6_cell_57 : decode cX6_cell 57 = .ok (.if_icmp .ne 11, 3) := by decide +kernel
theorem dX6_cell_60 : decode cX6_cell 60 = .ok (.aload_n 0, 1) := by decide +kernel
theorem dX6_cell_61 : decode cX6_cell 61 = .ok (.iload_n 1, 1) := by decide +kernel
theorem dX6_cell_62 : decode cX6_cell 62 = .ok (.invokevirtual 164, 3) := by decide +kernel
theorem dX6_cell_65 : decode cX6_cell 65 = .ok (.goto 8, 3) := by decide +kernel
theorem dX6_cell_68 : decode cX6_cell 68 = .ok (.aload_n 0, 1) := by decide +kernel
theorem dX6_cell_69 : decode cX6_cell 69 = .ok (.iload_n 1, 1) := by decide +kernel
theorem dX6_cell_70 : decode cX6_cell 70 = .ok (.invokevirtual 167, 3) := by decide +kernel
theorem dX6_cell_73 : decode cX6_cell 73 = .ok (.ireturn, 1) := by decide +kernel
theorem dX6_now_0 : decode cX6_now 0 = .ok (.aload_n 0, 1) := by decide +kernel
theorem dX6_now_1 : decode cX6_now 1 = .ok (.iconst 0, 1) := by decide +kernel
theorem dX6_now_2 : decode cX6_now 2 = .ok (.putfield 74, 3) := by decide +kernel
theorem dX6_now_5 : decode cX6_now 5 = .ok (.iload_n 1, 1) := by decide +kernel
theorem dX6_now_6 : decode cX6_now 6 = .ok (.iconst 0, 1) := by decide +kernel
theorem dX6_now_7 : decode cX6_now 7 = .ok (.iconst 5, 1) := by decide +kernel
theorem dX6_now_8 : decode cX6_now 8 = .ok (.invokestatic 78, 3) := by decide +kernel
theorem dX6_now_11 : decode cX6_now 11 = .ok (.ifCond .ne 5, 3) := by decide +kernel
theorem dX6_now_14 : decode cX6_now 14 = .ok (.iconst (-1), 1) := by decide +kernel
theorem dX6_now_15 : decode cX6_now 15 = .ok (.ireturn, 1) := by decide +kernel
theorem dX6_now_16 : decode cX6_now 16 = .ok (.iload_n 1, 1) := by decide +kernel
theorem dX6_now_17 : decode cX6_now 17 = .ok (.ifCond .ne 12, 3) := by decide +kernel
theorem dX6_now_20 : decode cX6_now 20 = .ok (.aload_n 0, 1) := by decide +kernel
theorem dX6_now_21 : decode cX6_now 21 = .ok (.getfield 46, 3) := by decide +kernel
theorem dX6_now_24 : decode cX6_now 24 = .ok (.iconst 0, 1) := by decide +kernel
theorem dX6_now_25 : decode cX6_now 25 = .ok (.iaload, 1) := by decide +kernel
theorem dX6_now_26 : decode cX6_now 26 = .ok (.goto 22, 3) := by decide +kernel
theorem dX6_now_29 : decode cX6_now 29 = .ok (.iload_n 1, 1) := by decide +kernel
theorem dX6_now_30 : decode cX6_now 30 = .ok (.iconst 5, 1) := by decide +kernel
theorem dX6_now_31 : decode cX6_now 31 = .ok (.if_icmp .ne 10, 3) := by decide +kernel
theorem dX6_now_34 : decode cX6_now 34 = .ok (.aload_n 0, 1) := by decide +kernel
theorem dX6_now_35 : decode cX6_now 35 = .ok (.getfield 142, 3) := by decide +kernel
theorem dX6_now_38 : decode cX6_now 38 = .ok (.goto 10, 3) := by decide +kernel
theorem dX6_now_41 : decode cX6_now 41 = .ok (.aload_n 0, 1) := by decide +kernel
theorem dX6_now_42 : decode cX6_now 42 = .ok (.iload_n 1, 1) := by decide +kernel
theorem dX6_now_43 : decode cX6_now 43 = .ok (.iconst 1, 1) := by decide +kernel
theorem dX6_now_44 : decode cX6_now 44 = .ok (.isub, 1) := by decide +kernel
theorem dX6_now_45 : decode cX6_now 45 = .ok (.invokevirtual 170, 3) := by decide +kernel
theorem dX6_now_48 : decode cX6_now 48 = .ok (.ireturn, 1) := by decide +kernel
theorem dX6_notes_0 : decode cX6_notes 0 = .ok (.aload_n 0, 1) := by decide +kernel
theorem dX6_notes_1 : decode cX6_notes 1 = .ok (.getfield 142, 3) := by decide +kernel
theorem dX6_notes_4 : decode cX6_notes 4 = .ok (.bipush 10, 2) := by decide +kernel
theorem dX6_notes_6 : decode cX6_notes 6 = .ok (.if_icmp .ne 39, 3) := by decide +kernel
theorem dX6_notes_9 : decode cX6_notes 9 = .ok (.iconst 0, 1) := by decide +kernel
theorem dX6_notes_10 : decode cX6_notes 10 = .ok (.istore_n 1, 1) := by decide +kernel
theorem dX6_notes_11 : decode cX6_notes 11 = .ok (.iload_n 1, 1) := by decide +kernel
theorem dX6_notes_12 : decode cX6_notes 12 = .ok (.sipush 333, 3) := by decide +kernel
theorem dX6_notes_15 : decode cX6_notes 15 = .ok (.if_icmp .ge 24, 3) := by decide +kernel
theorem dX6_notes_18 : decode cX6_notes 18 = .ok (.aload_n 0, 1) := by decide +kernel
theorem dX6_notes_19 : decode cX6_notes 19 = .ok (.getfield 56, 3) := by decide +kernel
theorem dX6_notes_22 : decode cX6_notes 22 = .ok (.iload_n 1, 1) := by decide +kernel
theorem dX6_notes_23 : decode cX6_notes 23 = .ok (.aload_n 0, 1) := by decide +kernel
theorem dX6_notes_24 : decode cX6_notes 24 = .ok (.getfield 56, 3) := by decide +kernel
theorem dX6_notes_27 : decode cX6_notes 27 = .ok (.iload_n 1, 1) := by decide +kernel
theorem dX6_notes_28 : decode cX6_notes 28 = .ok (.bipush 37, 2) := by decide +kernel
theorem dX6_notes_30 : decode cX6_notes 30 = .ok (.iadd, 1) := by decide +kernel
theorem dX6_notes_31 : decode cX6_notes 31 = .ok (.iaload, 1) := by decide +kernel
theorem dX6_notes_32 : decode cX6_notes 32 = .ok (.iastore, 1) := by decide +kernel
theorem dX6_notes_33 : decode cX6_notes 33 = .ok (.iinc 1 1, 3) := by decide +kernel
theorem dX6_notes_36 : decode cX6_notes 36 = .ok (.goto (-25), 3) := by decide +kernel
theorem dX6_notes_39 : decode cX6_notes 39 = .ok (.aload_n 0, 1) := by decide +kernel
theorem dX6_notes_40 : decode cX6_notes 40 = .ok (.bipush 9, 2) := by decide +kernel
theorem dX6_notes_42 : decode cX6_notes 42 = .ok (.putfield 142, 3) := by decide +kernel
theorem dX6_notes_45 : decode cX6_notes 45 = .ok (.iconst 0, 1) := by decide +kernel
theorem dX6_notes_46 : decode cX6_notes 46 = .ok (.istore_n 1, 1) := by decide +kernel
theorem dX6_notes_47 : decode cX6_notes 47 = .ok (.iload_n 1, 1) := by decide +kernel
theorem dX6_notes_48 : decode cX6_notes 48 = .ok (.bipush 37, 2) := by decide +kernel
theorem dX6_notes_50 : decode cX6_notes 50 = .ok (.if_icmp .ge 29, 3) := by decide +kernel
theorem dX6_notes_53 : decode cX6_notes 53 = .ok (.aload_n 0, 1) := by decide +kernel
theorem dX6_notes_54 : decode cX6_notes 54 = .ok (.getfield 56, 3) := by decide +kernel
theorem dX6_notes_57 : decode cX6_notes 57 = .ok (.bipush 37, 2) := by decide +kernel
theorem dX6_notes_59 : decode cX6_notes 59 = .ok (.aload_n 0, 1) := by decide +kernel
theorem dX6_notes_60 : decode cX6_notes 60 = .ok (.getfield 142, 3) := by decide +kernel
theorem dX6_notes_63 : decode cX6_notes 63 = .ok (.imul, 1) := by decide +kernel
theorem dX6_notes_64 : decode cX6_notes 64 = .ok (.iload_n 1, 1) := by decide +kernel
theorem dX6_notes_65 : decode cX6_notes 65 = .ok (.iadd, 1) := by decide +kernel
theorem dX6_notes_66 : decode cX6_notes 66 = .ok (.aload_n 0, 1) := by decide +kernel
theorem dX6_notes_67 : decode cX6_notes 67 = .ok (.getfield 46, 3) := by decide +kernel
theorem dX6_notes_70 : decode cX6_notes 70 = .ok (.iload_n 1, 1) := by decide +kernel
theorem dX6_notes_71 : decode cX6_notes 71 = .ok (.iaload, 1) := by decide +kernel
theorem dX6_notes_72 : decode cX6_notes 72 = .ok (.iastore, 1) := by decide +kernel
theorem dX6_notes_73 : decode cX6_notes 73 = .ok (.iinc 1 1, 3) := by decide +kernel
theorem dX6_notes_76 : decode cX6_notes 76 = .ok (.goto (-29), 3) := by decide +kernel
theorem dX6_notes_79 : decode cX6_notes 79 = .ok (.aload_n 0, 1) := by decide +kernel
theorem dX6_notes_80 : decode cX6_notes 80 = .ok (.dup, 1) := by decide +kernel
theorem dX6_notes_81 : decode cX6_notes 81 = .ok (.getfield 142, 3) := by decide +kernel
theorem dX6_notes_84 : decode cX6_notes 84 = .ok (.iconst 1, 1) := by decide +kernel
theorem dX6_notes_85 : decode cX6_notes 85 = .ok (.iadd, 1) := by decide +kernel
theorem dX6_notes_86 : decode cX6_notes 86 = .ok (.putfield 142, 3) := by decide +kernel
theorem dX6_notes_89 : decode cX6_notes 89 = .ok (.return_, 1) := by decide +kernel
theorem dX6_cuts_0 : decode cX6_cuts 0 = .ok (.aload_n 0, 1) := by decide +kernel
theorem dX6_cuts_1 : decode cX6_cuts 1 = .ok (.iconst 0, 1) := by decide +kernel
theorem dX6_cuts_2 : decode cX6_cuts 2 = .ok (.putfield 74, 3) := by decide +kernel
theorem dX6_cuts_5 : decode cX6_cuts 5 = .ok (.iload_n 1, 1) := by decide +kernel
theorem dX6_cuts_6 : decode cX6_cuts 6 = .ok (.invokestatic 161, 3) := by decide +kernel
theorem dX6_cuts_9 : decode cX6_cuts 9 = .ok (.ifCond .ne 5, 3) := by decide +kernel
theorem dX6_cuts_12 : decode cX6_cuts 12 = .ok (.iconst (-1), 1) := by decide +kernel
theorem dX6_cuts_13 : decode cX6_cuts 13 = .ok (.ireturn, 1) := by decide +kernel
theorem dX6_cuts_14 : decode cX6_cuts 14 = .ok (.aload_n 0, 1) := by decide +kernel
theorem dX6_cuts_15 : decode cX6_cuts 15 = .ok (.getfield 46, 3) := by decide +kernel
theorem dX6_cuts_18 : decode cX6_cuts 18 = .ok (.iconst 1, 1) := by decide +kernel
theorem dX6_cuts_19 : decode cX6_cuts 19 = .ok (.iload_n 1, 1) := by decide +kernel
theorem dX6_cuts_20 : decode cX6_cuts 20 = .ok (.iadd, 1) := by decide +kernel
theorem dX6_cuts_21 : decode cX6_cuts 21 = .ok (.iaload, 1) := by decide +kernel
theorem dX6_cuts_22 : decode cX6_cuts 22 = .ok (.bipush 6, 2) := by decide +kernel
theorem dX6_cuts_24 : decode cX6_cuts 24 = .ok (.if_icmp .ne 6, 3) := by decide +kernel
theorem dX6_cuts_27 : decode cX6_cuts 27 = .ok (.bipush (-2), 2) := by decide +kernel
theorem dX6_cuts_29 : decode cX6_cuts 29 = .ok (.ireturn, 1) := by decide +kernel
theorem dX6_cuts_30 : decode cX6_cuts 30 = .ok (.aload_n 0, 1) := by decide +kernel
theorem dX6_cuts_31 : decode cX6_cuts 31 = .ok (.invokevirtual 173, 3) := by decide +kernel
theorem dX6_cuts_34 : decode cX6_cuts 34 = .ok (.iconst 0, 1) := by decide +kernel
theorem dX6_cuts_35 : decode cX6_cuts 35 = .ok (.istore_n 2, 1) := by decide +kernel
theorem dX6_cuts_36 : decode cX6_cuts 36 = .ok (.aload_n 0, 1) := by decide +kernel
theorem dX6_cuts_37 : decode cX6_cuts 37 = .ok (.iload_n 1, 1) := by decide +kernel
theorem dX6_cuts_38 : decode cX6_cuts 38 = .ok (.invokevirtual 164, 3) := by decide +kernel
theorem dX6_cuts_41 : decode cX6_cuts 41 = .ok (.istore_n 3, 1) := by decide +kernel
theorem dX6_cuts_42 : decode cX6_cuts 42 = .ok (.iconst 0, 1) := by decide +kernel
theorem dX6_cuts_43 : decode cX6_cuts 43 = .ok (.istore 4, 2) := by decide +kernel
theorem dX6_cuts_45 : decode cX6_cuts 45 = .ok (.iload 4, 2) := by decide +kernel
theorem dX6_cuts_47 : decode cX6_cuts 47 = .ok (.aload_n 0, 1) := by decide +kernel
theorem dX6_cuts_48 : decode cX6_cuts 48 = .ok (.getfield 13, 3) := by decide +kernel
theorem dX6_cuts_51 : decode cX6_cuts 51 = .ok (.iconst 1, 1) := by decide +kernel
theorem dX6_cuts_52 : decode cX6_cuts 52 = .ok (.iaload, 1) := by decide +kernel
theorem dX6_cuts_53 : decode cX6_cuts 53 = .ok (.if_icmp .ge 67, 3) := by decide +kernel
theorem dX6_cuts_56 : decode cX6_cuts 56 = .ok (.iload_n 3, 1) := by decide +kernel
theorem dX6_cuts_57 : decode cX6_cuts 57 = .ok (.iload 4, 2) := by decide +kernel
theorem dX6_cuts_59 : decode cX6_cuts 59 = .ok (.ishr, 1) := by decide +kernel
theorem dX6_cuts_60 : decode cX6_cuts 60 = .ok (.iconst 1, 1) := by decide +kernel
theorem dX6_cuts_61 : decode cX6_cuts 61 = .ok (.iand, 1) := by decide +kernel
theorem dX6_cuts_62 : decode cX6_cuts 62 = .ok (.iconst 1, 1) := by decide +kernel
theorem dX6_cuts_63 : decode cX6_cuts 63 = .ok (.if_icmp .ne 51, 3) := by decide +kernel
theorem dX6_cuts_66 : decode cX6_cuts 66 = .ok (.aload_n 0, 1) := by decide +kernel
theorem dX6_cuts_67 : decode cX6_cuts 67 = .ok (.getfield 28, 3) := by decide +kernel
theorem dX6_cuts_70 : decode cX6_cuts 70 = .ok (.iload 4, 2) := by decide +kernel
theorem dX6_cuts_72 : decode cX6_cuts 72 = .ok (.iaload, 1) := by decide +kernel
theorem dX6_cuts_73 : decode cX6_cuts 73 = .ok (.aload_n 0, 1) := by decide +kernel
theorem dX6_cuts_74 : decode cX6_cuts 74 = .ok (.getfield 46, 3) := by decide +kernel
theorem dX6_cuts_77 : decode cX6_cuts 77 = .ok (.iconst 1, 1) := by decide +kernel
theorem dX6_cuts_78 : decode cX6_cuts 78 = .ok (.iload_n 1, 1) := by decide +kernel
theorem dX6_cuts_79 : decode cX6_cuts 79 = .ok (.iadd, 1) := by decide +kernel
theorem dX6_cuts_80 : decode cX6_cuts 80 = .ok (.iaload, 1) := by decide +kernel
theorem dX6_cuts_81 : decode cX6_cuts 81 = .ok (.if_icmp .ne 33, 3) := by decide +kernel
theorem dX6_cuts_84 : decode cX6_cuts 84 = .ok (.aload_n 0, 1) := by decide +kernel
theorem dX6_cuts_85 : decode cX6_cuts 85 = .ok (.getfield 46, 3) := by decide +kernel
theorem dX6_cuts_88 : decode cX6_cuts 88 = .ok (.bipush 21, 2) := by decide +kernel
theorem dX6_cuts_90 : decode cX6_cuts 90 = .ok (.iload 4, 2) := by decide +kernel
theorem dX6_cuts_92 : decode cX6_cuts 92 = .ok (.iadd, 1) := by decide +kernel
theorem dX6_cuts_93 : decode cX6_cuts 93 = .ok (.aload_n 0, 1) := by decide +kernel
theorem dX6_cuts_94 : decode cX6_cuts 94 = .ok (.iload 4, 2) := by decide +kernel
theorem dX6_cuts_96 : decode cX6_cuts 96 = .ok (.invokevirtual 151, 3) := by decide +kernel
theorem dX6_cuts_99 : decode cX6_cuts 99 = .ok (.iastore, 1) := by decide +kernel
theorem dX6_cuts_100 : decode cX6_cuts 100 = .ok (.aload_n 0, 1) := by decide +kernel
theorem dX6_cuts_101 : decode cX6_cuts 101 = .ok (.getfield 46, 3) := by decide +kernel
theorem dX6_cuts_104 : decode cX6_cuts 104 = .ok (.bipush 13, 2) := by decide +kernel
theorem dX6_cuts_106 : decode cX6_cuts 106 = .ok (.iload 4, 2) := by decide +kernel
theorem dX6_cuts_108 : decode cX6_cuts 108 = .ok (.iadd, 1) := by decide +kernel
theorem dX6_cuts_109 : decode cX6_cuts 109 = .ok (.iconst 1, 1) := by decide +kernel
theorem dX6_cuts_110 : decode cX6_cuts 110 = .ok (.iastore, 1) := by decide +kernel
theorem dX6_cuts_111 : decode cX6_cuts 111 = .ok (.iinc 2 1, 3) := by decide +kernel
theorem dX6_cuts_114 : decode cX6_cuts 114 = .ok (.iinc 4 1, 3) := by decide +kernel
theorem dX6_cuts_117 : decode cX6_cuts 117 = .ok (.goto (-72), 3) := by decide +kernel
theorem dX6_cuts_120 : decode cX6_cuts 120 = .ok (.aload_n 0, 1) := by decide +kernel
theorem dX6_cuts_121 : decode cX6_cuts 121 = .ok (.getfield 46, 3) := by decide +kernel
theorem dX6_cuts_124 : decode cX6_cuts 124 = .ok (.iconst 1, 1) := by decide +kernel
theorem dX6_cuts_125 : decode cX6_cuts 125 = .ok (.iload_n 1, 1) := by decide +kernel
theorem dX6_cuts_126 : decode cX6_cuts 126 = .ok (.iadd, 1) := by decide +kernel
theorem dX6_cuts_127 : decode cX6_cuts 127 = .ok (.dup2, 1) := by decide +kernel
theorem dX6_cuts_128 : decode cX6_cuts 128 = .ok (.iaload, 1) := by decide +kernel
theorem dX6_cuts_129 : decode cX6_cuts 129 = .ok (.iconst 1, 1) := by decide +kernel
theorem dX6_cuts_130 : decode cX6_cuts 130 = .ok (.iadd, 1) := by decide +kernel
theorem dX6_cuts_131 : decode cX6_cuts 131 = .ok (.iastore, 1) := by decide +kernel
theorem dX6_cuts_132 : decode cX6_cuts 132 = .ok (.iload_n 2, 1) := by decide +kernel
theorem dX6_cuts_133 : decode cX6_cuts 133 = .ok (.ireturn, 1) := by decide +kernel
theorem dX6_drains_0 : decode cX6_drains 0 = .ok (.aload_n 0, 1) := by decide +kernel
theorem dX6_drains_1 : decode cX6_drains 1 = .ok (.iconst 0, 1) := by decide +kernel
theorem dX6_drains_2 : decode cX6_drains 2 = .ok (.putfield 74, 3) := by decide +kernel
theorem dX6_drains_5 : decode cX6_drains 5 = .ok (.iload_n 1, 1) := by decide +kernel
theorem dX6_drains_6 : decode cX6_drains 6 = .ok (.invokestatic 161, 3) := by decide +kernel
theorem dX6_drains_9 : decode cX6_drains 9 = .ok (.ifCond .ne 5, 3) := by decide +kernel
theorem dX6_drains_12 : decode cX6_drains 12 = .ok (.iconst (-1), 1) := by decide +kernel
theorem dX6_drains_13 : decode cX6_drains 13 = .ok (.ireturn, 1) := by decide +kernel
theorem dX6_drains_14 : decode cX6_drains 14 = .ok (.aload_n 0, 1) := by decide +kernel
theorem dX6_drains_15 : decode cX6_drains 15 = .ok (.getfield 46, 3) := by decide +kernel
theorem dX6_drains_18 : decode cX6_drains 18 = .ok (.bipush 7, 2) := by decide +kernel
theorem dX6_drains_20 : decode cX6_drains 20 = .ok (.iload_n 1, 1) := by decide +kernel
theorem dX6_drains_21 : decode cX6_drains 21 = .ok (.iadd, 1) := by decide +kernel
theorem dX6_drains_22 : decode cX6_drains 22 = .ok (.iaload, 1) := by decide +kernel
theorem dX6_drains_23 : decode cX6_drains 23 = .ok (.ifCond .ne 6, 3) := by decide +kernel
theorem dX6_drains_26 : decode cX6_drains 26 = .ok (.bipush (-2), 2) := by decide +kernel
theorem dX6_drains_28 : decode cX6_drains 28 = .ok (.ireturn, 1) := by decide +kernel
theorem dX6_drains_29 : decode cX6_drains 29 = .ok (.aload_n 0, 1) := by decide +kernel
theorem dX6_drains_30 : decode cX6_drains 30 = .ok (.invokevirtual 173, 3) := by decide +kernel
theorem dX6_drains_33 : decode cX6_drains 33 = .ok (.aload_n 0, 1) := by decide +kernel
theorem dX6_drains_34 : decode cX6_drains 34 = .ok (.getfield 46, 3) := by decide +kernel
theorem dX6_drains_37 : decode cX6_drains 37 = .ok (.bipush 7, 2) := by decide +kernel
theorem dX6_drains_39 : decode cX6_drains 39 = .ok (.iload_n 1, 1) := by decide +kernel
theorem dX6_drains_40 : decode cX6_drains 40 = .ok (.iadd, 1) := by decide +kernel
theorem dX6_drains_41 : decode cX6_drains 41 = .ok (.iaload, 1) := by decide +kernel
theorem dX6_drains_42 : decode cX6_drains 42 = .ok (.istore_n 2, 1) := by decide +kernel
theorem dX6_drains_43 : decode cX6_drains 43 = .ok (.aload_n 0, 1) := by decide +kernel
theorem dX6_drains_44 : decode cX6_drains 44 = .ok (.getfield 46, 3) := by decide +kernel
theorem dX6_drains_47 : decode cX6_drains 47 = .ok (.bipush 7, 2) := by decide +kernel
theorem dX6_drains_49 : decode cX6_drains 49 = .ok (.iload_n 1, 1) := by decide +kernel
theorem dX6_drains_50 : decode cX6_drains 50 = .ok (.iadd, 1) := by decide +kernel
theorem dX6_drains_51 : decode cX6_drains 51 = .ok (.iconst 0, 1) := by decide +kernel
theorem dX6_drains_52 : decode cX6_drains 52 = .ok (.iastore, 1) := by decide +kernel
theorem dX6_drains_53 : decode cX6_drains 53 = .ok (.iconst 0, 1) := by decide +kernel
theorem dX6_drains_54 : decode cX6_drains 54 = .ok (.istore_n 3, 1) := by decide +kernel
theorem dX6_drains_55 : decode cX6_drains 55 = .ok (.iload_n 3, 1) := by decide +kernel
theorem dX6_drains_56 : decode cX6_drains 56 = .ok (.aload_n 0, 1) := by decide +kernel
theorem dX6_drains_57 : decode cX6_drains 57 = .ok (.getfield 13, 3) := by decide +kernel
theorem dX6_drains_60 : decode cX6_drains 60 = .ok (.iconst 1, 1) := by decide +kernel
theorem dX6_drains_61 : decode cX6_drains 61 = .ok (.iaload, 1) := by decide +kernel
theorem dX6_drains_62 : decode cX6_drains 62 = .ok (.if_icmp .ge 53, 3) := by decide +kernel
theorem dX6_drains_65 : decode cX6_drains 65 = .ok (.aload_n 0, 1) := by decide +kernel
theorem dX6_drains_66 : decode cX6_drains 66 = .ok (.getfield 46, 3) := by decide +kernel
theorem dX6_drains_69 : decode cX6_drains 69 = .ok (.bipush 29, 2) := by decide +kernel
theorem dX6_drains_71 : decode cX6_drains 71 = .ok (.iload_n 3, 1) := by decide +kernel
theorem dX6_drains_72 : decode cX6_drains 72 = .ok (.iadd, 1) := by decide +kernel
theorem dX6_drains_73 : decode cX6_drains 73 = .ok (.dup2, 1) := by decide +kernel
theorem dX6_drains_74 : decode cX6_drains 74 = .ok (.iaload, 1) := by decide +kernel
theorem dX6_drains_75 : decode cX6_drains 75 = .ok (.aload_n 0, 1) := by decide +kernel
theorem dX6_drains_76 : decode cX6_drains 76 = .ok (.iload_n 1, 1) := by decide +kernel
theorem dX6_drains_77 : decode cX6_drains 77 = .ok (.invokevirtual 164, 3) := by decide +kernel
theorem dX6_drains_80 : decode cX6_drains 80 = .ok (.iload_n 3, 1) := by decide +kernel
theorem dX6_drains_81 : decode cX6_drains 81 = .ok (.ishr, 1) := by decide +kernel
theorem dX6_drains_82 : decode cX6_drains 82 = .ok (.iconst 1, 1) := by decide +kernel
theorem dX6_drains_83 : decode cX6_drains 83 = .ok (.iand, 1) := by decide +kernel
theorem dX6_drains_84 : decode cX6_drains 84 = .ok (.iconst 1, 1) := by decide +kernel
theorem dX6_drains_85 : decode cX6_drains 85 = .ok (.if_icmp .ne 21, 3) := by decide +kernel
theorem dX6_drains_88 : decode cX6_drains 88 = .ok (.aload_n 0, 1) := by decide +kernel
theorem dX6_drains_89 : decode cX6_drains 89 = .ok (.getfield 46, 3) := by decide +kernel
theorem dX6_drains_92 : decode cX6_drains 92 = .ok (.bipush 29, 2) := by decide +kernel
theorem dX6_drains_94 : decode cX6_drains 94 = .ok (.iload_n 3, 1) := by decide +kernel
theorem dX6_drains_95 : decode cX6_drains 95 = .ok (.iadd, 1) := by decide +kernel
theorem dX6_drains_96 : decode cX6_drains 96 = .ok (.iaload, 1) := by decide +kernel
theorem dX6_drains_97 : decode cX6_drains 97 = .ok (.bipush 9, 2) := by decide +kernel
theorem dX6_drains_99 : decode cX6_drains 99 = .ok (.if_icmp .ge 7, 3) := by decide +kernel
theorem dX6_drains_102 : decode cX6_drains 102 = .ok (.iconst 1, 1) := by decide +kernel
theorem dX6_drains_103 : decode cX6_drains 103 = .ok (.goto 4, 3) := by decide +kernel
theorem dX6_drains_106 : decode cX6_drains 106 = .ok (.iconst 0, 1) := by decide +kernel
theorem dX6_drains_107 : decode cX6_drains 107 = .ok (.iadd, 1) := by decide +kernel
theorem dX6_drains_108 : decode cX6_drains 108 = .ok (.iastore, 1) := by decide +kernel
theorem dX6_drains_109 : decode cX6_drains 109 = .ok (.iinc 3 1, 3) := by decide +kernel
theorem dX6_drains_112 : decode cX6_drains 112 = .ok (.goto (-57), 3) := by decide +kernel
theorem dX6_drains_115 : decode cX6_drains 115 = .ok (.iload_n 2, 1) := by decide +kernel
theorem dX6_drains_116 : decode cX6_drains 116 = .ok (.ireturn, 1) := by decide +kernel
theorem dX6_does_0 : decode cX6_does 0 = .ok (.aload_n 0, 1) := by decide +kernel
theorem dX6_does_1 : decode cX6_does 1 = .ok (.iconst 0, 1) := by decide +kernel
theorem dX6_does_2 : decode cX6_does 2 = .ok (.putfield 74, 3) := by decide +kernel
theorem dX6_does_5 : decode cX6_does 5 = .ok (.aload_n 0, 1) := by decide +kernel
theorem dX6_does_6 : decode cX6_does 6 = .ok (.iload_n 1, 1) := by decide +kernel
theorem dX6_does_7 : decode cX6_does 7 = .ok (.invokevirtual 148, 3) := by decide +kernel
theorem dX6_does_10 : decode cX6_does 10 = .ok (.ifCond .ne 5, 3) := by decide +kernel
theorem dX6_does_13 : decode cX6_does 13 = .ok (.iconst (-1), 1) := by decide +kernel
theorem dX6_does_14 : decode cX6_does 14 = .ok (.ireturn, 1) := by decide +kernel
theorem dX6_does_15 : decode cX6_does 15 = .ok (.aload_n 0, 1) := by decide +kernel
theorem dX6_does_16 : decode cX6_does 16 = .ok (.getfield 46, 3) := by decide +kernel
theorem dX6_does_19 : decode cX6_does 19 = .ok (.bipush 13, 2) := by decide +kernel
theorem dX6_does_21 : decode cX6_does 21 = .ok (.iload_n 1, 1) := by decide +kernel
theorem dX6_does_22 : decode cX6_does 22 = .ok (.iadd, 1) := by decide +kernel
theorem dX6_does_23 : decode cX6_does 23 = .ok (.iaload, 1) := by decide +kernel
theorem dX6_does_24 : decode cX6_does 24 = .ok (.iconst 1, 1) := by decide +kernel
theorem dX6_does_25 : decode cX6_does 25 = .ok (.if_icmp .ne 18, 3) := by decide +kernel
theorem dX6_does_28 : decode cX6_does 28 = .ok (.aload_n 0, 1) := by decide +kernel
theorem dX6_does_29 : decode cX6_does 29 = .ok (.getfield 43, 3) := by decide +kernel
theorem dX6_does_32 : decode cX6_does 32 = .ok (.iload_n 1, 1) := by decide +kernel
theorem dX6_does_33 : decode cX6_does 33 = .ok (.iaload, 1) := by decide +kernel
theorem dX6_does_34 : decode cX6_does 34 = .ok (.aload_n 0, 1) := by decide +kernel
theorem dX6_does_35 : decode cX6_does 35 = .ok (.iconst 2, 1) := by decide +kernel
theorem dX6_does_36 : decode cX6_does 36 = .ok (.invokevirtual 170, 3) := by decide +kernel
theorem dX6_does_39 : decode cX6_does 39 = .ok (.iand, 1) := by decide +kernel
theorem dX6_does_40 : decode cX6_does 40 = .ok (.ifCond .eq 6, 3) := by decide +kernel
theorem dX6_does_43 : decode cX6_does 43 = .ok (.bipush (-2), 2) := by decide +kernel
theorem dX6_does_45 : decode cX6_does 45 = .ok (.ireturn, 1) := by decide +kernel
theorem dX6_does_46 : decode cX6_does 46 = .ok (.aload_n 0, 1) := by decide +kernel
theorem dX6_does_47 : decode cX6_does 47 = .ok (.invokevirtual 173, 3) := by decide +kernel
theorem dX6_does_50 : decode cX6_does 50 = .ok (.aload_n 0, 1) := by decide +kernel
theorem dX6_does_51 : decode cX6_does 51 = .ok (.getfield 46, 3) := by decide +kernel
theorem dX6_does_54 : decode cX6_does 54 = .ok (.bipush 13, 2) := by decide +kernel
theorem dX6_does_56 : decode cX6_does 56 = .ok (.iload_n 1, 1) := by decide +kernel
theorem dX6_does_57 : decode cX6_does 57 = .ok (.iadd, 1) := by decide +kernel
theorem dX6_does_58 : decode cX6_does 58 = .ok (.iconst 2, 1) := by decide +kernel
theorem dX6_does_59 : decode cX6_does 59 = .ok (.iastore, 1) := by decide +kernel
theorem dX6_does_60 : decode cX6_does 60 = .ok (.aload_n 0, 1) := by decide +kernel
theorem dX6_does_61 : decode cX6_does 61 = .ok (.iconst 2, 1) := by decide +kernel
theorem dX6_does_62 : decode cX6_does 62 = .ok (.invokevirtual 170, 3) := by decide +kernel
theorem dX6_does_65 : decode cX6_does 65 = .ok (.invokestatic 176, 3) := by decide +kernel
theorem dX6_does_68 : decode cX6_does 68 = .ok (.ireturn, 1) := by decide +kernel
theorem dX6_year_0 : decode cX6_year 0 = .ok (.aload_n 0, 1) := by decide +kernel
theorem dX6_year_1 : decode cX6_year 1 = .ok (.iconst 0, 1) := by decide +kernel
theorem dX6_year_2 : decode cX6_year 2 = .ok (.putfield 74, 3) := by decide +kernel
theorem dX6_year_5 : decode cX6_year 5 = .ok (.aload_n 0, 1) := by decide +kernel
theorem dX6_year_6 : decode cX6_year 6 = .ok (.getfield 46, 3) := by decide +kernel
theorem dX6_year_9 : decode cX6_year 9 = .ok (.iconst 0, 1) := by decide +kernel
theorem dX6_year_10 : decode cX6_year 10 = .ok (.iaload, 1) := by decide +kernel
theorem dX6_year_11 : decode cX6_year 11 = .ok (.sipush 999, 3) := by decide +kernel
theorem dX6_year_14 : decode cX6_year 14 = .ok (.if_icmp .ne 6, 3) := by decide +kernel
theorem dX6_year_17 : decode cX6_year 17 = .ok (.bipush (-2), 2) := by decide +kernel
theorem dX6_year_19 : decode cX6_year 19 = .ok (.ireturn, 1) := by decide +kernel
theorem dX6_year_20 : decode cX6_year 20 = .ok (.aload_n 0, 1) := by decide +kernel
theorem dX6_year_21 : decode cX6_year 21 = .ok (.invokevirtual 173, 3) := by decide +kernel
theorem dX6_year_24 : decode cX6_year 24 = .ok (.aload_n 0, 1) := by decide +kernel
theorem dX6_year_25 : decode cX6_year 25 = .ok (.invokevirtual 154, 3) := by decide +kernel
theorem dX6_year_28 : decode cX6_year 28 = .ok (.aload_n 0, 1) := by decide +kernel
theorem dX6_year_29 : decode cX6_year 29 = .ok (.invokevirtual 157, 3) := by decide +kernel
theorem dX6_year_32 : decode cX6_year 32 = .ok (.istore_n 1, 1) := by decide +kernel
theorem dX6_year_33 : decode cX6_year 33 = .ok (.iconst 0, 1) := by decide +kernel
theorem dX6_year_34 : decode cX6_year 34 = .ok (.istore_n 2, 1) := by decide +kernel
theorem dX6_year_35 : decode cX6_year 35 = .ok (.iconst 0, 1) := by decide +kernel
theorem dX6_year_36 : decode cX6_year 36 = .ok (.istore_n 3, 1) := by decide +kernel
theorem dX6_year_37 : decode cX6_year 37 = .ok (.iload_n 3, 1) := by decide +kernel
theorem dX6_year_38 : decode cX6_year 38 = .ok (.bipush 6, 2) := by decide +kernel
theorem dX6_year_40 : decode cX6_year 40 = .ok (.if_icmp .ge 24, 3) := by decide +kernel
theorem dX6_year_43 : decode cX6_year 43 = .ok (.aload_n 0, 1) := by decide +kernel
theorem dX6_year_44 : decode cX6_year 44 = .ok (.getfield 46, 3) := by decide +kernel
theorem dX6_year_47 : decode cX6_year 47 = .ok (.bipush 7, 2) := by decide +kernel
theorem dX6_year_49 : decode cX6_year 49 = .ok (.iload_n 3, 1) := by decide +kernel
theorem dX6_year_50 : decode cX6_year 50 = .ok (.iadd, 1) := by decide +kernel
theorem dX6_year_51 : decode cX6_year 51 = .ok (.aload_n 0, 1) := by decide +kernel
theorem dX6_year_52 : decode cX6_year 52 = .ok (.getfield 62, 3) := by decide +kernel
theorem dX6_year_55 : decode cX6_year 55 = .ok (.iload_n 3, 1) := by decide +kernel
theorem dX6_year_56 : decode cX6_year 56 = .ok (.iaload, 1) := by decide +kernel
theorem dX6_year_57 : decode cX6_year 57 = .ok (.iastore, 1) := by decide +kernel
theorem dX6_year_58 : decode cX6_year 58 = .ok (.iinc 3 1, 3) := by decide +kernel
theorem dX6_year_61 : decode cX6_year 61 = .ok (.goto (-24), 3) := by decide +kernel
theorem dX6_year_64 : decode cX6_year 64 = .ok (.iconst 0, 1) := by decide +kernel
theorem dX6_year_65 : decode cX6_year 65 = .ok (.istore_n 3, 1) := by decide +kernel
theorem dX6_year_66 : decode cX6_year 66 = .ok (.iload_n 3, 1) := by decide +kernel
theorem dX6_year_67 : decode cX6_year 67 = .ok (.aload_n 0, 1) := by decide +kernel
theorem dX6_year_68 : decode cX6_year 68 = .ok (.getfield 13, 3) := by decide +kernel
theorem dX6_year_71 : decode cX6_year 71 = .ok (.iconst 1, 1) := by decide +kernel
theorem dX6_year_72 : decode cX6_year 72 = .ok (.iaload, 1) := by decide +kernel
theorem dX6_year_73 : decode cX6_year 73 = .ok (.if_icmp .ge 82, 3) := by decide +kernel
theorem dX6_year_76 : decode cX6_year 76 = .ok (.aload_n 0, 1) := by decide +kernel
theorem dX6_year_77 : decode cX6_year 77 = .ok (.getfield 46, 3) := by decide +kernel
theorem dX6_year_80 : decode cX6_year 80 = .ok (.bipush 13, 2) := by decide +kernel
theorem dX6_year_82 : decode cX6_year 82 = .ok (.iload_n 3, 1) := by decide +kernel
theorem dX6_year_83 : decode cX6_year 83 = .ok (.iadd, 1) := by decide +kernel
theorem dX6_year_84 : decode cX6_year 84 = .ok (.iaload, 1) := by decide +kernel
theorem dX6_year_85 : decode cX6_year 85 = .ok (.ifCond .ne 21, 3) := by decide +kernel
theorem dX6_year_88 : decode cX6_year 88 = .ok (.iload_n 1, 1) := by decide +kernel
theorem dX6_year_89 : decode cX6_year 89 = .ok (.aload_n 0, 1) := by decide +kernel
theorem dX6_year_90 : decode cX6_year 90 = .ok (.getfield 25, 3) := by decide +kernel
theorem dX6_year_93 : decode cX6_year 93 = .ok (.iload_n 3, 1) := by decide +kernel
theorem dX6_year_94 : decode cX6_year 94 = .ok (.iaload, 1) := by decide +kernel
theorem dX6_year_95 : decode cX6_year 95 = .ok (.ishr, 1) := by decide +kernel
theorem dX6_year_96 : decode cX6_year 96 = .ok (.iconst 1, 1) := by decide +kernel
theorem dX6_year_97 : decode cX6_year 97 = .ok (.iand, 1) := by decide +kernel
theorem dX6_year_98 : decode cX6_year 98 = .ok (.iconst 1, 1) := by decide +kernel
theorem dX6_year_99 : decode cX6_year 99 = .ok (.if_icmp .ne 7, 3) := by decide +kernel
theorem dX6_year_102 : decode cX6_year 102 = .ok (.iconst 1, 1) := by decide +kernel
theorem dX6_year_103 : decode cX6_year 103 = .ok (.goto 4, 3) := by decide +kernel
theorem dX6_year_106 : decode cX6_year 106 = .ok (.iconst 0, 1) := by decide +kernel
theorem dX6_year_107 : decode cX6_year 107 = .ok (.istore 4, 2) := by decide +kernel
theorem dX6_year_109 : decode cX6_year 109 = .ok (.aload_n 0, 1) := by decide +kernel
theorem dX6_year_110 : decode cX6_year 110 = .ok (.getfield 46, 3) := by decide +kernel
theorem dX6_year_113 : decode cX6_year 113 = .ok (.bipush 13, 2) := by decide +kernel
theorem dX6_year_115 : decode cX6_year 115 = .ok (.iload_n 3, 1) := by decide +kernel
theorem dX6_year_116 : decode cX6_year 116 = .ok (.iadd, 1) := by decide +kernel
theorem dX6_year_117 : decode cX6_year 117 = .ok (.iload 4, 2) := by decide +kernel
theorem dX6_year_119 : decode cX6_year 119 = .ok (.ifCond .eq 7, 3) := by decide +kernel
theorem dX6_year_122 : decode cX6_year 122 = .ok (.iconst 3, 1) := by decide +kernel
theorem dX6_year_123 : decode cX6_year 123 = .ok (.goto 12, 3) := by decide +kernel
theorem dX6_year_126 : decode cX6_year 126 = .ok (.aload_n 0, 1) := by decide +kernel
theorem dX6_year_127 : decode cX6_year 127 = .ok (.getfield 46, 3) := by decide +kernel
theorem dX6_year_130 : decode cX6_year 130 = .ok (.bipush 13, 2) := by decide +kernel
theorem dX6_year_132 : decode cX6_year 132 = .ok (.iload_n 3, 1) := by decide +kernel
theorem dX6_year_133 : decode cX6_year 133 = .ok (.iadd, 1) := by decide +kernel
theorem dX6_year_134 : decode cX6_year 134 = .ok (.iaload, 1) := by decide +kernel
theorem dX6_year_135 : decode cX6_year 135 = .ok (.iastore, 1) := by decide +kernel
theorem dX6_year_136 : decode cX6_year 136 = .ok (.iload_n 2, 1) := by decide +kernel
theorem dX6_year_137 : decode cX6_year 137 = .ok (.iload 4, 2) := by decide +kernel
theorem dX6_year_139 : decode cX6_year 139 = .ok (.ifCond .eq 7, 3) := by decide +kernel
theorem dX6_year_142 : decode cX6_year 142 = .ok (.iconst 1, 1) := by decide +kernel
theorem dX6_year_143 : decode cX6_year 143 = .ok (.goto 4, 3) := by decide +kernel
theorem dX6_year_146 : decode cX6_year 146 = .ok (.iconst 0, 1) := by decide +kernel
theorem dX6_year_147 : decode cX6_year 147 = .ok (.iadd, 1) := by decide +kernel
theorem dX6_year_148 : decode cX6_year 148 = .ok (.istore_n 2, 1) := by decide +kernel
theorem dX6_year_149 : decode cX6_year 149 = .ok (.iinc 3 1, 3) := by decide +kernel
theorem dX6_year_152 : decode cX6_year 152 = .ok (.goto (-86), 3) := by decide +kernel
theorem dX6_year_155 : decode cX6_year 155 = .ok (.aload_n 0, 1) := by decide +kernel
theorem dX6_year_156 : decode cX6_year 156 = .ok (.getfield 46, 3) := by decide +kernel
theorem dX6_year_159 : decode cX6_year 159 = .ok (.iconst 0, 1) := by decide +kernel
theorem dX6_year_160 : decode cX6_year 160 = .ok (.dup2, 1) := by decide +kernel
theorem dX6_year_161 : decode cX6_year 161 = .ok (.iaload, 1) := by decide +kernel
theorem dX6_year_162 : decode cX6_year 162 = .ok (.iconst 1, 1) := by decide +kernel
theorem dX6_year_163 : decode cX6_year 163 = .ok (.iadd, 1) := by decide +kernel
theorem dX6_year_164 : decode cX6_year 164 = .ok (.iastore, 1) := by decide +kernel
theorem dX6_year_165 : decode cX6_year 165 = .ok (.iload_n 2, 1) := by decide +kernel
theorem dX6_year_166 : decode cX6_year 166 = .ok (.ireturn, 1) := by decide +kernel
theorem dX6_undo_0 : decode cX6_undo 0 = .ok (.aload_n 0, 1) := by decide +kernel
theorem dX6_undo_1 : decode cX6_undo 1 = .ok (.iconst 0, 1) := by decide +kernel
theorem dX6_undo_2 : decode cX6_undo 2 = .ok (.putfield 74, 3) := by decide +kernel
theorem dX6_undo_5 : decode cX6_undo 5 = .ok (.aload_n 0, 1) := by decide +kernel
theorem dX6_undo_6 : decode cX6_undo 6 = .ok (.getfield 142, 3) := by decide +kernel
theorem dX6_undo_9 : decode cX6_undo 9 = .ok (.ifCond .ne 6, 3) := by decide +kernel
theorem dX6_undo_12 : decode cX6_undo 12 = .ok (.bipush (-2), 2) := by decide +kernel
theorem dX6_undo_14 : decode cX6_undo 14 = .ok (.ireturn, 1) := by decide +kernel
theorem dX6_undo_15 : decode cX6_undo 15 = .ok (.aload_n 0, 1) := by decide +kernel
theorem dX6_undo_16 : decode cX6_undo 16 = .ok (.dup, 1) := by decide +kernel
theorem dX6_undo_17 : decode cX6_undo 17 = .ok (.getfield 142, 3) := by decide +kernel
theorem dX6_undo_20 : decode cX6_undo 20 = .ok (.iconst 1, 1) := by decide +kernel
theorem dX6_undo_21 : decode cX6_undo 21 = .ok (.isub, 1) := by decide +kernel
theorem dX6_undo_22 : decode cX6_undo 22 = .ok (.putfield 142, 3) := by decide +kernel
theorem dX6_undo_25 : decode cX6_undo 25 = .ok (.iconst 0, 1) := by decide +kernel
theorem dX6_undo_26 : decode cX6_undo 26 = .ok (.istore_n 1, 1) := by decide +kernel
theorem dX6_undo_27 : decode cX6_undo 27 = .ok (.iload_n 1, 1) := by decide +kernel
theorem dX6_undo_28 : decode cX6_undo 28 = .ok (.bipush 37, 2) := by decide +kernel
theorem dX6_undo_30 : decode cX6_undo 30 = .ok (.if_icmp .ge 29, 3) := by decide +kernel
theorem dX6_undo_33 : decode cX6_undo 33 = .ok (.aload_n 0, 1) := by decide +kernel
theorem dX6_undo_34 : decode cX6_undo 34 = .ok (.getfield 46, 3) := by decide +kernel
theorem dX6_undo_37 : decode cX6_undo 37 = .ok (.iload_n 1, 1) := by decide +kernel
theorem dX6_undo_38 : decode cX6_undo 38 = .ok (.aload_n 0, 1) := by decide +kernel
theorem dX6_undo_39 : decode cX6_undo 39 = .ok (.getfield 56, 3) := by decide +kernel
theorem dX6_undo_42 : decode cX6_undo 42 = .ok (.bipush 37, 2) := by decide +kernel
theorem dX6_undo_44 : decode cX6_undo 44 = .ok (.aload_n 0, 1) := by decide +kernel
theorem dX6_undo_45 : decode cX6_undo 45 = .ok (.getfield 142, 3) := by decide +kernel
theorem dX6_undo_48 : decode cX6_undo 48 = .ok (.imul, 1) := by decide +kernel
theorem dX6_undo_49 : decode cX6_undo 49 = .ok (.iload_n 1, 1) := by decide +kernel
theorem dX6_undo_50 : decode cX6_undo 50 = .ok (.iadd, 1) := by decide +kernel
theorem dX6_undo_51 : decode cX6_undo 51 = .ok (.iaload, 1) := by decide +kernel
theorem dX6_undo_52 : decode cX6_undo 52 = .ok (.iastore, 1) := by decide +kernel
theorem dX6_undo_53 : decode cX6_undo 53 = .ok (.iinc 1 1, 3) := by decide +kernel
theorem dX6_undo_56 : decode cX6_undo 56 = .ok (.goto (-29), 3) := by decide +kernel
theorem dX6_undo_59 : decode cX6_undo 59 = .ok (.aload_n 0, 1) := by decide +kernel
theorem dX6_undo_60 : decode cX6_undo 60 = .ok (.getfield 142, 3) := by decide +kernel
theorem dX6_undo_63 : decode cX6_undo 63 = .ok (.ireturn, 1) := by decide +kernel
theorem dX6_left_0 : decode cX6_left 0 = .ok (.aload_n 0, 1) := by decide +kernel
theorem dX6_left_1 : decode cX6_left 1 = .ok (.iconst 0, 1) := by decide +kernel
theorem dX6_left_2 : decode cX6_left 2 = .ok (.putfield 74, 3) := by decide +kernel
theorem dX6_left_5 : decode cX6_left 5 = .ok (.aload_n 0, 1) := by decide +kernel
theorem dX6_left_6 : decode cX6_left 6 = .ok (.iload_n 1, 1) := by decide +kernel
theorem dX6_left_7 : decode cX6_left 7 = .ok (.invokevirtual 148, 3) := by decide +kernel
theorem dX6_left_10 : decode cX6_left 10 = .ok (.ifCond .eq 29, 3) := by decide +kernel
theorem dX6_left_13 : decode cX6_left 13 = .ok (.iload_n 2, 1) := by decide +kernel
theorem dX6_left_14 : decode cX6_left 14 = .ok (.iconst 0, 1) := by decide +kernel
theorem dX6_left_15 : decode cX6_left 15 = .ok (.bipush 99, 2) := by decide +kernel
theorem dX6_left_17 : decode cX6_left 17 = .ok (.invokestatic 78, 3) := by decide +kernel
theorem dX6_left_20 : decode cX6_left 20 = .ok (.ifCond .eq 19, 3) := by decide +kernel
theorem dX6_left_23 : decode cX6_left 23 = .ok (.aload_n 0, 1) := by decide +kernel
theorem dX6_left_24 : decode cX6_left 24 = .ok (.iload_n 1, 1) := by decide +kernel
theorem dX6_left_25 : decode cX6_left 25 = .ok (.aload_n 0, 1) := by decide +kernel
theorem dX6_left_26 : decode cX6_left 26 = .ok (.getfield 46, 3) := by decide +kernel
theorem dX6_left_29 : decode cX6_left 29 = .ok (.iconst 0, 1) := by decide +kernel
theorem dX6_left_30 : decode cX6_left 30 = .ok (.iaload, 1) := by decide +kernel
theorem dX6_left_31 : decode cX6_left 31 = .ok (.iload_n 2, 1) := by decide +kernel
theorem dX6_left_32 : decode cX6_left 32 = .ok (.iadd, 1) := by decide +kernel
theorem dX6_left_33 : decode cX6_left 33 = .ok (.invokevirtual 145, 3) := by decide +kernel
theorem dX6_left_36 : decode cX6_left 36 = .ok (.goto 4, 3) := by decide +kernel
theorem dX6_left_39 : decode cX6_left 39 = .ok (.iconst (-1), 1) := by decide +kernel
theorem dX6_left_40 : decode cX6_left 40 = .ok (.ireturn, 1) := by decide +kernel
theorem dX6_lasts_0 : decode cX6_lasts 0 = .ok (.aload_n 0, 1) := by decide +kernel
theorem dX6_lasts_1 : decode cX6_lasts 1 = .ok (.iconst 0, 1) := by decide +kernel
theorem dX6_lasts_2 : decode cX6_lasts 2 = .ok (.putfield 74, 3) := by decide +kernel
theorem dX6_lasts_5 : decode cX6_lasts 5 = .ok (.iload_n 1, 1) := by decide +kernel
theorem dX6_lasts_6 : decode cX6_lasts 6 = .ok (.iconst 1, 1) := by decide +kernel
theorem dX6_lasts_7 : decode cX6_lasts 7 = .ok (.iconst 4, 1) := by decide +kernel
theorem dX6_lasts_8 : decode cX6_lasts 8 = .ok (.invokestatic 78, 3) := by decide +kernel
theorem dX6_lasts_11 : decode cX6_lasts 11 = .ok (.ifCond .eq 22, 3) := by decide +kernel
theorem dX6_lasts_14 : decode cX6_lasts 14 = .ok (.iload_n 2, 1) := by decide +kernel
theorem dX6_lasts_15 : decode cX6_lasts 15 = .ok (.iconst 1, 1) := by decide +kernel
theorem dX6_lasts_16 : decode cX6_lasts 16 = .ok (.iconst 4, 1) := by decide +kernel
theorem dX6_lasts_17 : decode cX6_lasts 17 = .ok (.invokestatic 78, 3) := by decide +kernel
theorem dX6_lasts_20 : decode cX6_lasts 20 = .ok (.ifCond .eq 13, 3) := by decide +kernel
theorem dX6_lasts_23 : decode cX6_lasts 23 = .ok (.iload_n 3, 1) := by decide +kernel
theorem dX6_lasts_24 : decode cX6_lasts 24 = .ok (.iconst 0, 1) := by decide +kernel
theorem dX6_lasts_25 : decode cX6_lasts 25 = .ok (.bipush 99, 2) := by decide +kernel
theorem dX6_lasts_27 : decode cX6_lasts 27 = .ok (.invokestatic 78, 3) := by decide +kernel
theorem dX6_lasts_30 : decode cX6_lasts 30 = .ok (.ifCond .ne 5, 3) := by decide +kernel
theorem dX6_lasts_33 : decode cX6_lasts 33 = .ok (.iconst (-1), 1) := by decide +kernel
theorem dX6_lasts_34 : decode cX6_lasts 34 = .ok (.ireturn, 1) := by decide +kernel
theorem dX6_lasts_35 : decode cX6_lasts 35 = .ok (.bipush (-9), 2) := by decide +kernel
theorem dX6_lasts_37 : decode cX6_lasts 37 = .ok (.istore 4, 2) := by decide +kernel
theorem dX6_lasts_39 : decode cX6_lasts 39 = .ok (.iconst 0, 1) := by decide +kernel
theorem dX6_lasts_40 : decode cX6_lasts 40 = .ok (.istore 5, 2) := by decide +kernel
theorem dX6_lasts_42 : decode cX6_lasts 42 = .ok (.iload 5, 2) := by decide +kernel
theorem dX6_lasts_44 : decode cX6_lasts 44 = .ok (.bipush 6, 2) := by decide +kernel
theorem dX6_lasts_46 : decode cX6_lasts 46 = .ok (.if_icmp .ge 51, 3) := by decide +kernel
theorem dX6_lasts_49 : decode cX6_lasts 49 = .ok (.iload_n 1, 1) := by decide +kernel
theorem dX6_lasts_50 : decode cX6_lasts 50 = .ok (.iload_n 3, 1) := by decide +kernel
theorem dX6_lasts_51 : decode cX6_lasts 51 = .ok (.iload 5, 2) := by decide +kernel
theorem dX6_lasts_53 : decode cX6_lasts 53 = .ok (.iconst 1, 1) := by decide +kernel
theorem dX6_lasts_54 : decode cX6_lasts 54 = .ok (.iadd, 1) := by decide +kernel
theorem dX6_lasts_55 : decode cX6_lasts 55 = .ok (.imul, 1) := by decide +kernel
theorem dX6_lasts_56 : decode cX6_lasts 56 = .ok (.aload_n 0, 1) := by decide +kernel
theorem dX6_lasts_57 : decode cX6_lasts 57 = .ok (.getfield 13, 3) := by decide +kernel
theorem dX6_lasts_60 : decode cX6_lasts 60 = .ok (.iconst 2, 1) := by decide +kernel
theorem dX6_lasts_61 : decode cX6_lasts 61 = .ok (.iaload, 1) := by decide +kernel
theorem dX6_lasts_62 : decode cX6_lasts 62 = .ok (.idiv, 1) := by decide +kernel
theorem dX6_lasts_63 : decode cX6_lasts 63 = .ok (.isub, 1) := by decide +kernel
theorem dX6_lasts_64 : decode cX6_lasts 64 = .ok (.istore 6, 2) := by decide +kernel
theorem dX6_lasts_66 : decode cX6_lasts 66 = .ok (.iload 6, 2) := by decide +kernel
theorem dX6_lasts_68 : decode cX6_lasts 68 = .ok (.iconst 1, 1) := by decide +kernel
theorem dX6_lasts_69 : decode cX6_lasts 69 = .ok (.if_icmp .ge 7, 3) := by decide +kernel
theorem dX6_lasts_72 : decode cX6_lasts 72 = .ok (.iconst 1, 1) := by decide +kernel
theorem dX6_lasts_73 : decode cX6_lasts 73 = .ok (.goto 5, 3) := by decide +kernel
theorem dX6_lasts_76 : decode cX6_lasts 76 = .ok (.iload 6, 2) := by decide +kernel
theorem dX6_lasts_78 : decode cX6_lasts 78 = .ok (.iload_n 2, 1) := by decide +kernel
theorem dX6_lasts_79 : decode cX6_lasts 79 = .ok (.if_icmp .lt 8, 3) := by decide +kernel
theorem dX6_lasts_82 : decode cX6_lasts 82 = .ok (.iload 5, 2) := by decide +kernel
theorem dX6_lasts_84 : decode cX6_lasts 84 = .ok (.goto 5, 3) := by decide +kernel
theorem dX6_lasts_87 : decode cX6_lasts 87 = .ok (.iload 4, 2) := by decide +kernel
theorem dX6_lasts_89 : decode cX6_lasts 89 = .ok (.istore 4, 2) := by decide +kernel
theorem dX6_lasts_91 : decode cX6_lasts 91 = .ok (.iinc 5 1, 3) := by decide +kernel
theorem dX6_lasts_94 : decode cX6_lasts 94 = .ok (.goto (-52), 3) := by decide +kernel
theorem dX6_lasts_97 : decode cX6_lasts 97 = .ok (.iload 4, 2) := by decide +kernel
theorem dX6_lasts_99 : decode cX6_lasts 99 = .ok (.ireturn, 1) := by decide +kernel
theorem dX6_duty_0 : decode cX6_duty 0 = .ok (.aload_n 0, 1) := by decide +kernel
theorem dX6_duty_1 : decode cX6_duty 1 = .ok (.iconst 0, 1) := by decide +kernel
theorem dX6_duty_2 : decode cX6_duty 2 = .ok (.putfield 74, 3) := by decide +kernel
theorem dX6_duty_5 : decode cX6_duty 5 = .ok (.aload_n 0, 1) := by decide +kernel
theorem dX6_duty_6 : decode cX6_duty 6 = .ok (.iload_n 1, 1) := by decide +kernel
theorem dX6_duty_7 : decode cX6_duty 7 = .ok (.invokevirtual 148, 3) := by decide +kernel
theorem dX6_duty_10 : decode cX6_duty 10 = .ok (.ifCond .eq 13, 3) := by decide +kernel
theorem dX6_duty_13 : decode cX6_duty 13 = .ok (.iload_n 2, 1) := by decide +kernel
theorem dX6_duty_14 : decode cX6_duty 14 = .ok (.iconst 0, 1) := by decide +kernel
theorem dX6_duty_15 : decode cX6_duty 15 = .ok (.bipush 99, 2) := by decide +kernel
theorem dX6_duty_17 : decode cX6_duty 17 = .ok (.invokestatic 78, 3) := by decide +kernel
theorem dX6_duty_20 : decode cX6_duty 20 = .ok (.ifCond .ne 5, 3) := by decide +kernel
theorem dX6_duty_23 : decode cX6_duty 23 = .ok (.iconst (-1), 1) := by decide +kernel
theorem dX6_duty_24 : decode cX6_duty 24 = .ok (.ireturn, 1) := by decide +kernel
theorem dX6_duty_25 : decode cX6_duty 25 = .ok (.aload_n 0, 1) := by decide +kernel
theorem dX6_duty_26 : decode cX6_duty 26 = .ok (.getfield 22, 3) := by decide +kernel
theorem dX6_duty_29 : decode cX6_duty 29 = .ok (.iload_n 1, 1) := by decide +kernel
theorem dX6_duty_30 : decode cX6_duty 30 = .ok (.iaload, 1) := by decide +kernel
theorem dX6_duty_31 : decode cX6_duty 31 = .ok (.istore_n 3, 1) := by decide +kernel
theorem dX6_duty_32 : decode cX6_duty 32 = .ok (.iload_n 3, 1) := by decide +kernel
theorem dX6_duty_33 : decode cX6_duty 33 = .ok (.bipush (-9), 2) := by decide +kernel
theorem dX6_duty_35 : decode cX6_duty 35 = .ok (.if_icmp .eq 30, 3) := by decide +kernel
theorem dX6_duty_38 : decode cX6_duty 38 = .ok (.aload_n 0, 1) := by decide +kernel
theorem dX6_duty_39 : decode cX6_duty 39 = .ok (.getfield 16, 3) := by decide +kernel
theorem dX6_duty_42 : decode cX6_duty 42 = .ok (.iload_n 3, 1) := by decide +kernel
theorem dX6_duty_43 : decode cX6_duty 43 = .ok (.iaload, 1) := by decide +kernel
theorem dX6_duty_44 : decode cX6_duty 44 = .ok (.aload_n 0, 1) := by decide +kernel
theorem dX6_duty_45 : decode cX6_duty 45 = .ok (.getfield 46, 3) := by decide +kernel
theorem dX6_duty_48 : decode cX6_duty 48 = .ok (.iconst 0, 1) := by decide +kernel
theorem dX6_duty_49 : decode cX6_duty 49 = .ok (.iaload, 1) := by decide +kernel
theorem dX6_duty_50 : decode cX6_duty 50 = .ok (.iload_n 2, 1) := by decide +kernel
theorem dX6_duty_51 : decode cX6_duty 51 = .ok (.iadd, 1) := by decide +kernel
theorem dX6_duty_52 : decode cX6_duty 52 = .ok (.if_icmp .gt 13, 3) := by decide +kernel
theorem dX6_duty_55 : decode cX6_duty 55 = .ok (.aload_n 0, 1) := by decide +kernel
theorem dX6_duty_56 : decode cX6_duty 56 = .ok (.getfield 19, 3) := by decide +kernel
theorem dX6_duty_59 : decode cX6_duty 59 = .ok (.iload_n 3, 1) := by decide +kernel
theorem dX6_duty_60 : decode cX6_duty 60 = .ok (.iaload, 1) := by decide +kernel
theorem dX6_duty_61 : decode cX6_duty 61 = .ok (.istore_n 3, 1) := by decide +kernel
theorem dX6_duty_62 : decode cX6_duty 62 = .ok (.goto (-30), 3) := by decide +kernel
theorem dX6_duty_65 : decode cX6_duty 65 = .ok (.iload_n 3, 1) := by decide +kernel
theorem dX6_duty_66 : decode cX6_duty 66 = .ok (.ireturn, 1) := by decide +kernel
theorem dX6_sees_0 : decode cX6_sees 0 = .ok (.aload_n 0, 1) := by decide +kernel
theorem dX6_sees_1 : decode cX6_sees 1 = .ok (.iconst 0, 1) := by decide +kernel
theorem dX6_sees_2 : decode cX6_sees 2 = .ok (.putfield 74, 3) := by decide +kernel
theorem dX6_sees_5 : decode cX6_sees 5 = .ok (.iload_n 1, 1) := by decide +kernel
theorem dX6_sees_6 : decode cX6_sees 6 = .ok (.iconst 0, 1) := by decide +kernel
theorem dX6_sees_7 : decode cX6_sees 7 = .ok (.bipush 9, 2) := by decide +kernel
theorem dX6_sees_9 : decode cX6_sees 9 = .ok (.invokestatic 78, 3) := by decide +kernel
theorem dX6_sees_12 : decode cX6_sees 12 = .ok (.ifCond .ne 5, 3) := by decide +kernel
theorem dX6_sees_15 : decode cX6_sees 15 = .ok (.iconst (-1), 1) := by decide +kernel
theorem dX6_sees_16 : decode cX6_sees 16 = .ok (.ireturn, 1) := by decide +kernel
theorem dX6_sees_17 : decode cX6_sees 17 = .ok (.aload_n 0, 1) := by decide +kernel
theorem dX6_sees_18 : decode cX6_sees 18 = .ok (.getfield 139, 3) := by decide +kernel
theorem dX6_sees_21 : decode cX6_sees 21 = .ok (.iconst 4, 1) := by decide +kernel
theorem dX6_sees_22 : decode cX6_sees 22 = .ok (.if_icmp .ne 6, 3) := by decide +kernel
theorem dX6_sees_25 : decode cX6_sees 25 = .ok (.bipush (-3), 2) := by decide +kernel
theorem dX6_sees_27 : decode cX6_sees 27 = .ok (.ireturn, 1) := by decide +kernel
theorem dX6_sees_28 : decode cX6_sees 28 = .ok (.aload_n 0, 1) := by decide +kernel
theorem dX6_sees_29 : decode cX6_sees 29 = .ok (.getfield 59, 3) := by decide +kernel
theorem dX6_sees_32 : decode cX6_sees 32 = .ok (.aload_n 0, 1) := by decide +kernel
theorem dX6_sees_33 : decode cX6_sees 33 = .ok (.getfield 139, 3) := by decide +kernel
theorem dX6_sees_36 : decode cX6_sees 36 = .ok (.iload_n 1, 1) := by decide +kernel
theorem dX6_sees_37 : decode cX6_sees 37 = .ok (.iastore, 1) := by decide +kernel
theorem dX6_sees_38 : decode cX6_sees 38 = .ok (.aload_n 0, 1) := by decide +kernel
theorem dX6_sees_39 : decode cX6_sees 39 = .ok (.dup, 1) := by decide +kernel
theorem dX6_sees_40 : decode cX6_sees 40 = .ok (.getfield 139, 3) := by decide +kernel
theorem dX6_sees_43 : decode cX6_sees 43 = .ok (.iconst 1, 1) := by decide +kernel
theorem dX6_sees_44 : decode cX6_sees 44 = .ok (.iadd, 1) := by decide +kernel
theorem dX6_sees_45 : decode cX6_sees 45 = .ok (.putfield 139, 3) := by decide +kernel
theorem dX6_sees_48 : decode cX6_sees 48 = .ok (.aload_n 0, 1) := by decide +kernel
theorem dX6_sees_49 : decode cX6_sees 49 = .ok (.getfield 139, 3) := by decide +kernel
theorem dX6_sees_52 : decode cX6_sees 52 = .ok (.ireturn, 1) := by decide +kernel
theorem dX6_forget_0 : decode cX6_forget 0 = .ok (.aload_n 0, 1) := by decide +kernel
theorem dX6_forget_1 : decode cX6_forget 1 = .ok (.iconst 0, 1) := by decide +kernel
theorem dX6_forget_2 : decode cX6_forget 2 = .ok (.putfield 74, 3) := by decide +kernel
theorem dX6_forget_5 : decode cX6_forget 5 = .ok (.aload_n 0, 1) := by decide +kernel
theorem dX6_forget_6 : decode cX6_forget 6 = .ok (.getfield 139, 3) := by decide +kernel
theorem dX6_forget_9 : decode cX6_forget 9 = .ok (.istore_n 1, 1) := by decide +kernel
theorem dX6_forget_10 : decode cX6_forget 10 = .ok (.aload_n 0, 1) := by decide +kernel
theorem dX6_forget_11 : decode cX6_forget 11 = .ok (.iconst 0, 1) := by decide +kernel
theorem dX6_forget_12 : decode cX6_forget 12 = .ok (.putfield 139, 3) := by decide +kernel
theorem dX6_forget_15 : decode cX6_forget 15 = .ok (.iload_n 1, 1) := by decide +kernel
theorem dX6_forget_16 : decode cX6_forget 16 = .ok (.ireturn, 1) := by decide +kernel
theorem dX6_canBe_0 : decode cX6_canBe 0 = .ok (.aload_n 0, 1) := by decide +kernel
theorem dX6_canBe_1 : decode cX6_canBe 1 = .ok (.getfield 46, 3) := by decide +kernel
theorem dX6_canBe_4 : decode cX6_canBe 4 = .ok (.bipush 13, 2) := by decide +kernel
theorem dX6_canBe_6 : decode cX6_canBe 6 = .ok (.iload_n 1, 1) := by decide +kernel
theorem dX6_canBe_7 : decode cX6_canBe 7 = .ok (.iadd, 1) := by decide +kernel
theorem dX6_canBe_8 : decode cX6_canBe 8 = .ok (.iaload, 1) := by decide +kernel
theorem dX6_canBe_9 : decode cX6_canBe 9 = .ok (.ifCond .ne 19, 3) := by decide +kernel
theorem dX6_canBe_12 : decode cX6_canBe 12 = .ok (.aload_n 0, 1) := by decide +kernel
theorem dX6_canBe_13 : decode cX6_canBe 13 = .ok (.iload_n 1, 1) := by decide +kernel
theorem dX6_canBe_14 : decode cX6_canBe 14 = .ok (.invokevirtual 151, 3) := by decide +kernel
theorem dX6_canBe_17 : decode cX6_canBe 17 = .ok (.aload_n 0, 1) := by decide +kernel
theorem dX6_canBe_18 : decode cX6_canBe 18 = .ok (.getfield 139, 3) := by decide +kernel
theorem dX6_canBe_21 : decode cX6_canBe 21 = .ok (.if_icmp .lt 7, 3) := by decide +kernel
theorem dX6_canBe_24 : decode cX6_canBe 24 = .ok (.iconst 1, 1) := by decide +kernel
theorem dX6_canBe_25 : decode cX6_canBe 25 = .ok (.goto 4, 3) := by decide +kernel
theorem dX6_canBe_28 : decode cX6_canBe 28 = .ok (.iconst 0, 1) := by decide +kernel
theorem dX6_canBe_29 : decode cX6_canBe 29 = .ok (.istore_n 2, 1) := by decide +kernel
theorem dX6_canBe_30 : decode cX6_canBe 30 = .ok (.iconst 0, 1) := by decide +kernel
theorem dX6_canBe_31 : decode cX6_canBe 31 = .ok (.istore_n 3, 1) := by decide +kernel
theorem dX6_canBe_32 : decode cX6_canBe 32 = .ok (.iload_n 3, 1) := by decide +kernel
theorem dX6_canBe_33 : decode cX6_canBe 33 = .ok (.aload_n 0, 1) := by decide +kernel
theorem dX6_canBe_34 : decode cX6_canBe 34 = .ok (.getfield 139, 3) := by decide +kernel
theorem dX6_canBe_37 : decode cX6_canBe 37 = .ok (.if_icmp .ge 38, 3) := by decide +kernel
theorem dX6_canBe_40 : decode cX6_canBe 40 = .ok (.iload_n 2, 1) := by decide +kernel
theorem dX6_canBe_41 : decode cX6_canBe 41 = .ok (.ifCond .eq 26, 3) := by decide +kernel
theorem dX6_canBe_44 : decode cX6_canBe 44 = .ok (.aload_n 0, 1) := by decide +kernel
theorem dX6_canBe_45 : decode cX6_canBe 45 = .ok (.getfield 40, 3) := by decide +kernel
theorem dX6_canBe_48 : decode cX6_canBe 48 = .ok (.iconst 4, 1) := by decide +kernel
theorem dX6_canBe_49 : decode cX6_canBe 49 = .ok (.iload_n 1, 1) := by decide +kernel
theorem dX6_canBe_50 : decode cX6_canBe 50 = .ok (.imul, 1) := by decide +kernel
theorem dX6_canBe_51 : decode cX6_canBe 51 = .ok (.iload_n 3, 1) := by decide +kernel
theorem dX6_canBe_52 : decode cX6_canBe 52 = .ok (.iadd, 1) := by decide +kernel
theorem dX6_canBe_53 : decode cX6_canBe 53 = .ok (.iaload, 1) := by decide +kernel
theorem dX6_canBe_54 : decode cX6_canBe 54 = .ok (.aload_n 0, 1) := by decide +kernel
theorem dX6_canBe_55 : decode cX6_canBe 55 = .ok (.getfield 59, 3) := by decide +kernel
theorem dX6_canBe_58 : decode cX6_canBe 58 = .ok (.iload_n 3, 1) := by decide +kernel
theorem dX6_canBe_59 : decode cX6_canBe 59 = .ok (.iaload, 1) := by decide +kernel
theorem dX6_canBe_60 : decode cX6_canBe 60 = .ok (.if_icmp .ne 7, 3) := by decide +kernel
theorem dX6_canBe_63 : decode cX6_canBe 63 = .ok (.iconst 1, 1) := by decide +kernel
theorem dX6_canBe_64 : decode cX6_canBe 64 = .ok (.goto 4, 3) := by decide +kernel
theorem dX6_canBe_67 : decode cX6_canBe 67 = .ok (.iconst 0, 1) := by decide +kernel
theorem dX6_canBe_68 : decode cX6_canBe 68 = .ok (.istore_n 2, 1) := by decide +kernel
theorem dX6_canBe_69 : decode cX6_canBe 69 = .ok (.iinc 3 1, 3) := by decide +kernel
theorem dX6_canBe_72 : decode cX6_canBe 72 = .ok (.goto (-40), 3) := by decide +kernel
theorem dX6_canBe_75 : decode cX6_canBe 75 = .ok (.iload_n 2, 1) := by decide +kernel
theorem dX6_canBe_76 : decode cX6_canBe 76 = .ok (.ireturn, 1) := by decide +kernel
theorem dX6_fits_0 : decode cX6_fits 0 = .ok (.aload_n 0, 1) := by decide +kernel
theorem dX6_fits_1 : decode cX6_fits 1 = .ok (.iconst 0, 1) := by decide +kernel
theorem dX6_fits_2 : decode cX6_fits 2 = .ok (.putfield 74, 3) := by decide +kernel
theorem dX6_fits_5 : decode cX6_fits 5 = .ok (.iconst 0, 1) := by decide +kernel
theorem dX6_fits_6 : decode cX6_fits 6 = .ok (.istore_n 1, 1) := by decide +kernel
theorem dX6_fits_7 : decode cX6_fits 7 = .ok (.iconst 0, 1) := by decide +kernel
theorem dX6_fits_8 : decode cX6_fits 8 = .ok (.istore_n 2, 1) := by decide +kernel
theorem dX6_fits_9 : decode cX6_fits 9 = .ok (.iload_n 2, 1) := by decide +kernel
theorem dX6_fits_10 : decode cX6_fits 10 = .ok (.aload_n 0, 1) := by decide +kernel
theorem dX6_fits_11 : decode cX6_fits 11 = .ok (.getfield 13, 3) := by decide +kernel
theorem dX6_fits_14 : decode cX6_fits 14 = .ok (.iconst 1, 1) := by decide +kernel
theorem dX6_fits_15 : decode cX6_fits 15 = .ok (.iaload, 1) := by decide +kernel
theorem dX6_fits_16 : decode cX6_fits 16 = .ok (.if_icmp .ge 27, 3) := by decide +kernel
theorem dX6_fits_19 : decode cX6_fits 19 = .ok (.iload_n 1, 1) := by decide +kernel
theorem dX6_fits_20 : decode cX6_fits 20 = .ok (.aload_n 0, 1) := by decide +kernel
theorem dX6_fits_21 : decode cX6_fits 21 = .ok (.iload_n 2, 1) := by decide +kernel
theorem dX6_fits_22 : decode cX6_fits 22 = .ok (.invokevirtual 179, 3) := by decide +kernel
theorem dX6_fits_25 : decode cX6_fits 25 = .ok (.ifCond .eq 9, 3) := by decide +kernel
theorem dX6_fits_28 : decode cX6_fits 28 = .ok (.iconst 1, 1) := by decide +kernel
theorem dX6_fits_29 : decode cX6_fits 29 = .ok (.iload_n 2, 1) := by decide +kernel
theorem dX6_fits_30 : decode cX6_fits 30 = .ok (.ishl, 1) := by decide +kernel
theorem dX6_fits_31 : decode cX6_fits 31 = .ok (.goto 4, 3) := by decide +kernel
theorem dX6_fits_34 : decode cX6_fits 34 = .ok (.iconst 0, 1) := by decide +kernel
theorem dX6_fits_35 : decode cX6_fits 35 = .ok (.ior, 1) := by decide +kernel
theorem dX6_fits_36 : decode cX6_fits 36 = .ok (.istore_n 1, 1) := by decide +kernel
theorem dX6_fits_37 : decode cX6_fits 37 = .ok (.iinc 2 1, 3) := by decide +kernel
theorem dX6_fits_40 : decode cX6_fits 40 = .ok (.goto (-31), 3) := by decide +kernel
theorem dX6_fits_43 : decode cX6_fits 43 = .ok (.iload_n 1, 1) := by decide +kernel
theorem dX6_fits_44 : decode cX6_fits 44 = .ok (.ireturn, 1) := by decide +kernel
theorem dX6_likely_0 : decode cX6_likely 0 = .ok (.aload_n 0, 1) := by decide +kernel
theorem dX6_likely_1 : decode cX6_likely 1 = .ok (.iconst 0, 1) := by decide +kernel
theorem dX6_likely_2 : decode cX6_likely 2 = .ok (.putfield 74, 3) := by decide +kernel
theorem dX6_likely_5 : decode cX6_likely 5 = .ok (.iconst 0, 1) := by decide +kernel
theorem dX6_likely_6 : decode cX6_likely 6 = .ok (.istore_n 1, 1) := by decide +kernel
theorem dX6_likely_7 : decode cX6_likely 7 = .ok (.iload_n 1, 1) := by decide +kernel
theorem dX6_likely_8 : decode cX6_likely 8 = .ok (.bipush 10, 2) := by decide +kernel
theorem dX6_likely_10 : decode cX6_likely 10 = .ok (.if_icmp .ge 16, 3) := by decide +kernel
theorem dX6_likely_13 : decode cX6_likely 13 = .ok (.aload_n 0, 1) := by decide +kernel
theorem dX6_likely_14 : decode cX6_likely 14 = .ok (.getfield 65, 3) := by decide +kernel
theorem dX6_likely_17 : decode cX6_likely 17 = .ok (.iload_n 1, 1) := by decide +kernel
theorem dX6_likely_18 : decode cX6_likely 18 = .ok (.iconst 0, 1) := by decide +kernel
theorem dX6_likely_19 : decode cX6_likely 19 = .ok (.iastore, 1) := by decide +kernel
theorem dX6_likely_20 : decode cX6_likely 20 = .ok (.iinc 1 1, 3) := by decide +kernel
theorem dX6_likely_23 : decode cX6_likely 23 = .ok (.goto (-16), 3) := by decide +kernel
theorem dX6_likely_26 : decode cX6_likely 26 = .ok (.iconst 0, 1) := by decide +kernel
theorem dX6_likely_27 : decode cX6_likely 27 = .ok (.istore_n 1, 1) := by decide +kernel
theorem dX6_likely_28 : decode cX6_likely 28 = .ok (.iload_n 1, 1) := by decide +kernel
theorem dX6_likely_29 : decode cX6_likely 29 = .ok (.aload_n 0, 1) := by decide +kernel
theorem dX6_likely_30 : decode cX6_likely 30 = .ok (.getfield 13, 3) := by decide +kernel
theorem dX6_likely_33 : decode cX6_likely 33 = .ok (.iconst 1, 1) := by decide +kernel
theorem dX6_likely_34 : decode cX6_likely 34 = .ok (.iaload, 1) := by decide +kernel
theorem dX6_likely_35 : decode cX6_likely 35 = .ok (.if_icmp .ge 51, 3) := by decide +kernel
theorem dX6_likely_38 : decode cX6_likely 38 = .ok (.aload_n 0, 1) := by decide +kernel
theorem dX6_likely_39 : decode cX6_likely 39 = .ok (.iload_n 1, 1) := by decide +kernel
theorem dX6_likely_40 : decode cX6_likely 40 = .ok (.invokevirtual 179, 3) := by decide +kernel
theorem dX6_likely_43 : decode cX6_likely 43 = .ok (.ifCond .eq 37, 3) := by decide +kernel
theorem dX6_likely_46 : decode cX6_likely 46 = .ok (.aload_n 0, 1) := by decide +kernel
theorem dX6_likely_47 : decode cX6_likely 47 = .ok (.iload_n 1, 1) := by decide +kernel
theorem dX6_likely_48 : decode cX6_likely 48 = .ok (.invokevirtual 151, 3) := by decide +kernel
theorem dX6_likely_51 : decode cX6_likely 51 = .ok (.aload_n 0, 1) := by decide +kernel
theorem dX6_likely_52 : decode cX6_likely 52 = .ok (.getfield 139, 3) := by decide +kernel
theorem dX6_likely_55 : decode cX6_likely 55 = .ok (.if_icmp .le 25, 3) := by decide +kernel
theorem dX6_likely_58 : decode cX6_likely 58 = .ok (.aload_n 0, 1) := by decide +kernel
theorem dX6_likely_59 : decode cX6_likely 59 = .ok (.getfield 65, 3) := by decide +kernel
theorem dX6_likely_62 : decode cX6_likely 62 = .ok (.aload_n 0, 1) := by decide +kernel
theorem dX6_likely_63 : decode cX6_likely 63 = .ok (.getfield 40, 3) := by decide +kernel
theorem dX6_likely_66 : decode cX6_likely 66 = .ok (.iconst 4, 1) := by decide +kernel
theorem dX6_likely_67 : decode cX6_likely 67 = .ok (.iload_n 1, 1) := by decide +kernel
theorem dX6_likely_68 : decode cX6_likely 68 = .ok (.imul, 1) := by decide +kernel
theorem dX6_likely_69 : decode cX6_likely 69 = .ok (.aload_n 0, 1) := by decide +kernel
theorem dX6_likely_70 : decode cX6_likely 70 = .ok (.getfield 139, 3) := by decide +kernel
theorem dX6_likely_73 : decode cX6_likely 73 = .ok (.iadd, 1) := by decide +kernel
theorem dX6_likely_74 : decode cX6_likely 74 = .ok (.iaload, 1) := by decide +kernel
theorem dX6_likely_75 : decode cX6_likely 75 = .ok (.dup2, 1) := by decide +kernel
theorem dX6_likely_76 : decode cX6_likely 76 = .ok (.iaload, 1) := by decide +kernel
theorem dX6_likely_77 : decode cX6_likely 77 = .ok (.iconst 1, 1) := by decide +kernel
theorem dX6_likely_78 : decode cX6_likely 78 = .ok (.iadd, 1) := by decide +kernel
theorem dX6_likely_79 : decode cX6_likely 79 = .ok (.iastore, 1) := by decide +kernel
theorem dX6_likely_80 : decode cX6_likely 80 = .ok (.iinc 1 1, 3) := by decide +kernel
theorem dX6_likely_83 : decode cX6_likely 83 = .ok (.goto (-55), 3) := by decide +kernel
theorem dX6_likely_86 : decode cX6_likely 86 = .ok (.bipush (-9), 2) := by decide +kernel
theorem dX6_likely_88 : decode cX6_likely 88 = .ok (.istore_n 1, 1) := by decide +kernel
theorem dX6_likely_89 : decode cX6_likely 89 = .ok (.iconst 0, 1) := by decide +kernel
theorem dX6_likely_90 : decode cX6_likely 90 = .ok (.istore_n 2, 1) := by decide +kernel
theorem dX6_likely_91 : decode cX6_likely 91 = .ok (.iconst 0, 1) := by decide +kernel
theorem dX6_likely_92 : decode cX6_likely 92 = .ok (.istore_n 3, 1) := by decide +kernel
theorem dX6_likely_93 : decode cX6_likely 93 = .ok (.iload_n 3, 1) := by decide +kernel
theorem dX6_likely_94 : decode cX6_likely 94 = .ok (.bipush 10, 2) := by decide +kernel
theorem dX6_likely_96 : decode cX6_likely 96 = .ok (.if_icmp .ge 46, 3) := by decide +kernel
theorem dX6_likely_99 : decode cX6_likely 99 = .ok (.aload_n 0, 1) := by decide +kernel
theorem dX6_likely_100 : decode cX6_likely 100 = .ok (.getfield 65, 3) := by decide +kernel
theorem dX6_likely_103 : decode cX6_likely 103 = .ok (.iload_n 3, 1) := by decide +kernel
theorem dX6_likely_104 : decode cX6_likely 104 = .ok (.iaload, 1) := by decide +kernel
theorem dX6_likely_105 : decode cX6_likely 105 = .ok (.iload_n 2, 1) := by decide +kernel
theorem dX6_likely_106 : decode cX6_likely 106 = .ok (.if_icmp .le 7, 3) := by decide +kernel
theorem dX6_likely_109 : decode cX6_likely 109 = .ok (.iload_n 3, 1) := by decide +kernel
theorem dX6_likely_110 : decode cX6_likely 110 = .ok (.goto 4, 3) := by decide +kernel
theorem dX6_likely_113 : decode cX6_likely 113 = .ok (.iload_n 1, 1) := by decide +kernel
theorem dX6_likely_114 : decode cX6_likely 114 = .ok (.istore_n 1, 1) := by decide +kernel
theorem dX6_likely_115 : decode cX6_likely 115 = .ok (.aload_n 0, 1) := by decide +kernel
theorem dX6_likely_116 : decode cX6_likely 116 = .ok (.getfield 65, 3) := by decide +kernel
theorem dX6_likely_119 : decode cX6_likely 119 = .ok (.iload_n 3, 1) := by decide +kernel
theorem dX6_likely_120 : decode cX6_likely 120 = .ok (.iaload, 1) := by decide +kernel
theorem dX6_likely_121 : decode cX6_likely 121 = .ok (.iload_n 2, 1) := by decide +kernel
theorem dX6_likely_122 : decode cX6_likely 122 = .ok (.if_icmp .le 12, 3) := by decide +kernel
theorem dX6_likely_125 : decode cX6_likely 125 = .ok (.aload_n 0, 1) := by decide +kernel
theorem dX6_likely_126 : decode cX6_likely 126 = .ok (.getfield 65, 3) := by decide +kernel
theorem dX6_likely_129 : decode cX6_likely 129 = .ok (.iload_n 3, 1) := by decide +kernel
theorem dX6_likely_130 : decode cX6_likely 130 = .ok (.iaload, 1) := by decide +kernel
theorem dX6_likely_131 : decode cX6_likely 131 = .ok (.goto 4, 3) := by decide +kernel
theorem dX6_likely_134 : decode cX6_likely 134 = .ok (.iload_n 2, 1) := by decide +kernel
theorem dX6_likely_135 : decode cX6_likely 135 = .ok (.istore_n 2, 1) := by decide +kernel
theorem dX6_likely_136 : decode cX6_likely 136 = .ok (.iinc 3 1, 3) := by decide +kernel
theorem dX6_likely_139 : decode cX6_likely 139 = .ok (.goto (-46), 3) := by decide +kernel
theorem dX6_likely_142 : decode cX6_likely 142 = .ok (.iload_n 1, 1) := by decide +kernel
theorem dX6_likely_143 : decode cX6_likely 143 = .ok (.ireturn, 1) := by decide +kernel
theorem dX6_wordsOf_0 : decode cX6_wordsOf 0 = .ok (.iconst 0, 1) := by decide +kernel
theorem dX6_wordsOf_1 : decode cX6_wordsOf 1 = .ok (.istore_n 2, 1) := by decide +kernel
theorem dX6_wordsOf_2 : decode cX6_wordsOf 2 = .ok (.iconst 0, 1) := by decide +kernel
theorem dX6_wordsOf_3 : decode cX6_wordsOf 3 = .ok (.istore_n 3, 1) := by decide +kernel
theorem dX6_wordsOf_4 : decode cX6_wordsOf 4 = .ok (.iload_n 3, 1) := by decide +kernel
theorem dX6_wordsOf_5 : decode cX6_wordsOf 5 = .ok (.aload_n 0, 1) := by decide +kernel
theorem dX6_wordsOf_6 : decode cX6_wordsOf 6 = .ok (.getfield 13, 3) := by decide +kernel
theorem dX6_wordsOf_9 : decode cX6_wordsOf 9 = .ok (.iconst 1, 1) := by decide +kernel
theorem dX6_wordsOf_10 : decode cX6_wordsOf 10 = .ok (.iaload, 1) := by decide +kernel
theorem dX6_wordsOf_11 : decode cX6_wordsOf 11 = .ok (.if_icmp .ge 30, 3) := by decide +kernel
theorem dX6_wordsOf_14 : decode cX6_wordsOf 14 = .ok (.iload_n 2, 1) := by decide +kernel
theorem dX6_wordsOf_15 : decode cX6_wordsOf 15 = .ok (.iload_n 1, 1) := by decide +kernel
theorem dX6_wordsOf_16 : decode cX6_wordsOf 16 = .ok (.iload_n 3, 1) := by decide +kernel
theorem dX6_wordsOf_17 : decode cX6_wordsOf 17 = .ok (.ishr, 1) := by decide +kernel
theorem dX6_wordsOf_18 : decode cX6_wordsOf 18 = .ok (.iconst 1, 1) := by decide +kernel
theorem dX6_wordsOf_19 : decode cX6_wordsOf 19 = .ok (.iand, 1) := by decide +kernel
theorem dX6_wordsOf_20 : decode cX6_wordsOf 20 = .ok (.iconst 1, 1) := by decide +kernel
theorem dX6_wordsOf_21 : decode cX6_wordsOf 21 = .ok (.if_icmp .ne 11, 3) := by decide +kernel
theorem dX6_wordsOf_24 : decode cX6_wordsOf 24 = .ok (.aload_n 0, 1) := by decide +kernel
theorem dX6_wordsOf_25 : decode cX6_wordsOf 25 = .ok (.iload_n 3, 1) := by decide +kernel
theorem dX6_wordsOf_26 : decode cX6_wordsOf 26 = .ok (.invokevirtual 151, 3) := by decide +kernel
theorem dX6_wordsOf_29 : decode cX6_wordsOf 29 = .ok (.goto 4, 3) := by decide +kernel
theorem dX6_wordsOf_32 : decode cX6_wordsOf 32 = .ok (.iconst 0, 1) := by decide +kernel
theorem dX6_wordsOf_33 : decode cX6_wordsOf 33 = .ok (.iadd, 1) := by decide +kernel
theorem dX6_wordsOf_34 : decode cX6_wordsOf 34 = .ok (.istore_n 2, 1) := by decide +kernel
theorem dX6_wordsOf_35 : decode cX6_wordsOf 35 = .ok (.iinc 3 1, 3) := by decide +kernel
theorem dX6_wordsOf_38 : decode cX6_wordsOf 38 = .ok (.goto (-34), 3) := by decide +kernel
theorem dX6_wordsOf_41 : decode cX6_wordsOf 41 = .ok (.iload_n 2, 1) := by decide +kernel
theorem dX6_wordsOf_42 : decode cX6_wordsOf 42 = .ok (.ireturn, 1) := by decide +kernel
theorem dX6_agree_0 : decode cX6_agree 0 = .ok (.iconst 1, 1) := by decide +kernel
theorem dX6_agree_1 : decode cX6_agree 1 = .ok (.istore_n 2, 1) := by decide +kernel
theorem dX6_agree_2 : decode cX6_agree 2 = .ok (.iconst 0, 1) := by decide +kernel
theorem dX6_agree_3 : decode cX6_agree 3 = .ok (.istore_n 3, 1) := by decide +kernel
theorem dX6_agree_4 : decode cX6_agree 4 = .ok (.iload_n 3, 1) := by decide +kernel
theorem dX6_agree_5 : decode cX6_agree 5 = .ok (.aload_n 0, 1) := by decide +kernel
theorem dX6_agree_6 : decode cX6_agree 6 = .ok (.getfield 13, 3) := by decide +kernel
theorem dX6_agree_9 : decode cX6_agree 9 = .ok (.iconst 1, 1) := by decide +kernel
theorem dX6_agree_10 : decode cX6_agree 10 = .ok (.iaload, 1) := by decide +kernel
theorem dX6_agree_11 : decode cX6_agree 11 = .ok (.if_icmp .ge 44, 3) := by decide +kernel
theorem dX6_agree_14 : decode cX6_agree 14 = .ok (.iload_n 2, 1) := by decide +kernel
theorem dX6_agree_15 : decode cX6_agree 15 = .ok (.ifCond .eq 32, 3) := by decide +kernel
theorem dX6_agree_18 : decode cX6_agree 18 = .ok (.iload_n 1, 1) := by decide +kernel
theorem dX6_agree_19 : decode cX6_agree 19 = .ok (.iload_n 3, 1) := by decide +kernel
theorem dX6_agree_20 : decode cX6_agree 20 = .ok (.ishr, 1) := by decide +kernel
theorem dX6_agree_21 : decode cX6_agree 21 = .ok (.iconst 1, 1) := by decide +kernel
theorem dX6_agree_22 : decode cX6_agree 22 = .ok (.iand, 1) := by decide +kernel
theorem dX6_agree_23 : decode cX6_agree 23 = .ok (.ifCond .eq 20, 3) := by decide +kernel
theorem dX6_agree_26 : decode cX6_agree 26 = .ok (.aload_n 0, 1) := by decide +kernel
theorem dX6_agree_27 : decode cX6_agree 27 = .ok (.getfield 43, 3) := by decide +kernel
theorem dX6_agree_30 : decode cX6_agree 30 = .ok (.iload_n 3, 1) := by decide +kernel
theorem dX6_agree_31 : decode cX6_agree 31 = .ok (.iaload, 1) := by decide +kernel
theorem dX6_agree_32 : decode cX6_agree 32 = .ok (.iload_n 1, 1) := by decide +kernel
theorem dX6_agree_33 : decode cX6_agree 33 = .ok (.aload_n 0, 1) := by decide +kernel
theorem dX6_agree_34 : decode cX6_agree 34 = .ok (.iconst 2, 1) := by decide +kernel
theorem dX6_agree_35 : decode cX6_agree 35 = .ok (.invokevirtual 170, 3) := by decide +kernel
theorem dX6_agree_38 : decode cX6_agree 38 = .ok (.ior, 1) := by decide +kernel
theorem dX6_agree_39 : decode cX6_agree 39 = .ok (.iand, 1) := by decide +kernel
theorem dX6_agree_40 : decode cX6_agree 40 = .ok (.ifCond .ne 7, 3) := by decide +kernel
theorem dX6_agree_43 : decode cX6_agree 43 = .ok (.iconst 1, 1) := by decide +kernel
theorem dX6_agree_44 : decode cX6_agree 44 = .ok (.goto 4, 3) := by decide +kernel
theorem dX6_agree_47 : decode cX6_agree 47 = .ok (.iconst 0, 1) := by decide +kernel
theorem dX6_agree_48 : decode cX6_agree 48 = .ok (.istore_n 2, 1) := by decide +kernel
theorem dX6_agree_49 : decode cX6_agree 49 = .ok (.iinc 3 1, 3) := by decide +kernel
theorem dX6_agree_52 : decode cX6_agree 52 = .ok (.goto (-48), 3) := by decide +kernel
theorem dX6_agree_55 : decode cX6_agree 55 = .ok (.iload_n 2, 1) := by decide +kernel
theorem dX6_agree_56 : decode cX6_agree 56 = .ok (.ireturn, 1) := by decide +kernel
theorem dX6_kept_0 : decode cX6_kept 0 = .ok (.aload_n 0, 1) := by decide +kernel
theorem dX6_kept_1 : decode cX6_kept 1 = .ok (.iconst 0, 1) := by decide +kernel
theorem dX6_kept_2 : decode cX6_kept 2 = .ok (.putfield 74, 3) := by decide +kernel
theorem dX6_kept_5 : decode cX6_kept 5 = .ok (.iload_n 1, 1) := by decide +kernel
theorem dX6_kept_6 : decode cX6_kept 6 = .ok (.iconst 0, 1) := by decide +kernel
theorem dX6_kept_7 : decode cX6_kept 7 = .ok (.iconst 1, 1) := by decide +kernel
theorem dX6_kept_8 : decode cX6_kept 8 = .ok (.invokestatic 78, 3) := by decide +kernel
theorem dX6_kept_11 : decode cX6_kept 11 = .ok (.ifCond .ne 5, 3) := by decide +kernel
theorem dX6_kept_14 : decode cX6_kept 14 = .ok (.iconst (-1), 1) := by decide +kernel
theorem dX6_kept_15 : decode cX6_kept 15 = .ok (.ireturn, 1) := by decide +kernel
theorem dX6_kept_16 : decode cX6_kept 16 = .ok (.iconst 0, 1) := by decide +kernel
theorem dX6_kept_17 : decode cX6_kept 17 = .ok (.istore_n 2, 1) := by decide +kernel
theorem dX6_kept_18 : decode cX6_kept 18 = .ok (.iconst 0, 1) := by decide +kernel
theorem dX6_kept_19 : decode cX6_kept 19 = .ok (.istore_n 3, 1) := by decide +kernel
theorem dX6_kept_20 : decode cX6_kept 20 = .ok (.iload_n 3, 1) := by decide +kernel
theorem dX6_kept_21 : decode cX6_kept 21 = .ok (.sipush 256, 3) := by decide +kernel
theorem dX6_kept_24 : decode cX6_kept 24 = .ok (.if_icmp .ge 48, 3) := by decide +kernel
theorem dX6_kept_27 : decode cX6_kept 27 = .ok (.iload_n 3, 1) := by decide +kernel
theorem dX6_kept_28 : decode cX6_kept 28 = .ok (.aload_n 0, 1) := by decide +kernel
theorem dX6_kept_29 : decode cX6_kept 29 = .ok (.iconst 1, 1) := by decide +kernel
theorem dX6_kept_30 : decode cX6_kept 30 = .ok (.invokevirtual 170, 3) := by decide +kernel
theorem dX6_kept_33 : decode cX6_kept 33 = .ok (.iconst (-1), 1) := by decide +kernel
theorem dX6_kept_34 : decode cX6_kept 34 = .ok (.ixor, 1) := by decide +kernel
theorem dX6_kept_35 : decode cX6_kept 35 = .ok (.iand, 1) := by decide +kernel
theorem dX6_kept_36 : decode cX6_kept 36 = .ok (.ifCond .ne 28, 3) := by decide +kernel
theorem dX6_kept_39 : decode cX6_kept 39 = .ok (.aload_n 0, 1) := by decide +kernel
theorem dX6_kept_40 : decode cX6_kept 40 = .ok (.iload_n 3, 1) := by decide +kernel
theorem dX6_kept_41 : decode cX6_kept 41 = .ok (.invokevirtual 182, 3) := by decide +kernel
theorem dX6_kept_44 : decode cX6_kept 44 = .ok (.aload_n 0, 1) := by decide +kernel
theorem dX6_kept_45 : decode cX6_kept 45 = .ok (.iload_n 2, 1) := by decide +kernel
theorem dX6_kept_46 : decode cX6_kept 46 = .ok (.invokevirtual 182, 3) := by decide +kernel
theorem dX6_kept_49 : decode cX6_kept 49 = .ok (.if_icmp .le 15, 3) := by decide +kernel
theorem dX6_kept_52 : decode cX6_kept 52 = .ok (.aload_n 0, 1) := by decide +kernel
theorem dX6_kept_53 : decode cX6_kept 53 = .ok (.iload_n 3, 1) := by decide +kernel
theorem dX6_kept_54 : decode cX6_kept 54 = .ok (.invokevirtual 185, 3) := by decide +kernel
theorem dX6_kept_57 : decode cX6_kept 57 = .ok (.ifCond .eq 7, 3) := by decide +kernel
theorem dX6_kept_60 : decode cX6_kept 60 = .ok (.iload_n 3, 1) := by decide +kernel
theorem dX6_kept_61 : decode cX6_kept 61 = .ok (.goto 4, 3) := by decide +kernel
theorem dX6_kept_64 : decode cX6_kept 64 = .ok (.iload_n 2, 1) := by decide +kernel
theorem dX6_kept_65 : decode cX6_kept 65 = .ok (.istore_n 2, 1) := by decide +kernel
theorem dX6_kept_66 : decode cX6_kept 66 = .ok (.iinc 3 1, 3) := by decide +kernel
theorem dX6_kept_69 : decode cX6_kept 69 = .ok (.goto (-49), 3) := by decide +kernel
theorem dX6_kept_72 : decode cX6_kept 72 = .ok (.iload_n 1, 1) := by decide +kernel
theorem dX6_kept_73 : decode cX6_kept 73 = .ok (.ifCond .ne 7, 3) := by decide +kernel
theorem dX6_kept_76 : decode cX6_kept 76 = .ok (.iload_n 2, 1) := by decide +kernel
theorem dX6_kept_77 : decode cX6_kept 77 = .ok (.goto 8, 3) := by decide +kernel
theorem dX6_kept_80 : decode cX6_kept 80 = .ok (.aload_n 0, 1) := by decide +kernel
theorem dX6_kept_81 : decode cX6_kept 81 = .ok (.iload_n 2, 1) := by decide +kernel
theorem dX6_kept_82 : decode cX6_kept 82 = .ok (.invokevirtual 182, 3) := by decide +kernel
theorem dX6_kept_85 : decode cX6_kept 85 = .ok (.ireturn, 1) := by decide +kernel
theorem dX6_soonest_0 : decode cX6_soonest 0 = .ok (.bipush (-9), 2) := by decide +kernel
theorem dX6_soonest_2 : decode cX6_soonest 2 = .ok (.istore_n 2, 1) := by decide +kernel
theorem dX6_soonest_3 : decode cX6_soonest 3 = .ok (.iconst 0, 1) := by decide +kernel
theorem dX6_soonest_4 : decode cX6_soonest 4 = .ok (.istore_n 3, 1) := by decide +kernel
theorem dX6_soonest_5 : decode cX6_soonest 5 = .ok (.iload_n 3, 1) := by decide +kernel
theorem dX6_soonest_6 : decode cX6_soonest 6 = .ok (.aload_n 0, 1) := by decide +kernel
theorem dX6_soonest_7 : decode cX6_soonest 7 = .ok (.getfield 13, 3) := by decide +kernel
theorem dX6_soonest_10 : decode cX6_soonest 10 = .ok (.iconst 1, 1) := by decide +kernel
theorem dX6_soonest_11 : decode cX6_soonest 11 = .ok (.iaload, 1) := by decide +kernel
theorem dX6_soonest_12 : decode cX6_soonest 12 = .ok (.if_icmp .ge 45, 3) := by decide +kernel
theorem dX6_soonest_15 : decode cX6_soonest 15 = .ok (.iload_n 1, 1) := by decide +kernel
theorem dX6_soonest_16 : decode cX6_soonest 16 = .ok (.iload_n 3, 1) := by decide +kernel
theorem dX6_soonest_17 : decode cX6_soonest 17 = .ok (.ishr, 1) := by decide +kernel
theorem dX6_soonest_18 : decode cX6_soonest 18 = .ok (.iconst 1, 1) := by decide +kernel
theorem dX6_soonest_19 : decode cX6_soonest 19 = .ok (.iand, 1) := by decide +kernel
theorem dX6_soonest_20 : decode cX6_soonest 20 = .ok (.iconst 1, 1) := by decide +kernel
theorem dX6_soonest_21 : decode cX6_soonest 21 = .ok (.if_icmp .ne 28, 3) := by decide +kernel
theorem dX6_soonest_24 : decode cX6_soonest 24 = .ok (.iload_n 2, 1) := by decide +kernel
theorem dX6_soonest_25 : decode cX6_soonest 25 = .ok (.bipush (-9), 2) := by decide +kernel
theorem dX6_soonest_27 : decode cX6_soonest 27 = .ok (.if_icmp .eq 18, 3) := by decide +kernel
theorem dX6_soonest_30 : decode cX6_soonest 30 = .ok (.aload_n 0, 1) := by decide +kernel
theorem dX6_soonest_31 : decode cX6_soonest 31 = .ok (.getfield 34, 3) := by decide +kernel
theorem dX6_soonest_34 : decode cX6_soonest 34 = .ok (.iload_n 3, 1) := by decide +kernel
theorem dX6_soonest_35 : decode cX6_soonest 35 = .ok (.iaload, 1) := by decide +kernel
theorem dX6_soonest_36 : decode cX6_soonest 36 = .ok (.aload_n 0, 1) := by decide +kernel
theorem dX6_soonest_37 : decode cX6_soonest 37 = .ok (.getfield 34, 3) := by decide +kernel
theorem dX6_soonest_40 : decode cX6_soonest 40 = .ok (.iload_n 2, 1) := by decide +kernel
theorem dX6_soonest_41 : decode cX6_soonest 41 = .ok (.iaload, 1) := by decide +kernel
theorem dX6_soonest_42 : decode cX6_soonest 42 = .ok (.if_icmp .ge 7, 3) := by decide +kernel
theorem dX6_soonest_45 : decode cX6_soonest 45 = .ok (.iload_n 3, 1) := by decide +kernel
theorem dX6_soonest_46 : decode cX6_soonest 46 = .ok (.goto 4, 3) := by decide +kernel
theorem dX6_soonest_49 : decode cX6_soonest 49 = .ok (.iload_n 2, 1) := by decide +kernel
theorem dX6_soonest_50 : decode cX6_soonest 50 = .ok (.istore_n 2, 1) := by decide +kernel
theorem dX6_soonest_51 : decode cX6_soonest 51 = .ok (.iinc 3 1, 3) := by decide +kernel
theorem dX6_soonest_54 : decode cX6_soonest 54 = .ok (.goto (-49), 3) := by decide +kernel
theorem dX6_soonest_57 : decode cX6_soonest 57 = .ok (.iload_n 2, 1) := by decide +kernel
theorem dX6_soonest_58 : decode cX6_soonest 58 = .ok (.ireturn, 1) := by decide +kernel
theorem dX6_canOrder_0 : decode cX6_canOrder 0 = .ok (.aload_n 0, 1) := by decide +kernel
theorem dX6_canOrder_1 : decode cX6_canOrder 1 = .ok (.getfield 46, 3) := by decide +kernel
theorem dX6_canOrder_4 : decode cX6_canOrder 4 = .ok (.iconst 0, 1) := by decide +kernel
theorem dX6_canOrder_5 : decode cX6_canOrder 5 = .ok (.iaload, 1) := by decide +kernel
theorem dX6_canOrder_6 : decode cX6_canOrder 6 = .ok (.istore_n 2, 1) := by decide +kernel
theorem dX6_canOrder_7 : decode cX6_canOrder 7 = .ok (.iconst 1, 1) := by decide +kernel
theorem dX6_canOrder_8 : decode cX6_canOrder 8 = .ok (.istore_n 3, 1) := by decide +kernel
theorem dX6_canOrder_9 : decode cX6_canOrder 9 = .ok (.iload_n 1, 1) := by decide +kernel
theorem dX6_canOrder_10 : decode cX6_canOrder 10 = .ok (.istore 4, 2) := by decide +kernel
theorem dX6_canOrder_12 : decode cX6_canOrder 12 = .ok (.iload 4, 2) := by decide +kernel
theorem dX6_canOrder_14 : decode cX6_canOrder 14 = .ok (.ifCond .eq 56, 3) := by decide +kernel
theorem dX6_canOrder_17 : decode cX6_canOrder 17 = .ok (.aload_n 0, 1) := by decide +kernel
theorem dX6_canOrder_18 : decode cX6_canOrder 18 = .ok (.iload 4, 2) := by decide +kernel
theorem dX6_canOrder_20 : decode cX6_canOrder 20 = .ok (.invokevirtual 188, 3) := by decide +kernel
theorem dX6_canOrder_23 : decode cX6_canOrder 23 = .ok (.istore 5, 2) := by decide +kernel
theorem dX6_canOrder_25 : decode cX6_canOrder 25 = .ok (.iload 4, 2) := by decide +kernel
theorem dX6_canOrder_27 : decode cX6_canOrder 27 = .ok (.iconst 1, 1) := by decide +kernel
theorem dX6_canOrder_28 : decode cX6_canOrder 28 = .ok (.iload 5, 2) := by decide +kernel
theorem dX6_canOrder_30 : decode cX6_canOrder 30 = .ok (.ishl, 1) := by decide +kernel
theorem dX6_canOrder_31 : decode cX6_canOrder 31 = .ok (.iconst (-1), 1) := by decide +kernel
theorem dX6_canOrder_32 : decode cX6_canOrder 32 = .ok (.ixor, 1) := by decide +kernel
theorem dX6_canOrder_33 : decode cX6_canOrder 33 = .ok (.iand, 1) := by decide +kernel
theorem dX6_canOrder_34 : decode cX6_canOrder 34 = .ok (.istore 4, 2) := by decide +kernel
theorem dX6_canOrder_36 : decode cX6_canOrder 36 = .ok (.iload_n 2, 1) := by decide +kernel
theorem dX6_canOrder_37 : decode cX6_canOrder 37 = .ok (.aload_n 0, 1) := by decide +kernel
theorem dX6_canOrder_38 : decode cX6_canOrder 38 = .ok (.getfield 31, 3) := by decide +kernel
theorem dX6_canOrder_41 : decode cX6_canOrder 41 = .ok (.iload 5, 2) := by decide +kernel
theorem dX6_canOrder_43 : decode cX6_canOrder 43 = .ok (.iaload, 1) := by decide +kernel
theorem dX6_canOrder_44 : decode cX6_canOrder 44 = .ok (.iadd, 1) := by decide +kernel
theorem dX6_canOrder_45 : decode cX6_canOrder 45 = .ok (.istore_n 2, 1) := by decide +kernel
theorem dX6_canOrder_46 : decode cX6_canOrder 46 = .ok (.iload_n 3, 1) := by decide +kernel
theorem dX6_canOrder_47 : decode cX6_canOrder 47 = .ok (.ifCond .eq 18, 3) := by decide +kernel
theorem dX6_canOrder_50 : decode cX6_canOrder 50 = .ok (.iload_n 2, 1) := by decide +kernel
theorem dX6_canOrder_51 : decode cX6_canOrder 51 = .ok (.aload_n 0, 1) := by decide +kernel
theorem dX6_canOrder_52 : decode cX6_canOrder 52 = .ok (.getfield 34, 3) := by decide +kernel
theorem dX6_canOrder_55 : decode cX6_canOrder 55 = .ok (.iload 5, 2) := by decide +kernel
theorem dX6_canOrder_57 : decode cX6_canOrder 57 = .ok (.iaload, 1) := by decide +kernel
theorem dX6_canOrder_58 : decode cX6_canOrder 58 = .ok (.if_icmp .gt 7, 3) := by decide +kernel
theorem dX6_canOrder_61 : decode cX6_canOrder 61 = .ok (.iconst 1, 1) := by decide +kernel
theorem dX6_canOrder_62 : decode cX6_canOrder 62 = .ok (.goto 4, 3) := by decide +kernel
theorem dX6_canOrder_65 : decode cX6_canOrder 65 = .ok (.iconst 0, 1) := by decide +kernel
theorem dX6_canOrder_66 : decode cX6_canOrder 66 = .ok (.istore_n 3, 1) := by decide +kernel
theorem dX6_canOrder_67 : decode cX6_canOrder 67 = .ok (.goto (-55), 3) := by decide +kernel
theorem dX6_canOrder_70 : decode cX6_canOrder 70 = .ok (.iload_n 3, 1) := by decide +kernel
theorem dX6_canOrder_71 : decode cX6_canOrder 71 = .ok (.ireturn, 1) := by decide +kernel
theorem dX6_order_0 : decode cX6_order 0 = .ok (.aload_n 0, 1) := by decide +kernel
theorem dX6_order_1 : decode cX6_order 1 = .ok (.iconst 0, 1) := by decide +kernel
theorem dX6_order_2 : decode cX6_order 2 = .ok (.putfield 74, 3) := by decide +kernel
theorem dX6_order_5 : decode cX6_order 5 = .ok (.iload_n 1, 1) := by decide +kernel
theorem dX6_order_6 : decode cX6_order 6 = .ok (.iconst (-1), 1) := by decide +kernel
theorem dX6_order_7 : decode cX6_order 7 = .ok (.bipush 7, 2) := by decide +kernel
theorem dX6_order_9 : decode cX6_order 9 = .ok (.invokestatic 78, 3) := by decide +kernel
theorem dX6_order_12 : decode cX6_order 12 = .ok (.ifCond .ne 5, 3) := by decide +kernel
theorem dX6_order_15 : decode cX6_order 15 = .ok (.iconst (-1), 1) := by decide +kernel
theorem dX6_order_16 : decode cX6_order 16 = .ok (.ireturn, 1) := by decide +kernel
theorem dX6_order_17 : decode cX6_order 17 = .ok (.iconst 0, 1) := by decide +kernel
theorem dX6_order_18 : decode cX6_order 18 = .ok (.istore_n 2, 1) := by decide +kernel
theorem dX6_order_19 : decode cX6_order 19 = .ok (.iconst 0, 1) := by decide +kernel
theorem dX6_order_20 : decode cX6_order 20 = .ok (.istore_n 3, 1) := by decide +kernel
theorem dX6_order_21 : decode cX6_order 21 = .ok (.iload_n 3, 1) := by decide +kernel
theorem dX6_order_22 : decode cX6_order 22 = .ok (.sipush 256, 3) := by decide +kernel
theorem dX6_order_25 : decode cX6_order 25 = .ok (.if_icmp .ge 46, 3) := by decide +kernel
theorem dX6_order_28 : decode cX6_order 28 = .ok (.iload_n 3, 1) := by decide +kernel
theorem dX6_order_29 : decode cX6_order 29 = .ok (.aload_n 0, 1) := by decide +kernel
theorem dX6_order_30 : decode cX6_order 30 = .ok (.iconst 1, 1) := by decide +kernel
theorem dX6_order_31 : decode cX6_order 31 = .ok (.invokevirtual 170, 3) := by decide +kernel
theorem dX6_order_34 : decode cX6_order 34 = .ok (.iconst (-1), 1) := by decide +kernel
theorem dX6_order_35 : decode cX6_order 35 = .ok (.ixor, 1) := by decide +kernel
theorem dX6_order_36 : decode cX6_order 36 = .ok (.iand, 1) := by decide +kernel
theorem dX6_order_37 : decode cX6_order 37 = .ok (.ifCond .ne 26, 3) := by decide +kernel
theorem dX6_order_40 : decode cX6_order 40 = .ok (.iload_n 3, 1) := by decide +kernel
theorem dX6_order_41 : decode cX6_order 41 = .ok (.invokestatic 176, 3) := by decide +kernel
theorem dX6_order_44 : decode cX6_order 44 = .ok (.iload_n 2, 1) := by decide +kernel
theorem dX6_order_45 : decode cX6_order 45 = .ok (.invokestatic 176, 3) := by decide +kernel
theorem dX6_order_48 : decode cX6_order 48 = .ok (.if_icmp .le 15, 3) := by decide +kernel
theorem dX6_order_51 : decode cX6_order 51 = .ok (.aload_n 0, 1) := by decide +kernel
theorem dX6_order_52 : decode cX6_order 52 = .ok (.iload_n 3, 1) := by decide +kernel
theorem dX6_order_53 : decode cX6_order 53 = .ok (.invokevirtual 191, 3) := by decide +kernel
theorem dX6_order_56 : decode cX6_order 56 = .ok (.ifCond .eq 7, 3) := by decide +kernel
theorem dX6_order_59 : decode cX6_order 59 = .ok (.iload_n 3, 1) := by decide +kernel
theorem dX6_order_60 : decode cX6_order 60 = .ok (.goto 4, 3) := by decide +kernel
theorem dX6_order_63 : decode cX6_order 63 = .ok (.iload_n 2, 1) := by decide +kernel
theorem dX6_order_64 : decode cX6_order 64 = .ok (.istore_n 2, 1) := by decide +kernel
theorem dX6_order_65 : decode cX6_order 65 = .ok (.iinc 3 1, 3) := by decide +kernel
theorem dX6_order_68 : decode cX6_order 68 = .ok (.goto (-47), 3) := by decide +kernel
theorem dX6_order_71 : decode cX6_order 71 = .ok (.iload_n 1, 1) := by decide +kernel
theorem dX6_order_72 : decode cX6_order 72 = .ok (.iconst (-1), 1) := by decide +kernel
theorem dX6_order_73 : decode cX6_order 73 = .ok (.if_icmp .ne 8, 3) := by decide +kernel
theorem dX6_order_76 : decode cX6_order 76 = .ok (.iload_n 2, 1) := by decide +kernel
theorem dX6_order_77 : decode cX6_order 77 = .ok (.invokestatic 176, 3) := by decide +kernel
theorem dX6_order_80 : decode cX6_order 80 = .ok (.ireturn, 1) := by decide +kernel
theorem dX6_order_81 : decode cX6_order 81 = .ok (.iload_n 2, 1) := by decide +kernel
theorem dX6_order_82 : decode cX6_order 82 = .ok (.istore_n 3, 1) := by decide +kernel
theorem dX6_order_83 : decode cX6_order 83 = .ok (.iconst 0, 1) := by decide +kernel
theorem dX6_order_84 : decode cX6_order 84 = .ok (.istore 4, 2) := by decide +kernel
theorem dX6_order_86 : decode cX6_order 86 = .ok (.iload 4, 2) := by decide +kernel
theorem dX6_order_88 : decode cX6_order 88 = .ok (.iload_n 1, 1) := by decide +kernel
theorem dX6_order_89 : decode cX6_order 89 = .ok (.if_icmp .ge 25, 3) := by decide +kernel
theorem dX6_order_92 : decode cX6_order 92 = .ok (.iload_n 3, 1) := by decide +kernel
theorem dX6_order_93 : decode cX6_order 93 = .ok (.ifCond .eq 21, 3) := by decide +kernel
theorem dX6_order_96 : decode cX6_order 96 = .ok (.iload_n 3, 1) := by decide +kernel
theorem dX6_order_97 : decode cX6_order 97 = .ok (.iconst 1, 1) := by decide +kernel
theorem dX6_order_98 : decode cX6_order 98 = .ok (.aload_n 0, 1) := by decide +kernel
theorem dX6_order_99 : decode cX6_order 99 = .ok (.iload_n 3, 1) := by decide +kernel
theorem dX6_order_100 : decode cX6_order 100 = .ok (.invokevirtual 188, 3) := by decide +kernel
theorem dX6_order_103 : decode cX6_order 103 = .ok (.ishl, 1) := by decide +kernel
theorem dX6_order_104 : decode cX6_order 104 = .ok (.iconst (-1), 1) := by decide +kernel
theorem dX6_order_105 : decode cX6_order 105 = .ok (.ixor, 1) := by decide +kernel
theorem dX6_order_106 : decode cX6_order 106 = .ok (.iand, 1) := by decide +kernel
theorem dX6_order_107 : decode cX6_order 107 = .ok (.istore_n 3, 1) := by decide +kernel
theorem dX6_order_108 : decode cX6_order 108 = .ok (.iinc 4 1, 3) := by decide +kernel
theorem dX6_order_111 : decode cX6_order 111 = .ok (.goto (-25), 3) := by decide +kernel
theorem dX6_order_114 : decode cX6_order 114 = .ok (.aload_n 0, 1) := by decide +kernel
theorem dX6_order_115 : decode cX6_order 115 = .ok (.iload_n 3, 1) := by decide +kernel
theorem dX6_order_116 : decode cX6_order 116 = .ok (.invokevirtual 188, 3) := by decide +kernel
theorem dX6_order_119 : decode cX6_order 119 = .ok (.ireturn, 1) := by decide +kernel
theorem dX6_staysFor_0 : decode cX6_staysFor 0 = .ok (.aload_n 0, 1) := by decide +kernel
theorem dX6_staysFor_1 : decode cX6_staysFor 1 = .ok (.invokevirtual 154, 3) := by decide +kernel
theorem dX6_staysFor_4 : decode cX6_staysFor 4 = .ok (.iconst 0, 1) := by decide +kernel
theorem dX6_staysFor_5 : decode cX6_staysFor 5 = .ok (.istore_n 3, 1) := by decide +kernel
theorem dX6_staysFor_6 : decode cX6_staysFor 6 = .ok (.iload_n 3, 1) := by decide +kernel
theorem dX6_staysFor_7 : decode cX6_staysFor 7 = .ok (.bipush 6, 2) := by decide +kernel
theorem dX6_staysFor_9 : decode cX6_staysFor 9 = .ok (.if_icmp .ge 34, 3) := by decide +kernel
theorem dX6_staysFor_12 : decode cX6_staysFor 12 = .ok (.aload_n 0, 1) := by decide +kernel
theorem dX6_staysFor_13 : decode cX6_staysFor 13 = .ok (.getfield 62, 3) := by decide +kernel
theorem dX6_staysFor_16 : decode cX6_staysFor 16 = .ok (.iload_n 3, 1) := by decide +kernel
theorem dX6_staysFor_17 : decode cX6_staysFor 17 = .ok (.iload_n 1, 1) := by decide +kernel
theorem dX6_staysFor_18 : decode cX6_staysFor 18 = .ok (.iload_n 3, 1) := by decide +kernel
theorem dX6_staysFor_19 : decode cX6_staysFor 19 = .ok (.ishr, 1) := by decide +kernel
theorem dX6_staysFor_20 : decode cX6_staysFor 20 = .ok (.iconst 1, 1) := by decide +kernel
theorem dX6_staysFor_21 : decode cX6_staysFor 21 = .ok (.iand, 1) := by decide +kernel
theorem dX6_staysFor_22 : decode cX6_staysFor 22 = .ok (.iconst 1, 1) := by decide +kernel
theorem dX6_staysFor_23 : decode cX6_staysFor 23 = .ok (.if_icmp .ne 7, 3) := by decide +kernel
theorem dX6_staysFor_26 : decode cX6_staysFor 26 = .ok (.iconst 0, 1) := by decide +kernel
theorem dX6_staysFor_27 : decode cX6_staysFor 27 = .ok (.goto 9, 3) := by decide +kernel
theorem dX6_staysFor_30 : decode cX6_staysFor 30 = .ok (.aload_n 0, 1) := by decide +kernel
theorem dX6_staysFor_31 : decode cX6_staysFor 31 = .ok (.getfield 62, 3) := by decide +kernel
theorem dX6_staysFor_34 : decode cX6_staysFor 34 = .ok (.iload_n 3, 1) := by decide +kernel
theorem dX6_staysFor_35 : decode cX6_staysFor 35 = .ok (.iaload, 1) := by decide +kernel
theorem dX6_staysFor_36 : decode cX6_staysFor 36 = .ok (.iastore, 1) := by decide +kernel
theorem dX6_staysFor_37 : decode cX6_staysFor 37 = .ok (.iinc 3 1, 3) := by decide +kernel
theorem dX6_staysFor_40 : decode cX6_staysFor 40 = .ok (.goto (-34), 3) := by decide +kernel
theorem dX6_staysFor_43 : decode cX6_staysFor 43 = .ok (.iconst 1, 1) := by decide +kernel
theorem dX6_staysFor_44 : decode cX6_staysFor 44 = .ok (.istore_n 3, 1) := by decide +kernel
theorem dX6_staysFor_45 : decode cX6_staysFor 45 = .ok (.iconst 0, 1) := by decide +kernel
theorem dX6_staysFor_46 : decode cX6_staysFor 46 = .ok (.istore 4, 2) := by decide +kernel
theorem dX6_staysFor_48 : decode cX6_staysFor 48 = .ok (.iload 4, 2) := by decide +kernel
theorem dX6_staysFor_50 : decode cX6_staysFor 50 = .ok (.iload_n 2, 1) := by decide +kernel
theorem dX6_staysFor_51 : decode cX6_staysFor 51 = .ok (.if_icmp .ge 26, 3) := by decide +kernel
theorem dX6_staysFor_54 : decode cX6_staysFor 54 = .ok (.iload_n 3, 1) := by decide +kernel
theorem dX6_staysFor_55 : decode cX6_staysFor 55 = .ok (.ifCond .eq 22, 3) := by decide +kernel
theorem dX6_staysFor_58 : decode cX6_staysFor 58 = .ok (.aload_n 0, 1) := by decide +kernel
theorem dX6_staysFor_59 : decode cX6_staysFor 59 = .ok (.invokevirtual 157, 3) := by decide +kernel
theorem dX6_staysFor_62 : decode cX6_staysFor 62 = .ok (.ifCond .ne 7, 3) := by decide +kernel
theorem dX6_staysFor_65 : decode cX6_staysFor 65 = .ok (.iconst 1, 1) := by decide +kernel
theorem dX6_staysFor_66 : decode cX6_staysFor 66 = .ok (.goto 4, 3) := by decide +kernel
theorem dX6_staysFor_69 : decode cX6_staysFor 69 = .ok (.iconst 0, 1) := by decide +kernel
theorem dX6_staysFor_70 : decode cX6_staysFor 70 = .ok (.istore_n 3, 1) := by decide +kernel
theorem dX6_staysFor_71 : decode cX6_staysFor 71 = .ok (.iinc 4 1, 3) := by decide +kernel
theorem dX6_staysFor_74 : decode cX6_staysFor 74 = .ok (.goto (-26), 3) := by decide +kernel
theorem dX6_staysFor_77 : decode cX6_staysFor 77 = .ok (.iload_n 3, 1) := by decide +kernel
theorem dX6_staysFor_78 : decode cX6_staysFor 78 = .ok (.ireturn, 1) := by decide +kernel
theorem dX6_drain_0 : decode cX6_drain 0 = .ok (.aload_n 0, 1) := by decide +kernel
theorem dX6_drain_1 : decode cX6_drain 1 = .ok (.iconst 0, 1) := by decide +kernel
theorem dX6_drain_2 : decode cX6_drain 2 = .ok (.putfield 74, 3) := by decide +kernel
theorem dX6_drain_5 : decode cX6_drain 5 = .ok (.iload_n 1, 1) := by decide +kernel
theorem dX6_drain_6 : decode cX6_drain 6 = .ok (.iconst 0, 1) := by decide +kernel
theorem dX6_drain_7 : decode cX6_drain 7 = .ok (.bipush 20, 2) := by decide +kernel
theorem dX6_drain_9 : decode cX6_drain 9 = .ok (.invokestatic 78, 3) := by decide +kernel
theorem dX6_drain_12 : decode cX6_drain 12 = .ok (.ifCond .ne 5, 3) := by decide +kernel
theorem dX6_drain_15 : decode cX6_drain 15 = .ok (.iconst (-1), 1) := by decide +kernel
theorem dX6_drain_16 : decode cX6_drain 16 = .ok (.ireturn, 1) := by decide +kernel
theorem dX6_drain_17 : decode cX6_drain 17 = .ok (.bipush (-9), 2) := by decide +kernel
theorem dX6_drain_19 : decode cX6_drain 19 = .ok (.istore_n 2, 1) := by decide +kernel
theorem dX6_drain_20 : decode cX6_drain 20 = .ok (.bipush 63, 2) := by decide +kernel
theorem dX6_drain_22 : decode cX6_drain 22 = .ok (.istore_n 3, 1) := by decide +kernel
theorem dX6_drain_23 : decode cX6_drain 23 = .ok (.iload_n 3, 1) := by decide +kernel
theorem dX6_drain_24 : decode cX6_drain 24 = .ok (.ifCond .lt 41, 3) := by decide +kernel
theorem dX6_drain_27 : decode cX6_drain 27 = .ok (.iload_n 2, 1) := by decide +kernel
theorem dX6_drain_28 : decode cX6_drain 28 = .ok (.bipush (-9), 2) := by decide +kernel
theorem dX6_drain_30 : decode cX6_drain 30 = .ok (.if_icmp .eq 14, 3) := by decide +kernel
theorem dX6_drain_33 : decode cX6_drain 33 = .ok (.iload_n 3, 1) := by decide +kernel
theorem dX6_drain_34 : decode cX6_drain 34 = .ok (.invokestatic 176, 3) := by decide +kernel
theorem dX6_drain_37 : decode cX6_drain 37 = .ok (.iload_n 2, 1) := by decide +kernel
theorem dX6_drain_38 : decode cX6_drain 38 = .ok (.invokestatic 176, 3) := by decide +kernel
theorem dX6_drain_41 : decode cX6_drain 41 = .ok (.if_icmp .gt 16, 3) := by decide +kernel
theorem dX6_drain_44 : decode cX6_drain 44 = .ok (.aload_n 0, 1) := by decide +kernel
theorem dX6_drain_45 : decode cX6_drain 45 = .ok (.iload_n 3, 1) := by decide +kernel
theorem dX6_drain_46 : decode cX6_drain 46 = .ok (.iload_n 1, 1) := by decide +kernel
theorem dX6_drain_47 : decode cX6_drain 47 = .ok (.invokevirtual 194, 3) := by decide +kernel
theorem dX6_drain_50 : decode cX6_drain 50 = .ok (.ifCond .eq 7, 3) := by decide +kernel
theorem dX6_drain_53 : decode cX6_drain 53 = .ok (.iload_n 3, 1) := by decide +kernel
theorem dX6_drain_54 : decode cX6_drain 54 = .ok (.goto 4, 3) := by decide +kernel
theorem dX6_drain_57 : decode cX6_drain 57 = .ok (.iload_n 2, 1) := by decide +kernel
theorem dX6_drain_58 : decode cX6_drain 58 = .ok (.istore_n 2, 1) := by decide +kernel
theorem dX6_drain_59 : decode cX6_drain 59 = .ok (.iinc 3 (-1), 3) := by decide +kernel
theorem dX6_drain_62 : decode cX6_drain 62 = .ok (.goto (-39), 3) := by decide +kernel
theorem dX6_drain_65 : decode cX6_drain 65 = .ok (.iload_n 2, 1) := by decide +kernel
theorem dX6_drain_66 : decode cX6_drain 66 = .ok (.ireturn, 1) := by decide +kernel
theorem dX6_power_0 : decode cX6_power 0 = .ok (.iconst 1, 1) := by decide +kernel
theorem dX6_power_1 : decode cX6_power 1 = .ok (.istore_n 2, 1) := by decide +kernel
theorem dX6_power_2 : decode cX6_power 2 = .ok (.iconst 0, 1) := by decide +kernel
theorem dX6_power_3 : decode cX6_power 3 = .ok (.istore_n 3, 1) := by decide +kernel
theorem dX6_power_4 : decode cX6_power 4 = .ok (.iload_n 3, 1) := by decide +kernel
theorem dX6_power_5 : decode cX6_power 5 = .ok (.iload_n 1, 1) := by decide +kernel
theorem dX6_power_6 : decode cX6_power 6 = .ok (.if_icmp .ge 13, 3) := by decide +kernel
theorem dX6_power_9 : decode cX6_power 9 = .ok (.iload_n 2, 1) := by decide +kernel
theorem dX6_power_10 : decode cX6_power 10 = .ok (.iload_n 0, 1) := by decide +kernel
theorem dX6_power_11 : decode cX6_power 11 = .ok (.imul, 1) := by decide +kernel
theorem dX6_power_12 : decode cX6_power 12 = .ok (.istore_n 2, 1) := by decide +kernel
theorem dX6_power_13 : decode cX6_power 13 = .ok (.iinc 3 1, 3) := by decide +kernel
theorem dX6_power_16 : decode cX6_power 16 = .ok (.goto (-12), 3) := by decide +kernel
theorem dX6_power_19 : decode cX6_power 19 = .ok (.iload_n 2, 1) := by decide +kernel
theorem dX6_power_20 : decode cX6_power 20 = .ok (.ireturn, 1) := by decide +kernel
theorem dX6_gcd_0 : decode cX6_gcd 0 = .ok (.iload_n 0, 1) := by decide +kernel
theorem dX6_gcd_1 : decode cX6_gcd 1 = .ok (.istore_n 2, 1) := by decide +kernel
theorem dX6_gcd_2 : decode cX6_gcd 2 = .ok (.iload_n 1, 1) := by decide +kernel
theorem dX6_gcd_3 : decode cX6_gcd 3 = .ok (.istore_n 3, 1) := by decide +kernel
theorem dX6_gcd_4 : decode cX6_gcd 4 = .ok (.iload_n 3, 1) := by decide +kernel
theorem dX6_gcd_5 : decode cX6_gcd 5 = .ok (.ifCond .eq 16, 3) := by decide +kernel
theorem dX6_gcd_8 : decode cX6_gcd 8 = .ok (.iload_n 2, 1) := by decide +kernel
theorem dX6_gcd_9 : decode cX6_gcd 9 = .ok (.iload_n 3, 1) := by decide +kernel
theorem dX6_gcd_10 : decode cX6_gcd 10 = .ok (.irem, 1) := by decide +kernel
theorem dX6_gcd_11 : decode cX6_gcd 11 = .ok (.istore 4, 2) := by decide +kernel
theorem dX6_gcd_13 : decode cX6_gcd 13 = .ok (.iload_n 3, 1) := by decide +kernel
theorem dX6_gcd_14 : decode cX6_gcd 14 = .ok (.istore_n 2, 1) := by decide +kernel
theorem dX6_gcd_15 : decode cX6_gcd 15 = .ok (.iload 4, 2) := by decide +kernel
theorem dX6_gcd_17 : decode cX6_gcd 17 = .ok (.istore_n 3, 1) := by decide +kernel
theorem dX6_gcd_18 : decode cX6_gcd 18 = .ok (.goto (-14), 3) := by decide +kernel
theorem dX6_gcd_21 : decode cX6_gcd 21 = .ok (.iload_n 2, 1) := by decide +kernel
theorem dX6_gcd_22 : decode cX6_gcd 22 = .ok (.ireturn, 1) := by decide +kernel
theorem dX6_odds_0 : decode cX6_odds 0 = .ok (.aload_n 0, 1) := by decide +kernel
theorem dX6_odds_1 : decode cX6_odds 1 = .ok (.iconst 0, 1) := by decide +kernel
theorem dX6_odds_2 : decode cX6_odds 2 = .ok (.putfield 74, 3) := by decide +kernel
theorem dX6_odds_5 : decode cX6_odds 5 = .ok (.iload_n 1, 1) := by decide +kernel
theorem dX6_odds_6 : decode cX6_odds 6 = .ok (.iconst 0, 1) := by decide +kernel
theorem dX6_odds_7 : decode cX6_odds 7 = .ok (.bipush 10, 2) := by decide +kernel
theorem dX6_odds_9 : decode cX6_odds 9 = .ok (.invokestatic 78, 3) := by decide +kernel
theorem dX6_odds_12 : decode cX6_odds 12 = .ok (.ifCond .eq 33, 3) := by decide +kernel
theorem dX6_odds_15 : decode cX6_odds 15 = .ok (.iload_n 2, 1) := by decide +kernel
theorem dX6_odds_16 : decode cX6_odds 16 = .ok (.iconst 0, 1) := by decide +kernel
theorem dX6_odds_17 : decode cX6_odds 17 = .ok (.bipush 6, 2) := by decide +kernel
theorem dX6_odds_19 : decode cX6_odds 19 = .ok (.invokestatic 78, 3) := by decide +kernel
theorem dX6_odds_22 : decode cX6_odds 22 = .ok (.ifCond .eq 23, 3) := by decide +kernel
theorem dX6_odds_25 : decode cX6_odds 25 = .ok (.iload_n 3, 1) := by decide +kernel
theorem dX6_odds_26 : decode cX6_odds 26 = .ok (.iconst 0, 1) := by decide +kernel
theorem dX6_odds_27 : decode cX6_odds 27 = .ok (.bipush 6, 2) := by decide +kernel
theorem dX6_odds_29 : decode cX6_odds 29 = .ok (.invokestatic 78, 3) := by decide +kernel
theorem dX6_odds_32 : decode cX6_odds 32 = .ok (.ifCond .eq 13, 3) := by decide +kernel
theorem dX6_odds_35 : decode cX6_odds 35 = .ok (.iload 4, 2) := by decide +kernel
theorem dX6_odds_37 : decode cX6_odds 37 = .ok (.iconst 0, 1) := by decide +kernel
theorem dX6_odds_38 : decode cX6_odds 38 = .ok (.iconst 1, 1) := by decide +kernel
theorem dX6_odds_39 : decode cX6_odds 39 = .ok (.invokestatic 78, 3) := by decide +kernel
theorem dX6_odds_42 : decode cX6_odds 42 = .ok (.ifCond .ne 5, 3) := by decide +kernel
theorem dX6_odds_45 : decode cX6_odds 45 = .ok (.iconst (-1), 1) := by decide +kernel
theorem dX6_odds_46 : decode cX6_odds 46 = .ok (.ireturn, 1) := by decide +kernel
theorem dX6_odds_47 : decode cX6_odds 47 = .ok (.iconst 0, 1) := by decide +kernel
theorem dX6_odds_48 : decode cX6_odds 48 = .ok (.istore 5, 2) := by decide +kernel
theorem dX6_odds_50 : decode cX6_odds 50 = .ok (.iconst 0, 1) := by decide +kernel
theorem dX6_odds_51 : decode cX6_odds 51 = .ok (.istore 6, 2) := by decide +kernel
theorem dX6_odds_53 : decode cX6_odds 53 = .ok (.iload 6, 2) := by decide +kernel
theorem dX6_odds_55 : decode cX6_odds 55 = .ok (.iconst 1, 1) := by decide +kernel
theorem dX6_odds_56 : decode cX6_odds 56 = .ok (.iload_n 2, 1) := by decide +kernel
theorem dX6_odds_57 : decode cX6_odds 57 = .ok (.ishl, 1) := by decide +kernel
theorem dX6_odds_58 : decode cX6_odds 58 = .ok (.if_icmp .ge 51, 3) := by decide +kernel
theorem dX6_odds_61 : decode cX6_odds 61 = .ok (.iload 5, 2) := by decide +kernel
theorem dX6_odds_63 : decode cX6_odds 63 = .ok (.iload 6, 2) := by decide +kernel
theorem dX6_odds_65 : decode cX6_odds 65 = .ok (.invokestatic 176, 3) := by decide +kernel
theorem dX6_odds_68 : decode cX6_odds 68 = .ok (.iload_n 3, 1) := by decide +kernel
theorem dX6_odds_69 : decode cX6_odds 69 = .ok (.if_icmp .lt 30, 3) := by decide +kernel
theorem dX6_odds_72 : decode cX6_odds 72 = .ok (.iload_n 1, 1) := by decide +kernel
theorem dX6_odds_73 : decode cX6_odds 73 = .ok (.iload 6, 2) := by decide +kernel
theorem dX6_odds_75 : decode cX6_odds 75 = .ok (.invokestatic 176, 3) := by decide +kernel
theorem dX6_odds_78 : decode cX6_odds 78 = .ok (.invokestatic 198, 3) := by decide +kernel
theorem dX6_odds_81 : decode cX6_odds 81 = .ok (.bipush 10, 2) := by decide +kernel
theorem dX6_odds_83 : decode cX6_odds 83 = .ok (.iload_n 1, 1) := by decide +kernel
theorem dX6_odds_84 : decode cX6_odds 84 = .ok (.isub, 1) := by decide +kernel
theorem dX6_odds_85 : decode cX6_odds 85 = .ok (.iload_n 2, 1) := by decide +kernel
theorem dX6_odds_86 : decode cX6_odds 86 = .ok (.iload 6, 2) := by decide +kernel
theorem dX6_odds_88 : decode cX6_odds 88 = .ok (.invokestatic 176, 3) := by decide +kernel
theorem dX6_odds_91 : decode cX6_odds 91 = .ok (.isub, 1) := by decide +kernel
theorem dX6_odds_92 : decode cX6_odds 92 = .ok (.invokestatic 198, 3) := by decide +kernel
theorem dX6_odds_95 : decode cX6_odds 95 = .ok (.imul, 1) := by decide +kernel
theorem dX6_odds_96 : decode cX6_odds 96 = .ok (.goto 4, 3) := by decide +kernel
theorem dX6_odds_99 : decode cX6_odds 99 = .ok (.iconst 0, 1) := by decide +kernel
theorem dX6_odds_100 : decode cX6_odds 100 = .ok (.iadd, 1) := by decide +kernel
theorem dX6_odds_101 : decode cX6_odds 101 = .ok (.istore 5, 2) := by decide +kernel
theorem dX6_odds_103 : decode cX6_odds 103 = .ok (.iinc 6 1, 3) := by decide +kernel
theorem dX6_odds_106 : decode cX6_odds 106 = .ok (.goto (-53), 3) := by decide +kernel
theorem dX6_odds_109 : decode cX6_odds 109 = .ok (.bipush 10, 2) := by decide +kernel
theorem dX6_odds_111 : decode cX6_odds 111 = .ok (.iload_n 2, 1) := by decide +kernel
theorem dX6_odds_112 : decode cX6_odds 112 = .ok (.invokestatic 198, 3) := by decide +kernel
theorem dX6_odds_115 : decode cX6_odds 115 = .ok (.istore 6, 2) := by decide +kernel
theorem dX6_odds_117 : decode cX6_odds 117 = .ok (.iload 5, 2) := by decide +kernel
theorem dX6_odds_119 : decode cX6_odds 119 = .ok (.iload 6, 2) := by decide +kernel
theorem dX6_odds_121 : decode cX6_odds 121 = .ok (.invokestatic 201, 3) := by decide +kernel
theorem dX6_odds_124 : decode cX6_odds 124 = .ok (.istore 7, 2) := by decide +kernel
theorem dX6_odds_126 : decode cX6_odds 126 = .ok (.iload 4, 2) := by decide +kernel
theorem dX6_odds_128 : decode cX6_odds 128 = .ok (.ifCond .ne 11, 3) := by decide +kernel
theorem dX6_odds_131 : decode cX6_odds 131 = .ok (.iload 5, 2) := by decide +kernel
theorem dX6_odds_133 : decode cX6_odds 133 = .ok (.iload 7, 2) := by decide +kernel
theorem dX6_odds_135 : decode cX6_odds 135 = .ok (.idiv, 1) := by decide +kernel
theorem dX6_odds_136 : decode cX6_odds 136 = .ok (.goto 8, 3) := by decide +kernel
theorem dX6_odds_139 : decode cX6_odds 139 = .ok (.iload 6, 2) := by decide +kernel
theorem dX6_odds_141 : decode cX6_odds 141 = .ok (.iload 7, 2) := by decide +kernel
theorem dX6_odds_143 : decode cX6_odds 143 = .ok (.idiv, 1) := by decide +kernel
theorem dX6_odds_144 : decode cX6_odds 144 = .ok (.ireturn, 1) := by decide +kernel
theorem dX6_rate_0 : decode cX6_rate 0 = .ok (.aload_n 0, 1) := by decide +kernel
theorem dX6_rate_1 : decode cX6_rate 1 = .ok (.iconst 0, 1) := by decide +kernel
theorem dX6_rate_2 : decode cX6_rate 2 = .ok (.putfield 74, 3) := by decide +kernel
theorem dX6_rate_5 : decode cX6_rate 5 = .ok (.iload_n 1, 1) := by decide +kernel
theorem dX6_rate_6 : decode cX6_rate 6 = .ok (.iconst 0, 1) := by decide +kernel
theorem dX6_rate_7 : decode cX6_rate 7 = .ok (.iconst 5, 1) := by decide +kernel
theorem dX6_rate_8 : decode cX6_rate 8 = .ok (.invokestatic 78, 3) := by decide +kernel
theorem dX6_rate_11 : decode cX6_rate 11 = .ok (.ifCond .eq 11, 3) := by decide +kernel
theorem dX6_rate_14 : decode cX6_rate 14 = .ok (.aload_n 0, 1) := by decide +kernel
theorem dX6_rate_15 : decode cX6_rate 15 = .ok (.iload_n 2, 1) := by decide +kernel
theorem dX6_rate_16 : decode cX6_rate 16 = .ok (.invokevirtual 148, 3) := by decide +kernel
theorem dX6_rate_19 : decode cX6_rate 19 = .ok (.ifCond .ne 6, 3) := by decide +kernel
theorem dX6_rate_22 : decode cX6_rate 22 = .ok (.ldc 204, 2) := by decide +kernel
theorem dX6_rate_24 : decode cX6_rate 24 = .ok (.ireturn, 1) := by decide +kernel
theorem dX6_rate_25 : decode cX6_rate 25 = .ok (.aload_n 0, 1) := by decide +kernel
theorem dX6_rate_26 : decode cX6_rate 26 = .ok (.iload_n 2, 1) := by decide +kernel
theorem dX6_rate_27 : decode cX6_rate 27 = .ok (.invokevirtual 151, 3) := by decide +kernel
theorem dX6_rate_30 : decode cX6_rate 30 = .ok (.istore_n 3, 1) := by decide +kernel
theorem dX6_rate_31 : decode cX6_rate 31 = .ok (.iload_n 3, 1) := by decide +kernel
theorem dX6_rate_32 : decode cX6_rate 32 = .ok (.aload_n 0, 1) := by decide +kernel
theorem dX6_rate_33 : decode cX6_rate 33 = .ok (.getfield 28, 3) := by decide +kernel
theorem dX6_rate_36 : decode cX6_rate 36 = .ok (.iload_n 2, 1) := by decide +kernel
theorem dX6_rate_37 : decode cX6_rate 37 = .ok (.iaload, 1) := by decide +kernel
theorem dX6_rate_38 : decode cX6_rate 38 = .ok (.iadd, 1) := by decide +kernel
theorem dX6_rate_39 : decode cX6_rate 39 = .ok (.istore 4, 2) := by decide +kernel
theorem dX6_rate_41 : decode cX6_rate 41 = .ok (.iload_n 3, 1) := by decide +kernel
theorem dX6_rate_42 : decode cX6_rate 42 = .ok (.aload_n 0, 1) := by decide +kernel
theorem dX6_rate_43 : decode cX6_rate 43 = .ok (.getfield 31, 3) := by decide +kernel
theorem dX6_rate_46 : decode cX6_rate 46 = .ok (.iload_n 2, 1) := by decide +kernel
theorem dX6_rate_47 : decode cX6_rate 47 = .ok (.iaload, 1) := by decide +kernel
theorem dX6_rate_48 : decode cX6_rate 48 = .ok (.isub, 1) := by decide +kernel
theorem dX6_rate_49 : decode cX6_rate 49 = .ok (.istore 5, 2) := by decide +kernel
theorem dX6_rate_51 : decode cX6_rate 51 = .ok (.aload_n 0, 1) := by decide +kernel
theorem dX6_rate_52 : decode cX6_rate 52 = .ok (.dup, 1) := by decide +kernel
theorem dX6_rate_53 : decode cX6_rate 53 = .ok (.getfield 205, 3) := by decide +kernel
theorem dX6_rate_56 : decode cX6_rate 56 = .ok (.iload_n 1, 1) := by decide +kernel
theorem dX6_rate_57 : decode cX6_rate 57 = .ok (.ifCond .ne 7, 3) := by decide +kernel
theorem dX6_rate_60 : decode cX6_rate 60 = .ok (.lconst 1, 1) := by decide +kernel
theorem dX6_rate_61 : decode cX6_rate 61 = .ok (.goto 50, 3) := by decide +kernel
theorem dX6_rate_64 : decode cX6_rate 64 = .ok (.iload_n 1, 1) := by decide +kernel
theorem dX6_rate_65 : decode cX6_rate 65 = .ok (.iconst 1, 1) := by decide +kernel
theorem dX6_rate_66 : decode cX6_rate 66 = .ok (.if_icmp .ne 9, 3) := by decide +kernel
theorem dX6_rate_69 : decode cX6_rate 69 = .ok (.ldc2_w 209, 3) := by decide +kernel
theorem dX6_rate_72 : decode cX6_rate 72 = .ok (.goto 39, 3) := by decide +kernel
theorem dX6_rate_75 : decode cX6_rate 75 = .ok (.iload_n 1, 1) := by decide +kernel
theorem dX6_rate_76 : decode cX6_rate 76 = .ok (.iconst 2, 1) := by decide +kernel
theorem dX6_rate_77 : decode cX6_rate 77 = .ok (.if_icmp .ne 9, 3) := by decide +kernel
theorem dX6_rate_80 : decode cX6_rate 80 = .ok (.ldc2_w 211, 3) := by decide +kernel
theorem dX6_rate_83 : decode cX6_rate 83 = .ok (.goto 28, 3) := by decide +kernel
theorem dX6_rate_86 : decode cX6_rate 86 = .ok (.iload_n 1, 1) := by decide +kernel
theorem dX6_rate_87 : decode cX6_rate 87 = .ok (.iconst 3, 1) := by decide +kernel
theorem dX6_rate_88 : decode cX6_rate 88 = .ok (.if_icmp .ne 9, 3) := by decide +kernel
theorem dX6_rate_91 : decode cX6_rate 91 = .ok (.ldc2_w 213, 3) := by decide +kernel
theorem dX6_rate_94 : decode cX6_rate 94 = .ok (.goto 17, 3) := by decide +kernel
theorem dX6_rate_97 : decode cX6_rate 97 = .ok (.iload_n 1, 1) := by decide +kernel
theorem dX6_rate_98 : decode cX6_rate 98 = .ok (.iconst 4, 1) := by decide +kernel
theorem dX6_rate_99 : decode cX6_rate 99 = .ok (.if_icmp .ne 9, 3) := by decide +kernel
theorem dX6_rate_102 : decode cX6_rate 102 = .ok (.ldc2_w 215, 3) := by decide +kernel
theorem dX6_rate_105 : decode cX6_rate 105 = .ok (.goto 6, 3) := by decide +kernel
theorem dX6_rate_108 : decode cX6_rate 108 = .ok (.ldc2_w 217, 3) := by decide +kernel
theorem dX6_rate_111 : decode cX6_rate 111 = .ok (.ladd, 1) := by decide +kernel
theorem dX6_rate_112 : decode cX6_rate 112 = .ok (.putfield 205, 3) := by decide +kernel
theorem dX6_rate_115 : decode cX6_rate 115 = .ok (.iload_n 1, 1) := by decide +kernel
theorem dX6_rate_116 : decode cX6_rate 116 = .ok (.ifCond .ne 7, 3) := by decide +kernel
theorem dX6_rate_119 : decode cX6_rate 119 = .ok (.iload_n 3, 1) := by decide +kernel
theorem dX6_rate_120 : decode cX6_rate 120 = .ok (.goto 55, 3) := by decide +kernel
theorem dX6_rate_123 : decode cX6_rate 123 = .ok (.iload_n 1, 1) := by decide +kernel
theorem dX6_rate_124 : decode cX6_rate 124 = .ok (.iconst 1, 1) := by decide +kernel
theorem dX6_rate_125 : decode cX6_rate 125 = .ok (.if_icmp .ne 8, 3) := by decide +kernel
theorem dX6_rate_128 : decode cX6_rate 128 = .ok (.iload 4, 2) := by decide +kernel
theorem dX6_rate_130 : decode cX6_rate 130 = .ok (.goto 45, 3) := by decide +kernel
theorem dX6_rate_133 : decode cX6_rate 133 = .ok (.iload_n 1, 1) := by decide +kernel
theorem dX6_rate_134 : decode cX6_rate 134 = .ok (.iconst 2, 1) := by decide +kernel
theorem dX6_rate_135 : decode cX6_rate 135 = .ok (.if_icmp .ne 8, 3) := by decide +kernel
theorem dX6_rate_138 : decode cX6_rate 138 = .ok (.iload 5, 2) := by decide +kernel
theorem dX6_rate_140 : decode cX6_rate 140 = .ok (.goto 35, 3) := by decide +kernel
theorem dX6_rate_143 : decode cX6_rate 143 = .ok (.iload_n 1, 1) := by decide +kernel
theorem dX6_rate_144 : decode cX6_rate 144 = .ok (.iconst 3, 1) := by decide +kernel
theorem dX6_rate_145 : decode cX6_rate 145 = .ok (.if_icmp .ne 10, 3) := by decide +kernel
theorem dX6_rate_148 : decode cX6_rate 148 = .ok (.iconst 2, 1) := by decide +kernel
theorem dX6_rate_149 : decode cX6_rate 149 = .ok (.iload 4, 2) := by decide +kernel
theorem dX6_rate_151 : decode cX6_rate 151 = .ok (.imul, 1) := by decide +kernel
theorem dX6_rate_152 : decode cX6_rate 152 = .ok (.goto 23, 3) := by decide +kernel
theorem dX6_rate_155 : decode cX6_rate 155 = .ok (.iload_n 1, 1) := by decide +kernel
theorem dX6_rate_156 : decode cX6_rate 156 = .ok (.iconst 4, 1) := by decide +kernel
theorem dX6_rate_157 : decode cX6_rate 157 = .ok (.if_icmp .ne 10, 3) := by decide +kernel
theorem dX6_rate_160 : decode cX6_rate 160 = .ok (.iload 5, 2) := by decide +kernel
theorem dX6_rate_162 : decode cX6_rate 162 = .ok (.iload_n 2, 1) := by decide +kernel
theorem dX6_rate_163 : decode cX6_rate 163 = .ok (.iadd, 1) := by decide +kernel
theorem dX6_rate_164 : decode cX6_rate 164 = .ok (.goto 11, 3) := by decide +kernel
theorem dX6_rate_167 : decode cX6_rate 167 = .ok (.iload_n 3, 1) := by decide +kernel
theorem dX6_rate_168 : decode cX6_rate 168 = .ok (.aload_n 0, 1) := by decide +kernel
theorem dX6_rate_169 : decode cX6_rate 169 = .ok (.getfield 46, 3) := by decide +kernel
theorem dX6_rate_172 : decode cX6_rate 172 = .ok (.iconst 0, 1) := by decide +kernel
theorem dX6_rate_173 : decode cX6_rate 173 = .ok (.iaload, 1) := by decide +kernel
theorem dX6_rate_174 : decode cX6_rate 174 = .ok (.iadd, 1) := by decide +kernel
theorem dX6_rate_175 : decode cX6_rate 175 = .ok (.ireturn, 1) := by decide +kernel
theorem dX6_keep_0 : decode cX6_keep 0 = .ok (.aload_n 0, 1) := by decide +kernel
theorem dX6_keep_1 : decode cX6_keep 1 = .ok (.iconst 0, 1) := by decide +kernel
theorem dX6_keep_2 : decode cX6_keep 2 = .ok (.putfield 74, 3) := by decide +kernel
theorem dX6_keep_5 : decode cX6_keep 5 = .ok (.iload_n 1, 1) := by decide +kernel
theorem dX6_keep_6 : decode cX6_keep 6 = .ok (.iconst 0, 1) := by decide +kernel
theorem dX6_keep_7 : decode cX6_keep 7 = .ok (.iconst 1, 1) := by decide +kernel
theorem dX6_keep_8 : decode cX6_keep 8 = .ok (.invokestatic 78, 3) := by decide +kernel
theorem dX6_keep_11 : decode cX6_keep 11 = .ok (.ifCond .ne 5, 3) := by decide +kernel
theorem dX6_keep_14 : decode cX6_keep 14 = .ok (.iconst (-1), 1) := by decide +kernel
theorem dX6_keep_15 : decode cX6_keep 15 = .ok (.ireturn, 1) := by decide +kernel
theorem dX6_keep_16 : decode cX6_keep 16 = .ok (.iconst 0, 1) := by decide +kernel
theorem dX6_keep_17 : decode cX6_keep 17 = .ok (.istore_n 2, 1) := by decide +kernel
theorem dX6_keep_18 : decode cX6_keep 18 = .ok (.iload_n 2, 1) := by decide +kernel
theorem dX6_keep_19 : decode cX6_keep 19 = .ok (.bipush 37, 2) := by decide +kernel
theorem dX6_keep_21 : decode cX6_keep 21 = .ok (.if_icmp .ge 26, 3) := by decide +kernel
theorem dX6_keep_24 : decode cX6_keep 24 = .ok (.aload_n 0, 1) := by decide +kernel
theorem dX6_keep_25 : decode cX6_keep 25 = .ok (.getfield 49, 3) := by decide +kernel
theorem dX6_keep_28 : decode cX6_keep 28 = .ok (.bipush 37, 2) := by decide +kernel
theorem dX6_keep_30 : decode cX6_keep 30 = .ok (.iload_n 1, 1) := by decide +kernel
theorem dX6_keep_31 : decode cX6_keep 31 = .ok (.imul, 1) := by decide +kernel
theorem dX6_keep_32 : decode cX6_keep 32 = .ok (.iload_n 2, 1) := by decide +kernel
theorem dX6_keep_33 : decode cX6_keep 33 = .ok (.iadd, 1) := by decide +kernel
theorem dX6_keep_34 : decode cX6_keep 34 = .ok (.aload_n 0, 1) := by decide +kernel
theorem dX6_keep_35 : decode cX6_keep 35 = .ok (.getfield 46, 3) := by decide +kernel
theorem dX6_keep_38 : decode cX6_keep 38 = .ok (.iload_n 2, 1) := by decide +kernel
theorem dX6_keep_39 : decode cX6_keep 39 = .ok (.iaload, 1) := by decide +kernel
theorem dX6_keep_40 : decode cX6_keep 40 = .ok (.iastore, 1) := by decide +kernel
theorem dX6_keep_41 : decode cX6_keep 41 = .ok (.iinc 2 1, 3) := by decide +kernel
theorem dX6_keep_44 : decode cX6_keep 44 = .ok (.goto (-26), 3) := by decide +kernel
theorem dX6_keep_47 : decode cX6_keep 47 = .ok (.aload_n 0, 1) := by decide +kernel
theorem dX6_keep_48 : decode cX6_keep 48 = .ok (.getfield 52, 3) := by decide +kernel
theorem dX6_keep_51 : decode cX6_keep 51 = .ok (.iload_n 1, 1) := by decide +kernel
theorem dX6_keep_52 : decode cX6_keep 52 = .ok (.iconst 1, 1) := by decide +kernel
theorem dX6_keep_53 : decode cX6_keep 53 = .ok (.bastore, 1) := by decide +kernel
theorem dX6_keep_54 : decode cX6_keep 54 = .ok (.aload_n 0, 1) := by decide +kernel
theorem dX6_keep_55 : decode cX6_keep 55 = .ok (.getfield 46, 3) := by decide +kernel
theorem dX6_keep_58 : decode cX6_keep 58 = .ok (.iconst 0, 1) := by decide +kernel
theorem dX6_keep_59 : decode cX6_keep 59 = .ok (.iaload, 1) := by decide +kernel
theorem dX6_keep_60 : decode cX6_keep 60 = .ok (.ireturn, 1) := by decide +kernel
theorem dX6_back_0 : decode cX6_back 0 = .ok (.aload_n 0, 1) := by decide +kernel
theorem dX6_back_1 : decode cX6_back 1 = .ok (.iconst 0, 1) := by decide +kernel
theorem dX6_back_2 : decode cX6_back 2 = .ok (.putfield 74, 3) := by decide +kernel
theorem dX6_back_5 : decode cX6_back 5 = .ok (.iload_n 1, 1) := by decide +kernel
theorem dX6_back_6 : decode cX6_back 6 = .ok (.iconst 0, 1) := by decide +kernel
theorem dX6_back_7 : decode cX6_back 7 = .ok (.iconst 1, 1) := by decide +kernel
theorem dX6_back_8 : decode cX6_back 8 = .ok (.invokestatic 78, 3) := by decide +kernel
theorem dX6_back_11 : decode cX6_back 11 = .ok (.ifCond .ne 5, 3) := by decide +kernel
theorem dX6_back_14 : decode cX6_back 14 = .ok (.iconst (-1), 1) := by decide +kernel
theorem dX6_back_15 : decode cX6_back 15 = .ok (.ireturn, 1) := by decide +kernel
theorem dX6_back_16 : decode cX6_back 16 = .ok (.aload_n 0, 1) := by decide +kernel
theorem dX6_back_17 : decode cX6_back 17 = .ok (.getfield 52, 3) := by decide +kernel
theorem dX6_back_20 : decode cX6_back 20 = .ok (.iload_n 1, 1) := by decide +kernel
theorem dX6_back_21 : decode cX6_back 21 = .ok (.baload, 1) := by decide +kernel
theorem dX6_back_22 : decode cX6_back 22 = .ok (.ifCond .ne 6, 3) := by decide +kernel
theorem dX6_back_25 : decode cX6_back 25 = .ok (.bipush (-2), 2) := by decide +kernel
theorem dX6_back_27 : decode cX6_back 27 = .ok (.ireturn, 1) := by decide +kernel
theorem dX6_back_28 : decode cX6_back 28 = .ok (.iconst 0, 1) := by decide +kernel
theorem dX6_back_29 : decode cX6_back 29 = .ok (.istore_n 2, 1) := by decide +kernel
theorem dX6_back_30 : decode cX6_back 30 = .ok (.iload_n 2, 1) := by decide +kernel
theorem dX6_back_31 : decode cX6_back 31 = .ok (.bipush 37, 2) := by decide +kernel
theorem dX6_back_33 : decode cX6_back 33 = .ok (.if_icmp .ge 26, 3) := by decide +kernel
theorem dX6_back_36 : decode cX6_back 36 = .ok (.aload_n 0, 1) := by decide +kernel
theorem dX6_back_37 : decode cX6_back 37 = .ok (.getfield 46, 3) := by decide +kernel
theorem dX6_back_40 : decode cX6_back 40 = .ok (.iload_n 2, 1) := by decide +kernel
theorem dX6_back_41 : decode cX6_back 41 = .ok (.aload_n 0, 1) := by decide +kernel
theorem dX6_back_42 : decode cX6_back 42 = .ok (.getfield 49, 3) := by decide +kernel
theorem dX6_back_45 : decode cX6_back 45 = .ok (.bipush 37, 2) := by decide +kernel
theorem dX6_back_47 : decode cX6_back 47 = .ok (.iload_n 1, 1) := by decide +kernel
theorem dX6_back_48 : decode cX6_back 48 = .ok (.imul, 1) := by decide +kernel
theorem dX6_back_49 : decode cX6_back 49 = .ok (.iload_n 2, 1) := by decide +kernel
theorem dX6_back_50 : decode cX6_back 50 = .ok (.iadd, 1) := by decide +kernel
theorem dX6_back_51 : decode cX6_back 51 = .ok (.iaload, 1) := by decide +kernel
theorem dX6_back_52 : decode cX6_back 52 = .ok (.iastore, 1) := by decide +kernel
theorem dX6_back_53 : decode cX6_back 53 = .ok (.iinc 2 1, 3) := by decide +kernel
theorem dX6_back_56 : decode cX6_back 56 = .ok (.goto (-26), 3) := by decide +kernel
theorem dX6_back_59 : decode cX6_back 59 = .ok (.aload_n 0, 1) := by decide +kernel
theorem dX6_back_60 : decode cX6_back 60 = .ok (.iconst 0, 1) := by decide +kernel
theorem dX6_back_61 : decode cX6_back 61 = .ok (.putfield 142, 3) := by decide +kernel
theorem dX6_back_64 : decode cX6_back 64 = .ok (.aload_n 0, 1) := by decide +kernel
theorem dX6_back_65 : decode cX6_back 65 = .ok (.getfield 46, 3) := by decide +kernel
theorem dX6_back_68 : decode cX6_back 68 = .ok (.iconst 0, 1) := by decide +kernel
theorem dX6_back_69 : decode cX6_back 69 = .ok (.iaload, 1) := by decide +kernel
theorem dX6_back_70 : decode cX6_back 70 = .ok (.ireturn, 1) := by decide +kernel
theorem dX6_count_0 : decode cX6_count 0 = .ok (.aload_n 0, 1) := by decide +kernel
theorem dX6_count_1 : decode cX6_count 1 = .ok (.iconst 0, 1) := by decide +kernel
theorem dX6_count_2 : decode cX6_count 2 = .ok (.putfield 74, 3) := by decide +kernel
theorem dX6_count_5 : decode cX6_count 5 = .ok (.iload_n 1, 1) := by decide +kernel
theorem dX6_count_6 : decode cX6_count 6 = .ok (.iconst 0, 1) := by decide +kernel
theorem dX6_count_7 : decode cX6_count 7 = .ok (.iconst 3, 1) := by decide +kernel
theorem dX6_count_8 : decode cX6_count 8 = .ok (.invokestatic 78, 3) := by decide +kernel
theorem dX6_count_11 : decode cX6_count 11 = .ok (.ifCond .eq 12, 3) := by decide +kernel
theorem dX6_count_14 : decode cX6_count 14 = .ok (.aload_n 0, 1) := by decide +kernel
theorem dX6_count_15 : decode cX6_count 15 = .ok (.getfield 13, 3) := by decide +kernel
theorem dX6_count_18 : decode cX6_count 18 = .ok (.iload_n 1, 1) := by decide +kernel
theorem dX6_count_19 : decode cX6_count 19 = .ok (.iaload, 1) := by decide +kernel
theorem dX6_count_20 : decode cX6_count 20 = .ok (.goto 28, 3) := by decide +kernel
theorem dX6_count_23 : decode cX6_count 23 = .ok (.iload_n 1, 1) := by decide +kernel
theorem dX6_count_24 : decode cX6_count 24 = .ok (.iconst 4, 1) := by decide +kernel
theorem dX6_count_25 : decode cX6_count 25 = .ok (.if_icmp .ne 10, 3) := by decide +kernel
theorem dX6_count_28 : decode cX6_count 28 = .ok (.aload_n 0, 1) := by decide +kernel
theorem dX6_count_29 : decode cX6_count 29 = .ok (.getfield 139, 3) := by decide +kernel
theorem dX6_count_32 : decode cX6_count 32 = .ok (.goto 16, 3) := by decide +kernel
theorem dX6_count_35 : decode cX6_count 35 = .ok (.iload_n 1, 1) := by decide +kernel
theorem dX6_count_36 : decode cX6_count 36 = .ok (.iconst 5, 1) := by decide +kernel
theorem dX6_count_37 : decode cX6_count 37 = .ok (.if_icmp .ne 10, 3) := by decide +kernel
theorem dX6_count_40 : decode cX6_count 40 = .ok (.aload_n 0, 1) := by decide +kernel
theorem dX6_count_41 : decode cX6_count 41 = .ok (.getfield 82, 3) := by decide +kernel
theorem dX6_count_44 : decode cX6_count 44 = .ok (.goto 4, 3) := by decide +kernel
theorem dX6_count_47 : decode cX6_count 47 = .ok (.iconst (-1), 1) := by decide +kernel
theorem dX6_count_48 : decode cX6_count 48 = .ok (.ireturn, 1) := by decide +kernel
theorem dX6_trace_0 : decode cX6_trace 0 = .ok (.aload_n 0, 1) := by decide +kernel
theorem dX6_trace_1 : decode cX6_trace 1 = .ok (.iconst 0, 1) := by decide +kernel
theorem dX6_trace_2 : decode cX6_trace 2 = .ok (.putfield 74, 3) := by decide +kernel
theorem dX6_trace_5 : decode cX6_trace 5 = .ok (.aload_n 0, 1) := by decide +kernel
theorem dX6_trace_6 : decode cX6_trace 6 = .ok (.getfield 205, 3) := by decide +kernel
theorem dX6_trace_9 : decode cX6_trace 9 = .ok (.lreturn, 1) := by decide +kernel
