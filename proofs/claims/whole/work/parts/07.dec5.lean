theorem dX12_init_0 : decode cX12_init 0 = .ok (.aload_n 0, 1) := by decide +kernel
theorem dX12_init_1 : decode cX12_init 1 = .ok (.invokespecial 1, 3) := by decide +kernel
theorem dX12_init_4 : decode cX12_init 4 = .ok (.aload_n 0, 1) := by decide +kernel
theorem dX12_init_5 : decode cX12_init 5 = .ok (.sipush 2400, 3) := by decide +kernel
theorem dX12_init_8 : decode cX12_init 8 = .ok (.newarray .byte, 2) := by decide +kernel
theorem dX12_init_10 : decode cX12_init 10 = .ok (.putfield 7, 3) := by decide +kernel
theorem dX12_init_13 : decode cX12_init 13 = .ok (.aload_n 0, 1) := by decide +kernel
theorem dX12_init_14 : decode cX12_init 14 = .ok (.iconst 4, 1) := by decide +kernel
theorem dX12_init_15 : decode cX12_init 15 = .ok (.newarray .int, 2) := by decide +kernel
theorem dX12_init_17 : decode cX12_init 17 = .ok (.putfield 13, 3) := by decide +kernel
theorem dX12_init_20 : decode cX12_init 20 = .ok (.aload_n 0, 1) := by decide +kernel
theorem dX12_init_21 : decode cX12_init 21 = .ok (.iconst 4, 1) := by decide +kernel
theorem dX12_init_22 : decode cX12_init 22 = .ok (.newarray .int, 2) := by decide +kernel
theorem dX12_init_24 : decode cX12_init 24 = .ok (.putfield 17, 3) := by decide +kernel
theorem dX12_init_27 : decode cX12_init 27 = .ok (.aload_n 0, 1) := by decide +kernel
theorem dX12_init_28 : decode cX12_init 28 = .ok (.iconst 4, 1) := by decide +kernel
theorem dX12_init_29 : decode cX12_init 29 = .ok (.newarray .int, 2) := by decide +kernel
theorem dX12_init_31 : decode cX12_init 31 = .ok (.putfield 20, 3) := by decide +kernel
theorem dX12_init_34 : decode cX12_init 34 = .ok (.aload_n 0, 1) := by decide +kernel
theorem dX12_init_35 : decode cX12_init 35 = .ok (.bipush 12, 2) := by decide +kernel
theorem dX12_init_37 : decode cX12_init 37 = .ok (.newarray .int, 2) := by decide +kernel
theorem dX12_init_39 : decode cX12_init 39 = .ok (.putfield 23, 3) := by decide +kernel
theorem dX12_init_42 : decode cX12_init 42 = .ok (.aload_n 0, 1) := by decide +kernel
theorem dX12_init_43 : decode cX12_init 43 = .ok (.sipush 440, 3) := by decide +kernel
theorem dX12_init_46 : decode cX12_init 46 = .ok (.newarray .int, 2) := by decide +kernel
theorem dX12_init_48 : decode cX12_init 48 = .ok (.putfield 26, 3) := by decide +kernel
theorem dX12_init_51 : decode cX12_init 51 = .ok (.aload_n 0, 1) := by decide +kernel
theorem dX12_init_52 : decode cX12_init 52 = .ok (.sipush 1288, 3) := by decide +kernel
theorem dX12_init_55 : decode cX12_init 55 = .ok (.newarray .int, 2) := by decide +kernel
theorem dX12_init_57 : decode cX12_init 57 = .ok (.putfield 29, 3) := by decide +kernel
theorem dX12_init_60 : decode cX12_init 60 = .ok (.aload_n 0, 1) := by decide +kernel
theorem dX12_init_61 : decode cX12_init 61 = .ok (.sipush 200, 3) := by decide +kernel
theorem dX12_init_64 : decode cX12_init 64 = .ok (.newarray .int, 2) := by decide +kernel
theorem dX12_init_66 : decode cX12_init 66 = .ok (.putfield 32, 3) := by decide +kernel
theorem dX12_init_69 : decode cX12_init 69 = .ok (.aload_n 0, 1) := by decide +kernel
theorem dX12_init_70 : decode cX12_init 70 = .ok (.sipush 161, 3) := by decide +kernel
theorem dX12_init_73 : decode cX12_init 73 = .ok (.newarray .int, 2) := by decide +kernel
theorem dX12_init_75 : decode cX12_init 75 = .ok (.putfield 35, 3) := by decide +kernel
theorem dX12_init_78 : decode cX12_init 78 = .ok (.aload_n 0, 1) := by decide +kernel
theorem dX12_init_79 : decode cX12_init 79 = .ok (.iconst 4, 1) := by decide +kernel
theorem dX12_init_80 : decode cX12_init 80 = .ok (.newarray .int, 2) := by decide +kernel
theorem dX12_init_82 : decode cX12_init 82 = .ok (.putfield 38, 3) := by decide +kernel
theorem dX12_init_85 : decode cX12_init 85 = .ok (.aload_n 0, 1) := by decide +kernel
theorem dX12_init_86 : decode cX12_init 86 = .ok (.bipush 6, 2) := by decide +kernel
theorem dX12_init_88 : decode cX12_init 88 = .ok (.newarray .int, 2) := by decide +kernel
theorem dX12_init_90 : decode cX12_init 90 = .ok (.putfield 41, 3) := by decide +kernel
theorem dX12_init_93 : decode cX12_init 93 = .ok (.aload_n 0, 1) := by decide +kernel
theorem dX12_init_94 : decode cX12_init 94 = .ok (.bipush 6, 2) := by decide +kernel
theorem dX12_init_96 : decode cX12_init 96 = .ok (.newarray .int, 2) := by decide +kernel
theorem dX12_init_98 : decode cX12_init 98 = .ok (.putfield 44, 3) := by decide +kernel
theorem dX12_init_101 : decode cX12_init 101 = .ok (.aload_n 0, 1) := by decide +kernel
theorem dX12_init_102 : decode cX12_init 102 = .ok (.bipush 36, 2) := by decide +kernel
theorem dX12_init_104 : decode cX12_init 104 = .ok (.newarray .int, 2) := by decide +kernel
theorem dX12_init_106 : decode cX12_init 106 = .ok (.putfield 47, 3) := by decide +kernel
theorem dX12_init_109 : decode cX12_init 109 = .ok (.aload_n 0, 1) := by decide +kernel
theorem dX12_init_110 : decode cX12_init 110 = .ok (.bipush 6, 2) := by decide +kernel
theorem dX12_init_112 : decode cX12_init 112 = .ok (.newarray .int, 2) := by decide +kernel
theorem dX12_init_114 : decode cX12_init 114 = .ok (.putfield 50, 3) := by decide +kernel
theorem dX12_init_117 : decode cX12_init 117 = .ok (.aload_n 0, 1) := by decide +kernel
theorem dX12_init_118 : decode cX12_init 118 = .ok (.bipush 6, 2) := by decide +kernel
theorem dX12_init_120 : decode cX12_init 120 = .ok (.newarray .int, 2) := by decide +kernel
theorem dX12_init_122 : decode cX12_init 122 = .ok (.putfield 53, 3) := by decide +kernel
theorem dX12_init_125 : decode cX12_init 125 = .ok (.aload_n 0, 1) := by decide +kernel
theorem dX12_init_126 : decode cX12_init 126 = .ok (.bipush 64, 2) := by decide +kernel
theorem dX12_init_128 : decode cX12_init 128 = .ok (.newarray .int, 2) := by decide +kernel
theorem dX12_init_130 : decode cX12_init 130 = .ok (.putfield 56, 3) := by decide +kernel
theorem dX12_init_133 : decode cX12_init 133 = .ok (.aload_n 0, 1) := by decide +kernel
theorem dX12_init_134 : decode cX12_init 134 = .ok (.bipush 6, 2) := by decide +kernel
theorem dX12_init_136 : decode cX12_init 136 = .ok (.newarray .int, 2) := by decide +kernel
theorem dX12_init_138 : decode cX12_init 138 = .ok (.putfield 59, 3) := by decide +kernel
theorem dX12_init_141 : decode cX12_init 141 = .ok (.aload_n 0, 1) := by decide +kernel
theorem dX12_init_142 : decode cX12_init 142 = .ok (.sipush 448, 3) := by decide +kernel
theorem dX12_init_145 : decode cX12_init 145 = .ok (.newarray .int, 2) := by decide +kernel
theorem dX12_init_147 : decode cX12_init 147 = .ok (.putfield 62, 3) := by decide +kernel
theorem dX12_init_150 : decode cX12_init 150 = .ok (.aload_n 0, 1) := by decide +kernel
theorem dX12_init_151 : decode cX12_init 151 = .ok (.sipush 729, 3) := by decide +kernel
theorem dX12_init_154 : decode cX12_init 154 = .ok (.newarray .int, 2) := by decide +kernel
theorem dX12_init_156 : decode cX12_init 156 = .ok (.putfield 65, 3) := by decide +kernel
theorem dX12_init_159 : decode cX12_init 159 = .ok (.aload_n 0, 1) := by decide +kernel
theorem dX12_init_160 : decode cX12_init 160 = .ok (.sipush 192, 3) := by decide +kernel
theorem dX12_init_163 : decode cX12_init 163 = .ok (.newarray .int, 2) := by decide +kernel
theorem dX12_init_165 : decode cX12_init 165 = .ok (.putfield 68, 3) := by decide +kernel
theorem dX12_init_168 : decode cX12_init 168 = .ok (.aload_n 0, 1) := by decide +kernel
theorem dX12_init_169 : decode cX12_init 169 = .ok (.bipush 6, 2) := by decide +kernel
theorem dX12_init_171 : decode cX12_init 171 = .ok (.newarray .int, 2) := by decide +kernel
theorem dX12_init_173 : decode cX12_init 173 = .ok (.putfield 71, 3) := by decide +kernel
theorem dX12_init_176 : decode cX12_init 176 = .ok (.aload_n 0, 1) := by decide +kernel
theorem dX12_init_177 : decode cX12_init 177 = .ok (.iconst 3, 1) := by decide +kernel
theorem dX12_init_178 : decode cX12_init 178 = .ok (.newarray .boolean, 2) := by decide +kernel
theorem dX12_init_180 : decode cX12_init 180 = .ok (.putfield 74, 3) := by decide +kernel
theorem dX12_init_183 : decode cX12_init 183 = .ok (.aload_n 0, 1) := by decide +kernel
theorem dX12_init_184 : decode cX12_init 184 = .ok (.getfield 20, 3) := by decide +kernel
theorem dX12_init_187 : decode cX12_init 187 = .ok (.iconst 0, 1) := by decide +kernel
theorem dX12_init_188 : decode cX12_init 188 = .ok (.iconst (-1), 1) := by decide +kernel
theorem dX12_init_189 : decode cX12_init 189 = .ok (.iastore, 1) := by decide +kernel
theorem dX12_init_190 : decode cX12_init 190 = .ok (.return_, 1) := by decide +kernel
theorem dX12_in_0 : decode cX12_in 0 = .ok (.iload_n 0, 1) := by decide +kernel
theorem dX12_in_1 : decode cX12_in 1 = .ok (.iload_n 1, 1) := by decide +kernel
theorem dX12_in_2 : decode cX12_in 2 = .ok (.if_icmp .lt 12, 3) := by decide +kernel
theorem dX12_in_5 : decode cX12_in 5 = .ok (.iload_n 0, 1) := by decide +kernel
theorem dX12_in_6 : decode cX12_in 6 = .ok (.iload_n 2, 1) := by decide +kernel
theorem dX12_in_7 : decode cX12_in 7 = .ok (.if_icmp .gt 7, 3) := by decide +kernel
theorem dX12_in_10 : decode cX12_in 10 = .ok (.iconst 1, 1) := by decide +kernel
theorem dX12_in_11 : decode cX12_in 11 = .ok (.goto 4, 3) := by decide +kernel
theorem dX12_in_14 : decode cX12_in 14 = .ok (.iconst 0, 1) := by decide +kernel
theorem dX12_in_15 : decode cX12_in 15 = .ok (.ireturn, 1) := by decide +kernel
theorem dX12_has_0 : decode cX12_has 0 = .ok (.iload_n 0, 1) := by decide +kernel
theorem dX12_has_1 : decode cX12_has 1 = .ok (.iload_n 1, 1) := by decide +kernel
theorem dX12_has_2 : decode cX12_has 2 = .ok (.ishr, 1) := by decide +kernel
theorem dX12_has_3 : decode cX12_has 3 = .ok (.iconst 1, 1) := by decide +kernel
theorem dX12_has_4 : decode cX12_has 4 = .ok (.iand, 1) := by decide +kernel
theorem dX12_has_5 : decode cX12_has 5 = .ok (.iconst 1, 1) := by decide +kernel
theorem dX12_has_6 : decode cX12_has 6 = .ok (.if_icmp .ne 7, 3) := by decide +kernel
theorem dX12_has_9 : decode cX12_has 9 = .ok (.iconst 1, 1) := by decide +kernel
theorem dX12_has_10 : decode cX12_has 10 = .ok (.goto 4, 3) := by decide +kernel
theorem dX12_has_13 : decode cX12_has 13 = .ok (.iconst 0, 1) := by decide +kernel
theorem dX12_has_14 : decode cX12_has 14 = .ok (.ireturn, 1) := by decide +kernel
theorem dX12_greater_0 : decode cX12_greater 0 = .ok (.iload_n 0, 1) := by decide +kernel
theorem dX12_greater_1 : decode cX12_greater 1 = .ok (.iload_n 1, 1) := by decide +kernel
theorem dX12_greater_2 : decode cX12_greater 2 = .ok (.if_icmp .le 7, 3) := by decide +kernel
theorem dX12_greater_5 : decode cX12_greater 5 = .ok (.iload_n 0, 1) := by decide +kernel
theorem dX12_greater_6 : decode cX12_greater 6 = .ok (.goto 4, 3) := by decide +kernel
theorem dX12_greater_9 : decode cX12_greater 9 = .ok (.iload_n 1, 1) := by decide +kernel
theorem dX12_greater_10 : decode cX12_greater 10 = .ok (.ireturn, 1) := by decide +kernel
theorem dX12_lesser_0 : decode cX12_lesser 0 = .ok (.iload_n 0, 1) := by decide +kernel
theorem dX12_lesser_1 : decode cX12_lesser 1 = .ok (.iload_n 1, 1) := by decide +kernel
theorem dX12_lesser_2 : decode cX12_lesser 2 = .ok (.if_icmp .ge 7, 3) := by decide +kernel
theorem dX12_lesser_5 : decode cX12_lesser 5 = .ok (.iload_n 0, 1) := by decide +kernel
theorem dX12_lesser_6 : decode cX12_lesser 6 = .ok (.goto 4, 3) := by decide +kernel
theorem dX12_lesser_9 : decode cX12_lesser 9 = .ok (.iload_n 1, 1) := by decide +kernel
theorem dX12_lesser_10 : decode cX12_lesser 10 = .ok (.ireturn, 1) := by decide +kernel
theorem dX12_ones_0 : decode cX12_ones 0 = .ok (.iconst 0, 1) := by decide +kernel
theorem dX12_ones_1 : decode cX12_ones 1 = .ok (.istore_n 1, 1) := by decide +kernel
theorem dX12_ones_2 : decode cX12_ones 2 = .ok (.iconst 0, 1) := by decide +kernel
theorem dX12_ones_3 : decode cX12_ones 3 = .ok (.istore_n 2, 1) := by decide +kernel
theorem dX12_ones_4 : decode cX12_ones 4 = .ok (.iload_n 2, 1) := by decide +kernel
theorem dX12_ones_5 : decode cX12_ones 5 = .ok (.bipush 6, 2) := by decide +kernel
theorem dX12_ones_7 : decode cX12_ones 7 = .ok (.if_icmp .ge 25, 3) := by decide +kernel
theorem dX12_ones_10 : decode cX12_ones 10 = .ok (.iload_n 1, 1) := by decide +kernel
theorem dX12_ones_11 : decode cX12_ones 11 = .ok (.iload_n 0, 1) := by decide +kernel
theorem dX12_ones_12 : decode cX12_ones 12 = .ok (.iload_n 2, 1) := by decide +kernel
theorem dX12_ones_13 : decode cX12_ones 13 = .ok (.invokestatic 82, 3) := by decide +kernel
theorem dX12_ones_16 : decode cX12_ones 16 = .ok (.ifCond .eq 7, 3) := by decide +kernel
theorem dX12_ones_19 : decode cX12_ones 19 = .ok (.iconst 1, 1) := by decide +kernel
theorem dX12_ones_20 : decode cX12_ones 20 = .ok (.goto 4, 3) := by decide +kernel
theorem dX12_ones_23 : decode cX12_ones 23 = .ok (.iconst 0, 1) := by decide +kernel
theorem dX12_ones_24 : decode cX12_ones 24 = .ok (.iadd, 1) := by decide +kernel
theorem dX12_ones_25 : decode cX12_ones 25 = .ok (.istore_n 1, 1) := by decide +kernel
theorem dX12_ones_26 : decode cX12_ones 26 = .ok (.iinc 2 1, 3) := by decide +kernel
theorem dX12_ones_29 : decode cX12_ones 29 = .ok (.goto (-25), 3) := by decide +kernel
theorem dX12_ones_32 : decode cX12_ones 32 = .ok (.iload_n 1, 1) := by decide +kernel
theorem dX12_ones_33 : decode cX12_ones 33 = .ok (.ireturn, 1) := by decide +kernel
theorem dX12_copyRow_0 : decode cX12_copyRow 0 = .ok (.iconst 0, 1) := by decide +kernel
theorem dX12_copyRow_1 : decode cX12_copyRow 1 = .ok (.istore 4, 2) := by decide +kernel
theorem dX12_copyRow_3 : decode cX12_copyRow 3 = .ok (.iload 4, 2) := by decide +kernel
theorem dX12_copyRow_5 : decode cX12_copyRow 5 = .ok (.iload_n 1, 1) := by decide +kernel
theorem dX12_copyRow_6 : decode cX12_copyRow 6 = .ok (.if_icmp .ge 25, 3) := by decide +kernel
theorem dX12_copyRow_9 : decode cX12_copyRow 9 = .ok (.aload_n 0, 1) := by decide +kernel
theorem dX12_copyRow_10 : decode cX12_copyRow 10 = .ok (.iload_n 1, 1) := by decide +kernel
theorem dX12_copyRow_11 : decode cX12_copyRow 11 = .ok (.iload_n 3, 1) := by decide +kernel
theorem dX12_copyRow_12 : decode cX12_copyRow 12 = .ok (.imul, 1) := by decide +kernel
theorem dX12_copyRow_13 : decode cX12_copyRow 13 = .ok (.iload 4, 2) := by decide +kernel
theorem dX12_copyRow_15 : decode cX12_copyRow 15 = .ok (.iadd, 1) := by decide +kernel
theorem dX12_copyRow_16 : decode cX12_copyRow 16 = .ok (.aload_n 0, 1) := by decide +kernel
theorem dX12_copyRow_17 : decode cX12_copyRow 17 = .ok (.iload_n 1, 1) := by decide +kernel
theorem dX12_copyRow_18 : decode cX12_copyRow 18 = .ok (.iload_n 2, 1) := by decide +kernel
theorem dX12_copyRow_19 : decode cX12_copyRow 19 = .ok (.imul, 1) := by decide +kernel
theorem dX12_copyRow_20 : decode cX12_copyRow 20 = .ok (.iload 4, 2) := by decide +kernel
theorem dX12_copyRow_22 : decode cX12_copyRow 22 = .ok (.iadd, 1) := by decide +kernel
theorem dX12_copyRow_23 : decode cX12_copyRow 23 = .ok (.iaload, 1) := by decide +kernel
theorem dX12_copyRow_24 : decode cX12_copyRow 24 = .ok (.iastore, 1) := by decide +kernel
theorem dX12_copyRow_25 : decode cX12_copyRow 25 = .ok (.iinc 4 1, 3) := by decide +kernel
theorem dX12_copyRow_28 : decode cX12_copyRow 28 = .ok (.goto (-25), 3) := by decide +kernel
theorem dX12_copyRow_31 : decode cX12_copyRow 31 = .ok (.return_, 1) := by decide +kernel
theorem dX12_copyAll_0 : decode cX12_copyAll 0 = .ok (.iconst 0, 1) := by decide +kernel
theorem dX12_copyAll_1 : decode cX12_copyAll 1 = .ok (.istore_n 3, 1) := by decide +kernel
theorem dX12_copyAll_2 : decode cX12_copyAll 2 = .ok (.iload_n 3, 1) := by decide +kernel
theorem dX12_copyAll_3 : decode cX12_copyAll 3 = .ok (.sipush 600, 3) := by decide +kernel
theorem dX12_copyAll_6 : decode cX12_copyAll 6 = .ok (.if_icmp .ge 33, 3) := by decide +kernel
theorem dX12_copyAll_9 : decode cX12_copyAll 9 = .ok (.aload_n 0, 1) := by decide +kernel
theorem dX12_copyAll_10 : decode cX12_copyAll 10 = .ok (.getfield 7, 3) := by decide +kernel
theorem dX12_copyAll_13 : decode cX12_copyAll 13 = .ok (.sipush 600, 3) := by decide +kernel
theorem dX12_copyAll_16 : decode cX12_copyAll 16 = .ok (.iload_n 2, 1) := by decide +kernel
theorem dX12_copyAll_17 : decode cX12_copyAll 17 = .ok (.imul, 1) := by decide +kernel
theorem dX12_copyAll_18 : decode cX12_copyAll 18 = .ok (.iload_n 3, 1) := by decide +kernel
theorem dX12_copyAll_19 : decode cX12_copyAll 19 = .ok (.iadd, 1) := by decide +kernel
theorem dX12_copyAll_20 : decode cX12_copyAll 20 = .ok (.aload_n 0, 1) := by decide +kernel
theorem dX12_copyAll_21 : decode cX12_copyAll 21 = .ok (.getfield 7, 3) := by decide +kernel
theorem dX12_copyAll_24 : decode cX12_copyAll 24 = .ok (.sipush 600, 3) := by decide +kernel
theorem dX12_copyAll_27 : decode cX12_copyAll 27 = .ok (.iload_n 1, 1) := by decide +kernel
theorem dX12_copyAll_28 : decode cX12_copyAll 28 = .ok (.imul, 1) := by decide +kernel
theorem dX12_copyAll_29 : decode cX12_copyAll 29 = .ok (.iload_n 3, 1) := by decide +kernel
theorem dX12_copyAll_30 : decode cX12_copyAll 30 = .ok (.iadd, 1) := by decide +kernel
theorem dX12_copyAll_31 : decode cX12_copyAll 31 = .ok (.baload, 1) := by decide +kernel
theorem dX12_copyAll_32 : decode cX12_copyAll 32 = .ok (.bastore, 1) := by decide +kernel
theorem dX12_copyAll_33 : decode cX12_copyAll 33 = .ok (.iinc 3 1, 3) := by decide +kernel
theorem dX12_copyAll_36 : decode cX12_copyAll 36 = .ok (.goto (-34), 3) := by decide +kernel
theorem dX12_copyAll_39 : decode cX12_copyAll 39 = .ok (.aload_n 0, 1) := by decide +kernel
theorem dX12_copyAll_40 : decode cX12_copyAll 40 = .ok (.getfield 13, 3) := by decide +kernel
theorem dX12_copyAll_43 : decode cX12_copyAll 43 = .ok (.iconst 1, 1) := by decide +kernel
theorem dX12_copyAll_44 : decode cX12_copyAll 44 = .ok (.iload_n 1, 1) := by decide +kernel
theorem dX12_copyAll_45 : decode cX12_copyAll 45 = .ok (.iload_n 2, 1) := by decide +kernel
theorem dX12_copyAll_46 : decode cX12_copyAll 46 = .ok (.invokestatic 86, 3) := by decide +kernel
theorem dX12_copyAll_49 : decode cX12_copyAll 49 = .ok (.aload_n 0, 1) := by decide +kernel
theorem dX12_copyAll_50 : decode cX12_copyAll 50 = .ok (.getfield 17, 3) := by decide +kernel
theorem dX12_copyAll_53 : decode cX12_copyAll 53 = .ok (.iconst 1, 1) := by decide +kernel
theorem dX12_copyAll_54 : decode cX12_copyAll 54 = .ok (.iload_n 1, 1) := by decide +kernel
theorem dX12_copyAll_55 : decode cX12_copyAll 55 = .ok (.iload_n 2, 1) := by decide +kernel
theorem dX12_copyAll_56 : decode cX12_copyAll 56 = .ok (.invokestatic 86, 3) := by decide +kernel
theorem dX12_copyAll_59 : decode cX12_copyAll 59 = .ok (.aload_n 0, 1) := by decide +kernel
theorem dX12_copyAll_60 : decode cX12_copyAll 60 = .ok (.getfield 20, 3) := by decide +kernel
theorem dX12_copyAll_63 : decode cX12_copyAll 63 = .ok (.iconst 1, 1) := by decide +kernel
theorem dX12_copyAll_64 : decode cX12_copyAll 64 = .ok (.iload_n 1, 1) := by decide +kernel
theorem dX12_copyAll_65 : decode cX12_copyAll 65 = .ok (.iload_n 2, 1) := by decide +kernel
theorem dX12_copyAll_66 : decode cX12_copyAll 66 = .ok (.invokestatic 86, 3) := by decide +kernel
theorem dX12_copyAll_69 : decode cX12_copyAll 69 = .ok (.aload_n 0, 1) := by decide +kernel
theorem dX12_copyAll_70 : decode cX12_copyAll 70 = .ok (.getfield 23, 3) := by decide +kernel
theorem dX12_copyAll_73 : decode cX12_copyAll 73 = .ok (.iconst 3, 1) := by decide +kernel
theorem dX12_copyAll_74 : decode cX12_copyAll 74 = .ok (.iload_n 1, 1) := by decide +kernel
theorem dX12_copyAll_75 : decode cX12_copyAll 75 = .ok (.iload_n 2, 1) := by decide +kernel
theorem dX12_copyAll_76 : decode cX12_copyAll 76 = .ok (.invokestatic 86, 3) := by decide +kernel
theorem dX12_copyAll_79 : decode cX12_copyAll 79 = .ok (.aload_n 0, 1) := by decide +kernel
theorem dX12_copyAll_80 : decode cX12_copyAll 80 = .ok (.getfield 26, 3) := by decide +kernel
theorem dX12_copyAll_83 : decode cX12_copyAll 83 = .ok (.bipush 110, 2) := by decide +kernel
theorem dX12_copyAll_85 : decode cX12_copyAll 85 = .ok (.iload_n 1, 1) := by decide +kernel
theorem dX12_copyAll_86 : decode cX12_copyAll 86 = .ok (.iload_n 2, 1) := by decide +kernel
theorem dX12_copyAll_87 : decode cX12_copyAll 87 = .ok (.invokestatic 86, 3) := by decide +kernel
theorem dX12_copyAll_90 : decode cX12_copyAll 90 = .ok (.aload_n 0, 1) := by decide +kernel
theorem dX12_copyAll_91 : decode cX12_copyAll 91 = .ok (.getfield 29, 3) := by decide +kernel
theorem dX12_copyAll_94 : decode cX12_copyAll 94 = .ok (.sipush 322, 3) := by decide +kernel
theorem dX12_copyAll_97 : decode cX12_copyAll 97 = .ok (.iload_n 1, 1) := by decide +kernel
theorem dX12_copyAll_98 : decode cX12_copyAll 98 = .ok (.iload_n 2, 1) := by decide +kernel
theorem dX12_copyAll_99 : decode cX12_copyAll 99 = .ok (.invokestatic 86, 3) := by decide +kernel
theorem dX12_copyAll_102 : decode cX12_copyAll 102 = .ok (.aload_n 0, 1) := by decide +kernel
theorem dX12_copyAll_103 : decode cX12_copyAll 103 = .ok (.getfield 32, 3) := by decide +kernel
theorem dX12_copyAll_106 : decode cX12_copyAll 106 = .ok (.bipush 50, 2) := by decide +kernel
theorem dX12_copyAll_108 : decode cX12_copyAll 108 = .ok (.iload_n 1, 1) := by decide +kernel
theorem dX12_copyAll_109 : decode cX12_copyAll 109 = .ok (.iload_n 2, 1) := by decide +kernel
theorem dX12_copyAll_110 : decode cX12_copyAll 110 = .ok (.invokestatic 86, 3) := by decide +kernel
theorem dX12_copyAll_113 : decode cX12_copyAll 113 = .ok (.return_, 1) := by decide +kernel
theorem dX12_is_0 : decode cX12_is 0 = .ok (.iload_n 2, 1) := by decide +kernel
theorem dX12_is_1 : decode cX12_is 1 = .ok (.iconst 0, 1) := by decide +kernel
theorem dX12_is_2 : decode cX12_is 2 = .ok (.aload_n 0, 1) := by decide +kernel
theorem dX12_is_3 : decode cX12_is 3 = .ok (.getfield 23, 3) := by decide +kernel
theorem dX12_is_6 : decode cX12_is 6 = .ok (.iload_n 1, 1) := by decide +kernel
theorem dX12_is_7 : decode cX12_is 7 = .ok (.iaload, 1) := by decide +kernel
theorem dX12_is_8 : decode cX12_is 8 = .ok (.iconst 1, 1) := by decide +kernel
theorem dX12_is_9 : decode cX12_is 9 = .ok (.isub, 1) := by decide +kernel
theorem dX12_is_10 : decode cX12_is 10 = .ok (.invokestatic 90, 3) := by decide +kernel
theorem dX12_is_13 : decode cX12_is 13 = .ok (.ireturn, 1) := by decide +kernel
theorem dX12_feed_0 : decode cX12_feed 0 = .ok (.aload_n 0, 1) := by decide +kernel
theorem dX12_feed_1 : decode cX12_feed 1 = .ok (.iconst 0, 1) := by decide +kernel
theorem dX12_feed_2 : decode cX12_feed 2 = .ok (.putfield 78, 3) := by decide +kernel
theorem dX12_feed_5 : decode cX12_feed 5 = .ok (.aload_n 0, 1) := by decide +kernel
theorem dX12_feed_6 : decode cX12_feed 6 = .ok (.getfield 13, 3) := by decide +kernel
theorem dX12_feed_9 : decode cX12_feed 9 = .ok (.iconst 0, 1) := by decide +kernel
theorem dX12_feed_10 : decode cX12_feed 10 = .ok (.iaload, 1) := by decide +kernel
theorem dX12_feed_11 : decode cX12_feed 11 = .ok (.bipush 20, 2) := by decide +kernel
theorem dX12_feed_13 : decode cX12_feed 13 = .ok (.iadd, 1) := by decide +kernel
theorem dX12_feed_14 : decode cX12_feed 14 = .ok (.sipush 600, 3) := by decide +kernel
theorem dX12_feed_17 : decode cX12_feed 17 = .ok (.if_icmp .le 5, 3) := by decide +kernel
theorem dX12_feed_20 : decode cX12_feed 20 = .ok (.iconst (-1), 1) := by decide +kernel
theorem dX12_feed_21 : decode cX12_feed 21 = .ok (.ireturn, 1) := by decide +kernel
theorem dX12_feed_22 : decode cX12_feed 22 = .ok (.aload_n 0, 1) := by decide +kernel
theorem dX12_feed_23 : decode cX12_feed 23 = .ok (.iload_n 1, 1) := by decide +kernel
theorem dX12_feed_24 : decode cX12_feed 24 = .ok (.invokevirtual 94, 3) := by decide +kernel
theorem dX12_feed_27 : decode cX12_feed 27 = .ok (.aload_n 0, 1) := by decide +kernel
theorem dX12_feed_28 : decode cX12_feed 28 = .ok (.iload_n 2, 1) := by decide +kernel
theorem dX12_feed_29 : decode cX12_feed 29 = .ok (.invokevirtual 94, 3) := by decide +kernel
theorem dX12_feed_32 : decode cX12_feed 32 = .ok (.aload_n 0, 1) := by decide +kernel
theorem dX12_feed_33 : decode cX12_feed 33 = .ok (.iload_n 3, 1) := by decide +kernel
theorem dX12_feed_34 : decode cX12_feed 34 = .ok (.invokevirtual 94, 3) := by decide +kernel
theorem dX12_feed_37 : decode cX12_feed 37 = .ok (.aload_n 0, 1) := by decide +kernel
theorem dX12_feed_38 : decode cX12_feed 38 = .ok (.iload 4, 2) := by decide +kernel
theorem dX12_feed_40 : decode cX12_feed 40 = .ok (.invokevirtual 94, 3) := by decide +kernel
theorem dX12_feed_43 : decode cX12_feed 43 = .ok (.aload_n 0, 1) := by decide +kernel
theorem dX12_feed_44 : decode cX12_feed 44 = .ok (.iload 5, 2) := by decide +kernel
theorem dX12_feed_46 : decode cX12_feed 46 = .ok (.invokevirtual 94, 3) := by decide +kernel
theorem dX12_feed_49 : decode cX12_feed 49 = .ok (.aload_n 0, 1) := by decide +kernel
theorem dX12_feed_50 : decode cX12_feed 50 = .ok (.getfield 13, 3) := by decide +kernel
theorem dX12_feed_53 : decode cX12_feed 53 = .ok (.iconst 0, 1) := by decide +kernel
theorem dX12_feed_54 : decode cX12_feed 54 = .ok (.iaload, 1) := by decide +kernel
theorem dX12_feed_55 : decode cX12_feed 55 = .ok (.ireturn, 1) := by decide +kernel
theorem dX12_four_0 : decode cX12_four 0 = .ok (.bipush 24, 2) := by decide +kernel
theorem dX12_four_2 : decode cX12_four 2 = .ok (.istore_n 2, 1) := by decide +kernel
theorem dX12_four_3 : decode cX12_four 3 = .ok (.iload_n 2, 1) := by decide +kernel
theorem dX12_four_4 : decode cX12_four 4 = .ok (.ifCond .lt 34, 3) := by decide +kernel
theorem dX12_four_7 : decode cX12_four 7 = .ok (.aload_n 0, 1) := by decide +kernel
theorem dX12_four_8 : decode cX12_four 8 = .ok (.getfield 7, 3) := by decide +kernel
theorem dX12_four_11 : decode cX12_four 11 = .ok (.aload_n 0, 1) := by decide +kernel
theorem dX12_four_12 : decode cX12_four 12 = .ok (.getfield 13, 3) := by decide +kernel
theorem dX12_four_15 : decode cX12_four 15 = .ok (.iconst 0, 1) := by decide +kernel
theorem dX12_four_16 : decode cX12_four 16 = .ok (.iaload, 1) := by decide +kernel
theorem dX12_four_17 : decode cX12_four 17 = .ok (.iload_n 1, 1) := by decide +kernel
theorem dX12_four_18 : decode cX12_four 18 = .ok (.iload_n 2, 1) := by decide +kernel
theorem dX12_four_19 : decode cX12_four 19 = .ok (.ishr, 1) := by decide +kernel
theorem dX12_four_20 : decode cX12_four 20 = .ok (.i2b, 1) := by decide +kernel
theorem dX12_four_21 : decode cX12_four 21 = .ok (.bastore, 1) := by decide +kernel
theorem dX12_four_22 : decode cX12_four 22 = .ok (.aload_n 0, 1) := by decide +kernel
theorem dX12_four_23 : decode cX12_four 23 = .ok (.getfield 13, 3) := by decide +kernel
theorem dX12_four_26 : decode cX12_four 26 = .ok (.iconst 0, 1) := by decide +kernel
theorem dX12_four_27 : decode cX12_four 27 = .ok (.dup2, 1) := by decide +kernel
theorem dX12_four_28 : decode cX12_four 28 = .ok (.iaload, 1) := by decide +kernel
theorem dX12_four_29 : decode cX12_four 29 = .ok (.iconst 1, 1) := by decide +kernel
theorem dX12_four_30 : decode cX12_four 30 = .ok (.iadd, 1) := by decide +kernel
theorem dX12_four_31 : decode cX12_four 31 = .ok (.iastore, 1) := by decide +kernel
theorem dX12_four_32 : decode cX12_four 32 = .ok (.iinc 2 (-8), 3) := by decide +kernel
theorem dX12_four_35 : decode cX12_four 35 = .ok (.goto (-32), 3) := by decide +kernel
theorem dX12_four_38 : decode cX12_four 38 = .ok (.return_, 1) := by decide +kernel
theorem dX12_end_0 : decode cX12_end 0 = .ok (.aload_n 0, 1) := by decide +kernel
theorem dX12_end_1 : decode cX12_end 1 = .ok (.iconst 0, 1) := by decide +kernel
theorem dX12_end_2 : decode cX12_end 2 = .ok (.putfield 78, 3) := by decide +kernel
theorem dX12_end_5 : decode cX12_end 5 = .ok (.iload_n 1, 1) := by decide +kernel
theorem dX12_end_6 : decode cX12_end 6 = .ok (.iconst 0, 1) := by decide +kernel
theorem dX12_end_7 : decode cX12_end 7 = .ok (.aload_n 0, 1) := by decide +kernel
theorem dX12_end_8 : decode cX12_end 8 = .ok (.getfield 13, 3) := by decide +kernel
theorem dX12_end_11 : decode cX12_end 11 = .ok (.iconst 0, 1) := by decide +kernel
theorem dX12_end_12 : decode cX12_end 12 = .ok (.iaload, 1) := by decide +kernel
theorem dX12_end_13 : decode cX12_end 13 = .ok (.invokestatic 90, 3) := by decide +kernel
theorem dX12_end_16 : decode cX12_end 16 = .ok (.ifCond .ne 5, 3) := by decide +kernel
theorem dX12_end_19 : decode cX12_end 19 = .ok (.iconst (-1), 1) := by decide +kernel
theorem dX12_end_20 : decode cX12_end 20 = .ok (.ireturn, 1) := by decide +kernel
theorem dX12_end_21 : decode cX12_end 21 = .ok (.aload_n 0, 1) := by decide +kernel
theorem dX12_end_22 : decode cX12_end 22 = .ok (.getfield 13, 3) := by decide +kernel
theorem dX12_end_25 : decode cX12_end 25 = .ok (.iconst 0, 1) := by decide +kernel
theorem dX12_end_26 : decode cX12_end 26 = .ok (.iload_n 1, 1) := by decide +kernel
theorem dX12_end_27 : decode cX12_end 27 = .ok (.iastore, 1) := by decide +kernel
theorem dX12_end_28 : decode cX12_end 28 = .ok (.iload_n 1, 1) := by decide +kernel
theorem dX12_end_29 : decode cX12_end 29 = .ok (.ireturn, 1) := by decide +kernel
theorem dX12_see_0 : decode cX12_see 0 = .ok (.aload_n 0, 1) := by decide +kernel
theorem dX12_see_1 : decode cX12_see 1 = .ok (.getfield 98, 3) := by decide +kernel
theorem dX12_see_4 : decode cX12_see 4 = .ok (.aload_n 0, 1) := by decide +kernel
theorem dX12_see_5 : decode cX12_see 5 = .ok (.getfield 101, 3) := by decide +kernel
theorem dX12_see_8 : decode cX12_see 8 = .ok (.if_icmp .ge 19, 3) := by decide +kernel
theorem dX12_see_11 : decode cX12_see 11 = .ok (.aload_n 0, 1) := by decide +kernel
theorem dX12_see_12 : decode cX12_see 12 = .ok (.getfield 7, 3) := by decide +kernel
theorem dX12_see_15 : decode cX12_see 15 = .ok (.aload_n 0, 1) := by decide +kernel
theorem dX12_see_16 : decode cX12_see 16 = .ok (.getfield 98, 3) := by decide +kernel
theorem dX12_see_19 : decode cX12_see 19 = .ok (.baload, 1) := by decide +kernel
theorem dX12_see_20 : decode cX12_see 20 = .ok (.sipush 255, 3) := by decide +kernel
theorem dX12_see_23 : decode cX12_see 23 = .ok (.iand, 1) := by decide +kernel
theorem dX12_see_24 : decode cX12_see 24 = .ok (.goto 4, 3) := by decide +kernel
theorem dX12_see_27 : decode cX12_see 27 = .ok (.iconst (-1), 1) := by decide +kernel
theorem dX12_see_28 : decode cX12_see 28 = .ok (.ireturn, 1) := by decide +kernel
theorem dX12_token_0 : decode cX12_token 0 = .ok (.aload_n 0, 1) := by decide +kernel
theorem dX12_token_1 : decode cX12_token 1 = .ok (.invokevirtual 104, 3) := by decide +kernel
theorem dX12_token_4 : decode cX12_token 4 = .ok (.bipush 10, 2) := by decide +kernel
theorem dX12_token_6 : decode cX12_token 6 = .ok (.if_icmp .eq 12, 3) := by decide +kernel
theorem dX12_token_9 : decode cX12_token 9 = .ok (.aload_n 0, 1) := by decide +kernel
theorem dX12_token_10 : decode cX12_token 10 = .ok (.invokevirtual 104, 3) := by decide +kernel
theorem dX12_token_13 : decode cX12_token 13 = .ok (.bipush 32, 2) := by decide +kernel
theorem dX12_token_15 : decode cX12_token 15 = .ok (.if_icmp .ne 16, 3) := by decide +kernel
theorem dX12_token_18 : decode cX12_token 18 = .ok (.aload_n 0, 1) := by decide +kernel
theorem dX12_token_19 : decode cX12_token 19 = .ok (.dup, 1) := by decide +kernel
theorem dX12_token_20 : decode cX12_token 20 = .ok (.getfield 98, 3) := by decide +kernel
theorem dX12_token_23 : decode cX12_token 23 = .ok (.iconst 1, 1) := by decide +kernel
theorem dX12_token_24 : decode cX12_token 24 = .ok (.iadd, 1) := by decide +kernel
theorem dX12_token_25 : decode cX12_token 25 = .ok (.putfield 98, 3) := by decide +kernel
theorem dX12_token_28 : decode cX12_token 28 = .ok (.goto (-28), 3) := by decide +kernel
theorem dX12_token_31 : decode cX12_token 31 = .ok (.aload_n 0, 1) := by decide +kernel
theorem dX12_token_32 : decode cX12_token 32 = .ok (.aload_n 0, 1) := by decide +kernel
theorem dX12_token_33 : decode cX12_token 33 = .ok (.getfield 98, 3) := by decide +kernel
theorem dX12_token_36 : decode cX12_token 36 = .ok (.putfield 108, 3) := by decide +kernel
theorem dX12_token_39 : decode cX12_token 39 = .ok (.aload_n 0, 1) := by decide +kernel
theorem dX12_token_40 : decode cX12_token 40 = .ok (.invokevirtual 104, 3) := by decide +kernel
theorem dX12_token_43 : decode cX12_token 43 = .ok (.istore_n 1, 1) := by decide +kernel
theorem dX12_token_44 : decode cX12_token 44 = .ok (.aload_n 0, 1) := by decide +kernel
theorem dX12_token_45 : decode cX12_token 45 = .ok (.lconst 0, 1) := by decide +kernel
theorem dX12_token_46 : decode cX12_token 46 = .ok (.putfield 111, 3) := by decide +kernel
theorem dX12_token_49 : decode cX12_token 49 = .ok (.iconst 0, 1) := by decide +kernel
theorem dX12_token_50 : decode cX12_token 50 = .ok (.istore_n 2, 1) := by decide +kernel
theorem dX12_token_51 : decode cX12_token 51 = .ok (.iload_n 1, 1) := by decide +kernel
theorem dX12_token_52 : decode cX12_token 52 = .ok (.ifCond .ge 11, 3) := by decide +kernel
theorem dX12_token_55 : decode cX12_token 55 = .ok (.aload_n 0, 1) := by decide +kernel
theorem dX12_token_56 : decode cX12_token 56 = .ok (.iconst 0, 1) := by decide +kernel
theorem dX12_token_57 : decode cX12_token 57 = .ok (.putfield 115, 3) := by decide +kernel
theorem dX12_token_60 : decode cX12_token 60 = .ok (.goto 206, 3) := by decide +kernel
theorem dX12_token_63 : decode cX12_token 63 = .ok (.iload_n 1, 1) := by decide +kernel
theorem dX12_token_64 : decode cX12_token 64 = .ok (.bipush 97, 2) := by decide +kernel
theorem dX12_token_66 : decode cX12_token 66 = .ok (.bipush 122, 2) := by decide +kernel
theorem dX12_token_68 : decode cX12_token 68 = .ok (.invokestatic 90, 3) := by decide +kernel
theorem dX12_token_71 : decode cX12_token 71 = .ok (.ifCond .eq 76, 3) := by decide +kernel
theorem dX12_token_74 : decode cX12_token 74 = .ok (.aload_n 0, 1) := by decide +kernel
theorem dX12_token_75 : decode cX12_token 75 = .ok (.invokevirtual 104, 3) := by decide +kernel
theorem dX12_token_78 : decode cX12_token 78 = .ok (.bipush 97, 2) := by decide +kernel
theorem dX12_token_80 : decode cX12_token 80 = .ok (.bipush 122, 2) := by decide +kernel
theorem dX12_token_82 : decode cX12_token 82 = .ok (.invokestatic 90, 3) := by decide +kernel
theorem dX12_token_85 : decode cX12_token 85 = .ok (.ifCond .eq 36, 3) := by decide +kernel
theorem dX12_token_88 : decode cX12_token 88 = .ok (.aload_n 0, 1) := by decide +kernel
theorem dX12_token_89 : decode cX12_token 89 = .ok (.aload_n 0, 1) := by decide +kernel
theorem dX12_token_90 : decode cX12_token 90 = .ok (.getfield 111, 3) := by decide +kernel
theorem dX12_token_93 : decode cX12_token 93 = .ok (.bipush 8, 2) := by decide +kernel
theorem dX12_token_95 : decode cX12_token 95 = .ok (.lshl, 1) := by decide +kernel
theorem dX12_token_96 : decode cX12_token 96 = .ok (.aload_n 0, 1) := by decide +kernel
theorem dX12_token_97 : decode cX12_token 97 = .ok (.invokevirtual 104, 3) := by decide +kernel
theorem dX12_token_100 : decode cX12_token 100 = .ok (.i2l, 1) := by decide +kernel
theorem dX12_token_101 : decode cX12_token 101 = .ok (.lor, 1) := by decide +kernel
theorem dX12_token_102 : decode cX12_token 102 = .ok (.putfield 111, 3) := by decide +kernel
theorem dX12_token_105 : decode cX12_token 105 = .ok (.aload_n 0, 1) := by decide +kernel
theorem dX12_token_106 : decode cX12_token 106 = .ok (.dup, 1) := by decide +kernel
theorem dX12_token_107 : decode cX12_token 107 = .ok (.getfield 98, 3) := by decide +kernel
theorem dX12_token_110 : decode cX12_token 110 = .ok (.iconst 1, 1) := by decide +kernel
theorem dX12_token_111 : decode cX12_token 111 = .ok (.iadd, 1) := by decide +kernel
theorem dX12_token_112 : decode cX12_token 112 = .ok (.putfield 98, 3) := by decide +kernel
theorem dX12_token_115 : decode cX12_token 115 = .ok (.iinc 2 1, 3) := by decide +kernel
theorem dX12_token_118 : decode cX12_token 118 = .ok (.goto (-44), 3) := by decide +kernel
theorem dX12_token_121 : decode cX12_token 121 = .ok (.aload_n 0, 1) := by decide +kernel
theorem dX12_token_122 : decode cX12_token 122 = .ok (.iload_n 2, 1) := by decide +kernel
theorem dX12_token_123 : decode cX12_token 123 = .ok (.bipush 8, 2) := by decide +kernel
theorem dX12_token_125 : decode cX12_token 125 = .ok (.if_icmp .le 7, 3) := by decide +kernel
theorem dX12_token_128 : decode cX12_token 128 = .ok (.lconst 0, 1) := by decide +kernel
theorem dX12_token_129 : decode cX12_token 129 = .ok (.goto 7, 3) := by decide +kernel
theorem dX12_token_132 : decode cX12_token 132 = .ok (.aload_n 0, 1) := by decide +kernel
theorem dX12_token_133 : decode cX12_token 133 = .ok (.getfield 111, 3) := by decide +kernel
theorem dX12_token_136 : decode cX12_token 136 = .ok (.putfield 111, 3) := by decide +kernel
theorem dX12_token_139 : decode cX12_token 139 = .ok (.aload_n 0, 1) := by decide +kernel
theorem dX12_token_140 : decode cX12_token 140 = .ok (.iconst 2, 1) := by decide +kernel
theorem dX12_token_141 : decode cX12_token 141 = .ok (.putfield 115, 3) := by decide +kernel
theorem dX12_token_144 : decode cX12_token 144 = .ok (.goto 122, 3) := by decide +kernel
theorem dX12_token_147 : decode cX12_token 147 = .ok (.iload_n 1, 1) := by decide +kernel
theorem dX12_token_148 : decode cX12_token 148 = .ok (.bipush 48, 2) := by decide +kernel
theorem dX12_token_150 : decode cX12_token 150 = .ok (.bipush 57, 2) := by decide +kernel
theorem dX12_token_152 : decode cX12_token 152 = .ok (.invokestatic 90, 3) := by decide +kernel
theorem dX12_token_155 : decode cX12_token 155 = .ok (.ifCond .eq 86, 3) := by decide +kernel
theorem dX12_token_158 : decode cX12_token 158 = .ok (.aload_n 0, 1) := by decide +kernel
theorem dX12_token_159 : decode cX12_token 159 = .ok (.iconst 0, 1) := by decide +kernel
theorem dX12_token_160 : decode cX12_token 160 = .ok (.putfield 118, 3) := by decide +kernel
theorem dX12_token_163 : decode cX12_token 163 = .ok (.aload_n 0, 1) := by decide +kernel
theorem dX12_token_164 : decode cX12_token 164 = .ok (.invokevirtual 104, 3) := by decide +kernel
theorem dX12_token_167 : decode cX12_token 167 = .ok (.bipush 48, 2) := by decide +kernel
theorem dX12_token_169 : decode cX12_token 169 = .ok (.bipush 57, 2) := by decide +kernel
theorem dX12_token_171 : decode cX12_token 171 = .ok (.invokestatic 90, 3) := by decide +kernel
theorem dX12_token_174 : decode cX12_token 174 = .ok (.ifCond .eq 50, 3) := by decide +kernel
theorem dX12_token_177 : decode cX12_token 177 = .ok (.aload_n 0, 1) := by decide +kernel
theorem dX12_token_178 : decode cX12_token 178 = .ok (.iload_n 2, 1) := by decide +kernel
theorem dX12_token_179 : decode cX12_token 179 = .ok (.iconst 2, 1) := by decide +kernel
theorem dX12_token_180 : decode cX12_token 180 = .ok (.if_icmp .ge 21, 3) := by decide +kernel
theorem dX12_token_183 : decode cX12_token 183 = .ok (.bipush 10, 2) := by decide +kernel
theorem dX12_token_185 : decode cX12_token 185 = .ok (.aload_n 0, 1) := by decide +kernel
theorem dX12_token_186 : decode cX12_token 186 = .ok (.getfield 118, 3) := by decide +kernel
theorem dX12_token_189 : decode cX12_token 189 = .ok (.imul, 1) := by decide +kernel
theorem dX12_token_190 : decode cX12_token 190 = .ok (.aload_n 0, 1) := by decide +kernel
theorem dX12_token_191 : decode cX12_token 191 = .ok (.invokevirtual 104, 3) := by decide +kernel
theorem dX12_token_194 : decode cX12_token 194 = .ok (.iadd, 1) := by decide +kernel
theorem dX12_token_195 : decode cX12_token 195 = .ok (.bipush 48, 2) := by decide +kernel
theorem dX12_token_197 : decode cX12_token 197 = .ok (.isub, 1) := by decide +kernel
theorem dX12_token_198 : decode cX12_token 198 = .ok (.goto 7, 3) := by decide +kernel
theorem dX12_token_201 : decode cX12_token 201 = .ok (.aload_n 0, 1) := by decide +kernel
theorem dX12_token_202 : decode cX12_token 202 = .ok (.getfield 118, 3) := by decide +kernel
theorem dX12_token_205 : decode cX12_token 205 = .ok (.putfield 118, 3) := by decide +kernel
theorem dX12_token_208 : decode cX12_token 208 = .ok (.aload_n 0, 1) := by decide +kernel
theorem dX12_token_209 : decode cX12_token 209 = .ok (.dup, 1) := by decide +kernel
theorem dX12_token_210 : decode cX12_token 210 = .ok (.getfield 98, 3) := by decide +kernel
theorem dX12_token_213 : decode cX12_token 213 = .ok (.iconst 1, 1) := by decide +kernel
theorem dX12_token_214 : decode cX12_token 214 = .ok (.iadd, 1) := by decide +kernel
theorem dX12_token_215 : decode cX12_token 215 = .ok (.putfield 98, 3) := by decide +kernel
theorem dX12_token_218 : decode cX12_token 218 = .ok (.iinc 2 1, 3) := by decide +kernel
theorem dX12_token_221 : decode cX12_token 221 = .ok (.goto (-58), 3) := by decide +kernel
theorem dX12_token_224 : decode cX12_token 224 = .ok (.aload_n 0, 1) := by decide +kernel
theorem dX12_token_225 : decode cX12_token 225 = .ok (.iload_n 2, 1) := by decide +kernel
theorem dX12_token_226 : decode cX12_token 226 = .ok (.iconst 2, 1) := by decide +kernel
theorem dX12_token_227 : decode cX12_token 227 = .ok (.if_icmp .le 7, 3) := by decide +kernel
theorem dX12_token_230 : decode cX12_token 230 = .ok (.iconst 1, 1) := by decide +kernel
theorem dX12_token_231 : decode cX12_token 231 = .ok (.goto 4, 3) := by decide +kernel
theorem dX12_token_234 : decode cX12_token 234 = .ok (.iconst 3, 1) := by decide +kernel
theorem dX12_token_235 : decode cX12_token 235 = .ok (.putfield 115, 3) := by decide +kernel
theorem dX12_token_238 : decode cX12_token 238 = .ok (.goto 28, 3) := by decide +kernel
theorem dX12_token_241 : decode cX12_token 241 = .ok (.aload_n 0, 1) := by decide +kernel
theorem dX12_token_242 : decode cX12_token 242 = .ok (.dup, 1) := by decide +kernel
theorem dX12_token_243 : decode cX12_token 243 = .ok (.getfield 98, 3) := by decide +kernel
theorem dX12_token_246 : decode cX12_token 246 = .ok (.iconst 1, 1) := by decide +kernel
theorem dX12_token_247 : decode cX12_token 247 = .ok (.iadd, 1) := by decide +kernel
theorem dX12_token_248 : decode cX12_token 248 = .ok (.putfield 98, 3) := by decide +kernel
theorem dX12_token_251 : decode cX12_token 251 = .ok (.aload_n 0, 1) := by decide +kernel
theorem dX12_token_252 : decode cX12_token 252 = .ok (.iload_n 1, 1) := by decide +kernel
theorem dX12_token_253 : decode cX12_token 253 = .ok (.bipush 59, 2) := by decide +kernel
theorem dX12_token_255 : decode cX12_token 255 = .ok (.if_icmp .ne 7, 3) := by decide +kernel
theorem dX12_token_258 : decode cX12_token 258 = .ok (.iconst 4, 1) := by decide +kernel
theorem dX12_token_259 : decode cX12_token 259 = .ok (.goto 4, 3) := by decide +kernel
theorem dX12_token_262 : decode cX12_token 262 = .ok (.iconst 1, 1) := by decide +kernel
theorem dX12_token_263 : decode cX12_token 263 = .ok (.putfield 115, 3) := by decide +kernel
theorem dX12_token_266 : decode cX12_token 266 = .ok (.return_, 1) := by decide +kernel
theorem dX12_fails_0 : decode cX12_fails 0 = .ok (.aload_n 0, 1) := by decide +kernel
theorem dX12_fails_1 : decode cX12_fails 1 = .ok (.aload_n 0, 1) := by decide +kernel
theorem dX12_fails_2 : decode cX12_fails 2 = .ok (.getfield 108, 3) := by decide +kernel
theorem dX12_fails_5 : decode cX12_fails 5 = .ok (.putfield 121, 3) := by decide +kernel
theorem dX12_fails_8 : decode cX12_fails 8 = .ok (.iconst 0, 1) := by decide +kernel
theorem dX12_fails_9 : decode cX12_fails 9 = .ok (.ireturn, 1) := by decide +kernel
theorem dX12_later_0 : decode cX12_later 0 = .ok (.aload_n 0, 1) := by decide +kernel
theorem dX12_later_1 : decode cX12_later 1 = .ok (.getfield 124, 3) := by decide +kernel
theorem dX12_later_4 : decode cX12_later 4 = .ok (.ifCond .eq 27, 3) := by decide +kernel
theorem dX12_later_7 : decode cX12_later 7 = .ok (.iload_n 2, 1) := by decide +kernel
theorem dX12_later_8 : decode cX12_later 8 = .ok (.aload_n 0, 1) := by decide +kernel
theorem dX12_later_9 : decode cX12_later 9 = .ok (.getfield 127, 3) := by decide +kernel
theorem dX12_later_12 : decode cX12_later 12 = .ok (.if_icmp .lt 19, 3) := by decide +kernel
theorem dX12_later_15 : decode cX12_later 15 = .ok (.iload_n 2, 1) := by decide +kernel
theorem dX12_later_16 : decode cX12_later 16 = .ok (.aload_n 0, 1) := by decide +kernel
theorem dX12_later_17 : decode cX12_later 17 = .ok (.getfield 127, 3) := by decide +kernel
theorem dX12_later_20 : decode cX12_later 20 = .ok (.if_icmp .ne 21, 3) := by decide +kernel
theorem dX12_later_23 : decode cX12_later 23 = .ok (.iload_n 1, 1) := by decide +kernel
theorem dX12_later_24 : decode cX12_later 24 = .ok (.aload_n 0, 1) := by decide +kernel
theorem dX12_later_25 : decode cX12_later 25 = .ok (.getfield 124, 3) := by decide +kernel
theorem dX12_later_28 : decode cX12_later 28 = .ok (.if_icmp .ge 13, 3) := by decide +kernel
theorem dX12_later_31 : decode cX12_later 31 = .ok (.aload_n 0, 1) := by decide +kernel
theorem dX12_later_32 : decode cX12_later 32 = .ok (.iload_n 1, 1) := by decide +kernel
theorem dX12_later_33 : decode cX12_later 33 = .ok (.putfield 124, 3) := by decide +kernel
theorem dX12_later_36 : decode cX12_later 36 = .ok (.aload_n 0, 1) := by decide +kernel
theorem dX12_later_37 : decode cX12_later 37 = .ok (.iload_n 2, 1) := by decide +kernel
theorem dX12_later_38 : decode cX12_later 38 = .ok (.putfield 127, 3) := by decide +kernel
theorem dX12_later_41 : decode cX12_later 41 = .ok (.return_, 1) := by decide +kernel
theorem dX12_takeBut_0 : decode cX12_takeBut 0 = .ok (.aload_n 0, 1) := by decide +kernel
theorem dX12_takeBut_1 : decode cX12_takeBut 1 = .ok (.getfield 115, 3) := by decide +kernel
theorem dX12_takeBut_4 : decode cX12_takeBut 4 = .ok (.iconst 3, 1) := by decide +kernel
theorem dX12_takeBut_5 : decode cX12_takeBut 5 = .ok (.if_icmp .eq 8, 3) := by decide +kernel
theorem dX12_takeBut_8 : decode cX12_takeBut 8 = .ok (.aload_n 0, 1) := by decide +kernel
theorem dX12_takeBut_9 : decode cX12_takeBut 9 = .ok (.invokevirtual 130, 3) := by decide +kernel
theorem dX12_takeBut_12 : decode cX12_takeBut 12 = .ok (.ireturn, 1) := by decide +kernel
theorem dX12_takeBut_13 : decode cX12_takeBut 13 = .ok (.aload_n 0, 1) := by decide +kernel
theorem dX12_takeBut_14 : decode cX12_takeBut 14 = .ok (.getfield 38, 3) := by decide +kernel
theorem dX12_takeBut_17 : decode cX12_takeBut 17 = .ok (.iload_n 1, 1) := by decide +kernel
theorem dX12_takeBut_18 : decode cX12_takeBut 18 = .ok (.aload_n 0, 1) := by decide +kernel
theorem dX12_takeBut_19 : decode cX12_takeBut 19 = .ok (.getfield 118, 3) := by decide +kernel
theorem dX12_takeBut_22 : decode cX12_takeBut 22 = .ok (.iastore, 1) := by decide +kernel
theorem dX12_takeBut_23 : decode cX12_takeBut 23 = .ok (.aload_n 0, 1) := by decide +kernel
theorem dX12_takeBut_24 : decode cX12_takeBut 24 = .ok (.getfield 118, 3) := by decide +kernel
theorem dX12_takeBut_27 : decode cX12_takeBut 27 = .ok (.iload_n 2, 1) := by decide +kernel
theorem dX12_takeBut_28 : decode cX12_takeBut 28 = .ok (.iload_n 3, 1) := by decide +kernel
theorem dX12_takeBut_29 : decode cX12_takeBut 29 = .ok (.invokestatic 90, 3) := by decide +kernel
theorem dX12_takeBut_32 : decode cX12_takeBut 32 = .ok (.ifCond .eq 12, 3) := by decide +kernel
theorem dX12_takeBut_35 : decode cX12_takeBut 35 = .ok (.aload_n 0, 1) := by decide +kernel
theorem dX12_takeBut_36 : decode cX12_takeBut 36 = .ok (.getfield 118, 3) := by decide +kernel
theorem dX12_takeBut_39 : decode cX12_takeBut 39 = .ok (.iload 4, 2) := by decide +kernel
theorem dX12_takeBut_41 : decode cX12_takeBut 41 = .ok (.if_icmp .ne 17, 3) := by decide +kernel
theorem dX12_takeBut_44 : decode cX12_takeBut 44 = .ok (.aload_n 0, 1) := by decide +kernel
theorem dX12_takeBut_45 : decode cX12_takeBut 45 = .ok (.iconst 2, 1) := by decide +kernel
theorem dX12_takeBut_46 : decode cX12_takeBut 46 = .ok (.aload_n 0, 1) := by decide +kernel
theorem dX12_takeBut_47 : decode cX12_takeBut 47 = .ok (.getfield 108, 3) := by decide +kernel
theorem dX12_takeBut_50 : decode cX12_takeBut 50 = .ok (.invokevirtual 134, 3) := by decide +kernel
theorem dX12_takeBut_53 : decode cX12_takeBut 53 = .ok (.aload_n 0, 1) := by decide +kernel
theorem dX12_takeBut_54 : decode cX12_takeBut 54 = .ok (.iconst 0, 1) := by decide +kernel
theorem dX12_takeBut_55 : decode cX12_takeBut 55 = .ok (.putfield 138, 3) := by decide +kernel
theorem dX12_takeBut_58 : decode cX12_takeBut 58 = .ok (.aload_n 0, 1) := by decide +kernel
theorem dX12_takeBut_59 : decode cX12_takeBut 59 = .ok (.invokevirtual 142, 3) := by decide +kernel
theorem dX12_takeBut_62 : decode cX12_takeBut 62 = .ok (.iconst 1, 1) := by decide +kernel
theorem dX12_takeBut_63 : decode cX12_takeBut 63 = .ok (.ireturn, 1) := by decide +kernel
theorem dX12_take_0 : decode cX12_take 0 = .ok (.aload_n 0, 1) := by decide +kernel
theorem dX12_take_1 : decode cX12_take 1 = .ok (.iload_n 1, 1) := by decide +kernel
theorem dX12_take_2 : decode cX12_take 2 = .ok (.iload_n 2, 1) := by decide +kernel
theorem dX12_take_3 : decode cX12_take 3 = .ok (.iload_n 3, 1) := by decide +kernel
theorem dX12_take_4 : decode cX12_take 4 = .ok (.iconst (-1), 1) := by decide +kernel
theorem dX12_take_5 : decode cX12_take 5 = .ok (.invokevirtual 145, 3) := by decide +kernel
theorem dX12_take_8 : decode cX12_take 8 = .ok (.ireturn, 1) := by decide +kernel
theorem dX12_takeTwo_0 : decode cX12_takeTwo 0 = .ok (.aload_n 0, 1) := by decide +kernel
theorem dX12_takeTwo_1 : decode cX12_takeTwo 1 = .ok (.iload_n 1, 1) := by decide +kernel
theorem dX12_takeTwo_2 : decode cX12_takeTwo 2 = .ok (.iconst 0, 1) := by decide +kernel
theorem dX12_takeTwo_3 : decode cX12_takeTwo 3 = .ok (.iconst 5, 1) := by decide +kernel
theorem dX12_takeTwo_4 : decode cX12_takeTwo 4 = .ok (.invokevirtual 149, 3) := by decide +kernel
theorem dX12_takeTwo_7 : decode cX12_takeTwo 7 = .ok (.ifCond .eq 25, 3) := by decide +kernel
theorem dX12_takeTwo_10 : decode cX12_takeTwo 10 = .ok (.aload_n 0, 1) := by decide +kernel
theorem dX12_takeTwo_11 : decode cX12_takeTwo 11 = .ok (.iload_n 1, 1) := by decide +kernel
theorem dX12_takeTwo_12 : decode cX12_takeTwo 12 = .ok (.iconst 1, 1) := by decide +kernel
theorem dX12_takeTwo_13 : decode cX12_takeTwo 13 = .ok (.iadd, 1) := by decide +kernel
theorem dX12_takeTwo_14 : decode cX12_takeTwo 14 = .ok (.iconst 0, 1) := by decide +kernel
theorem dX12_takeTwo_15 : decode cX12_takeTwo 15 = .ok (.iconst 5, 1) := by decide +kernel
theorem dX12_takeTwo_16 : decode cX12_takeTwo 16 = .ok (.aload_n 0, 1) := by decide +kernel
theorem dX12_takeTwo_17 : decode cX12_takeTwo 17 = .ok (.getfield 38, 3) := by decide +kernel
theorem dX12_takeTwo_20 : decode cX12_takeTwo 20 = .ok (.iload_n 1, 1) := by decide +kernel
theorem dX12_takeTwo_21 : decode cX12_takeTwo 21 = .ok (.iaload, 1) := by decide +kernel
theorem dX12_takeTwo_22 : decode cX12_takeTwo 22 = .ok (.invokevirtual 145, 3) := by decide +kernel
theorem dX12_takeTwo_25 : decode cX12_takeTwo 25 = .ok (.ifCond .eq 7, 3) := by decide +kernel
theorem dX12_takeTwo_28 : decode cX12_takeTwo 28 = .ok (.iconst 1, 1) := by decide +kernel
theorem dX12_takeTwo_29 : decode cX12_takeTwo 29 = .ok (.goto 4, 3) := by decide +kernel
theorem dX12_takeTwo_32 : decode cX12_takeTwo 32 = .ok (.iconst 0, 1) := by decide +kernel
theorem dX12_takeTwo_33 : decode cX12_takeTwo 33 = .ok (.ireturn, 1) := by decide +kernel
theorem dX12_full_0 : decode cX12_full 0 = .ok (.aload_n 0, 1) := by decide +kernel
theorem dX12_full_1 : decode cX12_full 1 = .ok (.getfield 35, 3) := by decide +kernel
theorem dX12_full_4 : decode cX12_full 4 = .ok (.iconst 0, 1) := by decide +kernel
theorem dX12_full_5 : decode cX12_full 5 = .ok (.iaload, 1) := by decide +kernel
theorem dX12_full_6 : decode cX12_full 6 = .ok (.iload_n 1, 1) := by decide +kernel
theorem dX12_full_7 : decode cX12_full 7 = .ok (.if_icmp .ne 9, 3) := by decide +kernel
theorem dX12_full_10 : decode cX12_full 10 = .ok (.aload_n 0, 1) := by decide +kernel
theorem dX12_full_11 : decode cX12_full 11 = .ok (.iconst 3, 1) := by decide +kernel
theorem dX12_full_12 : decode cX12_full 12 = .ok (.iload_n 2, 1) := by decide +kernel
theorem dX12_full_13 : decode cX12_full 13 = .ok (.invokevirtual 134, 3) := by decide +kernel
theorem dX12_full_16 : decode cX12_full 16 = .ok (.return_, 1) := by decide +kernel
theorem dX12_personLine_0 : decode cX12_personLine 0 = .ok (.aload_n 0, 1) := by decide +kernel
theorem dX12_personLine_1 : decode cX12_personLine 1 = .ok (.bipush 6, 2) := by decide +kernel
theorem dX12_personLine_3 : decode cX12_personLine 3 = .ok (.iload_n 1, 1) := by decide +kernel
theorem dX12_personLine_4 : decode cX12_personLine 4 = .ok (.invokevirtual 152, 3) := by decide +kernel
theorem dX12_personLine_7 : decode cX12_personLine 7 = .ok (.aload_n 0, 1) := by decide +kernel
theorem dX12_personLine_8 : decode cX12_personLine 8 = .ok (.invokevirtual 142, 3) := by decide +kernel
theorem dX12_personLine_11 : decode cX12_personLine 11 = .ok (.aload_n 0, 1) := by decide +kernel
theorem dX12_personLine_12 : decode cX12_personLine 12 = .ok (.iconst 0, 1) := by decide +kernel
theorem dX12_personLine_13 : decode cX12_personLine 13 = .ok (.iconst 0, 1) := by decide +kernel
theorem dX12_personLine_14 : decode cX12_personLine 14 = .ok (.bipush 9, 2) := by decide +kernel
theorem dX12_personLine_16 : decode cX12_personLine 16 = .ok (.invokevirtual 149, 3) := by decide +kernel
theorem dX12_personLine_19 : decode cX12_personLine 19 = .ok (.ifCond .eq 14, 3) := by decide +kernel
theorem dX12_personLine_22 : decode cX12_personLine 22 = .ok (.aload_n 0, 1) := by decide +kernel
theorem dX12_personLine_23 : decode cX12_personLine 23 = .ok (.iconst 1, 1) := by decide +kernel
theorem dX12_personLine_24 : decode cX12_personLine 24 = .ok (.iconst 0, 1) := by decide +kernel
theorem dX12_personLine_25 : decode cX12_personLine 25 = .ok (.bipush 99, 2) := by decide +kernel
theorem dX12_personLine_27 : decode cX12_personLine 27 = .ok (.invokevirtual 149, 3) := by decide +kernel
theorem dX12_personLine_30 : decode cX12_personLine 30 = .ok (.ifCond .ne 5, 3) := by decide +kernel
theorem dX12_personLine_33 : decode cX12_personLine 33 = .ok (.iconst 0, 1) := by decide +kernel
theorem dX12_personLine_34 : decode cX12_personLine 34 = .ok (.ireturn, 1) := by decide +kernel
theorem dX12_personLine_35 : decode cX12_personLine 35 = .ok (.aload_n 0, 1) := by decide +kernel
theorem dX12_personLine_36 : decode cX12_personLine 36 = .ok (.getfield 35, 3) := by decide +kernel
theorem dX12_personLine_39 : decode cX12_personLine 39 = .ok (.iconst 0, 1) := by decide +kernel
theorem dX12_personLine_40 : decode cX12_personLine 40 = .ok (.iaload, 1) := by decide +kernel
theorem dX12_personLine_41 : decode cX12_personLine 41 = .ok (.istore_n 2, 1) := by decide +kernel
theorem dX12_personLine_42 : decode cX12_personLine 42 = .ok (.iload_n 2, 1) := by decide +kernel
theorem dX12_personLine_43 : decode cX12_personLine 43 = .ok (.bipush 6, 2) := by decide +kernel
theorem dX12_personLine_45 : decode cX12_personLine 45 = .ok (.if_icmp .ge 42, 3) := by decide +kernel
theorem dX12_personLine_48 : decode cX12_personLine 48 = .ok (.aload_n 0, 1) := by decide +kernel
theorem dX12_personLine_49 : decode cX12_personLine 49 = .ok (.getfield 35, 3) := by decide +kernel
theorem dX12_personLine_52 : decode cX12_personLine 52 = .ok (.iconst 1, 1) := by decide +kernel
theorem dX12_personLine_53 : decode cX12_personLine 53 = .ok (.iload_n 2, 1) := by decide +kernel
theorem dX12_personLine_54 : decode cX12_personLine 54 = .ok (.iadd, 1) := by decide +kernel
theorem dX12_personLine_55 : decode cX12_personLine 55 = .ok (.aload_n 0, 1) := by decide +kernel
theorem dX12_personLine_56 : decode cX12_personLine 56 = .ok (.getfield 38, 3) := by decide +kernel
theorem dX12_personLine_59 : decode cX12_personLine 59 = .ok (.iconst 0, 1) := by decide +kernel
theorem dX12_personLine_60 : decode cX12_personLine 60 = .ok (.iaload, 1) := by decide +kernel
theorem dX12_personLine_61 : decode cX12_personLine 61 = .ok (.iastore, 1) := by decide +kernel
theorem dX12_personLine_62 : decode cX12_personLine 62 = .ok (.aload_n 0, 1) := by decide +kernel
theorem dX12_personLine_63 : decode cX12_personLine 63 = .ok (.getfield 35, 3) := by decide +kernel
theorem dX12_personLine_66 : decode cX12_personLine 66 = .ok (.bipush 7, 2) := by decide +kernel
theorem dX12_personLine_68 : decode cX12_personLine 68 = .ok (.iload_n 2, 1) := by decide +kernel
theorem dX12_personLine_69 : decode cX12_personLine 69 = .ok (.iadd, 1) := by decide +kernel
theorem dX12_personLine_70 : decode cX12_personLine 70 = .ok (.aload_n 0, 1) := by decide +kernel
theorem dX12_personLine_71 : decode cX12_personLine 71 = .ok (.getfield 38, 3) := by decide +kernel
theorem dX12_personLine_74 : decode cX12_personLine 74 = .ok (.iconst 1, 1) := by decide +kernel
theorem dX12_personLine_75 : decode cX12_personLine 75 = .ok (.iaload, 1) := by decide +kernel
theorem dX12_personLine_76 : decode cX12_personLine 76 = .ok (.iastore, 1) := by decide +kernel
theorem dX12_personLine_77 : decode cX12_personLine 77 = .ok (.aload_n 0, 1) := by decide +kernel
theorem dX12_personLine_78 : decode cX12_personLine 78 = .ok (.getfield 35, 3) := by decide +kernel
theorem dX12_personLine_81 : decode cX12_personLine 81 = .ok (.iconst 0, 1) := by decide +kernel
theorem dX12_personLine_82 : decode cX12_personLine 82 = .ok (.dup2, 1) := by decide +kernel
theorem dX12_personLine_83 : decode cX12_personLine 83 = .ok (.iaload, 1) := by decide +kernel
theorem dX12_personLine_84 : decode cX12_personLine 84 = .ok (.iconst 1, 1) := by decide +kernel
theorem dX12_personLine_85 : decode cX12_personLine 85 = .ok (.iadd, 1) := by decide +kernel
theorem dX12_personLine_86 : decode cX12_personLine 86 = .ok (.iastore, 1) := by decide +kernel
theorem dX12_personLine_87 : decode cX12_personLine 87 = .ok (.iconst 1, 1) := by decide +kernel
theorem dX12_personLine_88 : decode cX12_personLine 88 = .ok (.ireturn, 1) := by decide +kernel
theorem dX12_townLine_0 : decode cX12_townLine 0 = .ok (.lload_n 1, 1) := by decide +kernel
theorem dX12_townLine_1 : decode cX12_townLine 1 = .ok (.ldc2_w 155, 3) := by decide +kernel
theorem dX12_townLine_4 : decode cX12_townLine 4 = .ok (.lcmp, 1) := by decide +kernel
theorem dX12_townLine_5 : decode cX12_townLine 5 = .ok (.ifCond .ne 9, 3) := by decide +kernel
theorem dX12_townLine_8 : decode cX12_townLine 8 = .ok (.aload_n 0, 1) := by decide +kernel
theorem dX12_townLine_9 : decode cX12_townLine 9 = .ok (.iload_n 3, 1) := by decide +kernel
theorem dX12_townLine_10 : decode cX12_townLine 10 = .ok (.invokevirtual 157, 3) := by decide +kernel
theorem dX12_townLine_13 : decode cX12_townLine 13 = .ok (.ireturn, 1) := by decide +kernel
theorem dX12_townLine_14 : decode cX12_townLine 14 = .ok (.lload_n 1, 1) := by decide +kernel
theorem dX12_townLine_15 : decode cX12_townLine 15 = .ok (.ldc2_w 161, 3) := by decide +kernel
theorem dX12_townLine_18 : decode cX12_townLine 18 = .ok (.lcmp, 1) := by decide +kernel
theorem dX12_townLine_19 : decode cX12_townLine 19 = .ok (.ifCond .eq 16, 3) := by decide +kernel
theorem dX12_townLine_22 : decode cX12_townLine 22 = .ok (.lload_n 1, 1) := by decide +kernel
theorem dX12_townLine_23 : decode cX12_townLine 23 = .ok (.ldc2_w 163, 3) := by decide +kernel
theorem dX12_townLine_26 : decode cX12_townLine 26 = .ok (.lcmp, 1) := by decide +kernel
theorem dX12_townLine_27 : decode cX12_townLine 27 = .ok (.ifCond .eq 8, 3) := by decide +kernel
theorem dX12_townLine_30 : decode cX12_townLine 30 = .ok (.aload_n 0, 1) := by decide +kernel
theorem dX12_townLine_31 : decode cX12_townLine 31 = .ok (.invokevirtual 130, 3) := by decide +kernel
theorem dX12_townLine_34 : decode cX12_townLine 34 = .ok (.ireturn, 1) := by decide +kernel
theorem dX12_townLine_35 : decode cX12_townLine 35 = .ok (.aload_n 0, 1) := by decide +kernel
theorem dX12_townLine_36 : decode cX12_townLine 36 = .ok (.invokevirtual 142, 3) := by decide +kernel
theorem dX12_townLine_39 : decode cX12_townLine 39 = .ok (.aload_n 0, 1) := by decide +kernel
theorem dX12_townLine_40 : decode cX12_townLine 40 = .ok (.iconst 0, 1) := by decide +kernel
theorem dX12_townLine_41 : decode cX12_townLine 41 = .ok (.invokevirtual 165, 3) := by decide +kernel
theorem dX12_townLine_44 : decode cX12_townLine 44 = .ok (.ifCond .eq 22, 3) := by decide +kernel
theorem dX12_townLine_47 : decode cX12_townLine 47 = .ok (.lload_n 1, 1) := by decide +kernel
theorem dX12_townLine_48 : decode cX12_townLine 48 = .ok (.ldc2_w 163, 3) := by decide +kernel
theorem dX12_townLine_51 : decode cX12_townLine 51 = .ok (.lcmp, 1) := by decide +kernel
theorem dX12_townLine_52 : decode cX12_townLine 52 = .ok (.ifCond .ne 16, 3) := by decide +kernel
theorem dX12_townLine_55 : decode cX12_townLine 55 = .ok (.aload_n 0, 1) := by decide +kernel
theorem dX12_townLine_56 : decode cX12_townLine 56 = .ok (.iconst 2, 1) := by decide +kernel
theorem dX12_townLine_57 : decode cX12_townLine 57 = .ok (.iconst 0, 1) := by decide +kernel
theorem dX12_townLine_58 : decode cX12_townLine 58 = .ok (.bipush 30, 2) := by decide +kernel
theorem dX12_townLine_60 : decode cX12_townLine 60 = .ok (.invokevirtual 149, 3) := by decide +kernel
theorem dX12_townLine_63 : decode cX12_townLine 63 = .ok (.ifCond .ne 5, 3) := by decide +kernel
theorem dX12_townLine_66 : decode cX12_townLine 66 = .ok (.iconst 0, 1) := by decide +kernel
theorem dX12_townLine_67 : decode cX12_townLine 67 = .ok (.ireturn, 1) := by decide +kernel
theorem dX12_townLine_68 : decode cX12_townLine 68 = .ok (.aload_n 0, 1) := by decide +kernel
theorem dX12_townLine_69 : decode cX12_townLine 69 = .ok (.aload_n 0, 1) := by decide +kernel
theorem dX12_townLine_70 : decode cX12_townLine 70 = .ok (.getfield 168, 3) := by decide +kernel
theorem dX12_townLine_73 : decode cX12_townLine 73 = .ok (.aload_n 0, 1) := by decide +kernel
theorem dX12_townLine_74 : decode cX12_townLine 74 = .ok (.getfield 38, 3) := by decide +kernel
theorem dX12_townLine_77 : decode cX12_townLine 77 = .ok (.iconst 0, 1) := by decide +kernel
theorem dX12_townLine_78 : decode cX12_townLine 78 = .ok (.iaload, 1) := by decide +kernel
theorem dX12_townLine_79 : decode cX12_townLine 79 = .ok (.aload_n 0, 1) := by decide +kernel
theorem dX12_townLine_80 : decode cX12_townLine 80 = .ok (.getfield 38, 3) := by decide +kernel
theorem dX12_townLine_83 : decode cX12_townLine 83 = .ok (.iconst 1, 1) := by decide +kernel
theorem dX12_townLine_84 : decode cX12_townLine 84 = .ok (.iaload, 1) := by decide +kernel
theorem dX12_townLine_85 : decode cX12_townLine 85 = .ok (.invokestatic 171, 3) := by decide +kernel
theorem dX12_townLine_88 : decode cX12_townLine 88 = .ok (.invokestatic 171, 3) := by decide +kernel
theorem dX12_townLine_91 : decode cX12_townLine 91 = .ok (.putfield 168, 3) := by decide +kernel
theorem dX12_townLine_94 : decode cX12_townLine 94 = .ok (.aload_n 0, 1) := by decide +kernel
theorem dX12_townLine_95 : decode cX12_townLine 95 = .ok (.getfield 138, 3) := by decide +kernel
theorem dX12_townLine_98 : decode cX12_townLine 98 = .ok (.ifCond .ne 5, 3) := by decide +kernel
theorem dX12_townLine_101 : decode cX12_townLine 101 = .ok (.iconst 1, 1) := by decide +kernel
theorem dX12_townLine_102 : decode cX12_townLine 102 = .ok (.ireturn, 1) := by decide +kernel
theorem dX12_townLine_103 : decode cX12_townLine 103 = .ok (.lload_n 1, 1) := by decide +kernel
theorem dX12_townLine_104 : decode cX12_townLine 104 = .ok (.ldc2_w 163, 3) := by decide +kernel
theorem dX12_townLine_107 : decode cX12_townLine 107 = .ok (.lcmp, 1) := by decide +kernel
theorem dX12_townLine_108 : decode cX12_townLine 108 = .ok (.ifCond .ne 36, 3) := by decide +kernel
theorem dX12_townLine_111 : decode cX12_townLine 111 = .ok (.aload_n 0, 1) := by decide +kernel
theorem dX12_townLine_112 : decode cX12_townLine 112 = .ok (.getfield 35, 3) := by decide +kernel
theorem dX12_townLine_115 : decode cX12_townLine 115 = .ok (.bipush 19, 2) := by decide +kernel
theorem dX12_townLine_117 : decode cX12_townLine 117 = .ok (.bipush 6, 2) := by decide +kernel
theorem dX12_townLine_119 : decode cX12_townLine 119 = .ok (.aload_n 0, 1) := by decide +kernel
theorem dX12_townLine_120 : decode cX12_townLine 120 = .ok (.getfield 38, 3) := by decide +kernel
theorem dX12_townLine_123 : decode cX12_townLine 123 = .ok (.iconst 0, 1) := by decide +kernel
theorem dX12_townLine_124 : decode cX12_townLine 124 = .ok (.iaload, 1) := by decide +kernel
theorem dX12_townLine_125 : decode cX12_townLine 125 = .ok (.imul, 1) := by decide +kernel
theorem dX12_townLine_126 : decode cX12_townLine 126 = .ok (.iadd, 1) := by decide +kernel
theorem dX12_townLine_127 : decode cX12_townLine 127 = .ok (.aload_n 0, 1) := by decide +kernel
theorem dX12_townLine_128 : decode cX12_townLine 128 = .ok (.getfield 38, 3) := by decide +kernel
theorem dX12_townLine_131 : decode cX12_townLine 131 = .ok (.iconst 1, 1) := by decide +kernel
theorem dX12_townLine_132 : decode cX12_townLine 132 = .ok (.iaload, 1) := by decide +kernel
theorem dX12_townLine_133 : decode cX12_townLine 133 = .ok (.iadd, 1) := by decide +kernel
theorem dX12_townLine_134 : decode cX12_townLine 134 = .ok (.aload_n 0, 1) := by decide +kernel
theorem dX12_townLine_135 : decode cX12_townLine 135 = .ok (.getfield 38, 3) := by decide +kernel
theorem dX12_townLine_138 : decode cX12_townLine 138 = .ok (.iconst 2, 1) := by decide +kernel
theorem dX12_townLine_139 : decode cX12_townLine 139 = .ok (.iaload, 1) := by decide +kernel
theorem dX12_townLine_140 : decode cX12_townLine 140 = .ok (.iastore, 1) := by decide +kernel
theorem dX12_townLine_141 : decode cX12_townLine 141 = .ok (.goto 53, 3) := by decide +kernel
theorem dX12_townLine_144 : decode cX12_townLine 144 = .ok (.aload_n 0, 1) := by decide +kernel
theorem dX12_townLine_145 : decode cX12_townLine 145 = .ok (.getfield 35, 3) := by decide +kernel
theorem dX12_townLine_148 : decode cX12_townLine 148 = .ok (.bipush 13, 2) := by decide +kernel
theorem dX12_townLine_150 : decode cX12_townLine 150 = .ok (.aload_n 0, 1) := by decide +kernel
theorem dX12_townLine_151 : decode cX12_townLine 151 = .ok (.getfield 38, 3) := by decide +kernel
theorem dX12_townLine_154 : decode cX12_townLine 154 = .ok (.iconst 0, 1) := by decide +kernel
theorem dX12_townLine_155 : decode cX12_townLine 155 = .ok (.iaload, 1) := by decide +kernel
theorem dX12_townLine_156 : decode cX12_townLine 156 = .ok (.iadd, 1) := by decide +kernel
theorem dX12_townLine_157 : decode cX12_townLine 157 = .ok (.dup2, 1) := by decide +kernel
theorem dX12_townLine_158 : decode cX12_townLine 158 = .ok (.iaload, 1) := by decide +kernel
theorem dX12_townLine_159 : decode cX12_townLine 159 = .ok (.iconst 1, 1) := by decide +kernel
theorem dX12_townLine_160 : decode cX12_townLine 160 = .ok (.aload_n 0, 1) := by decide +kernel
theorem dX12_townLine_161 : decode cX12_townLine 161 = .ok (.getfield 38, 3) := by decide +kernel
theorem dX12_townLine_164 : decode cX12_townLine 164 = .ok (.iconst 1, 1) := by decide +kernel
theorem dX12_townLine_165 : decode cX12_townLine 165 = .ok (.iaload, 1) := by decide +kernel
theorem dX12_townLine_166 : decode cX12_townLine 166 = .ok (.ishl, 1) := by decide +kernel
theorem dX12_townLine_167 : decode cX12_townLine 167 = .ok (.ior, 1) := by decide +kernel
theorem dX12_townLine_168 : decode cX12_townLine 168 = .ok (.iastore, 1) := by decide +kernel
theorem dX12_townLine_169 : decode cX12_townLine 169 = .ok (.aload_n 0, 1) := by decide +kernel
theorem dX12_townLine_170 : decode cX12_townLine 170 = .ok (.getfield 35, 3) := by decide +kernel
theorem dX12_townLine_173 : decode cX12_townLine 173 = .ok (.bipush 13, 2) := by decide +kernel
theorem dX12_townLine_175 : decode cX12_townLine 175 = .ok (.aload_n 0, 1) := by decide +kernel
theorem dX12_townLine_176 : decode cX12_townLine 176 = .ok (.getfield 38, 3) := by decide +kernel
theorem dX12_townLine_179 : decode cX12_townLine 179 = .ok (.iconst 1, 1) := by decide +kernel
theorem dX12_townLine_180 : decode cX12_townLine 180 = .ok (.iaload, 1) := by decide +kernel
theorem dX12_townLine_181 : decode cX12_townLine 181 = .ok (.iadd, 1) := by decide +kernel
theorem dX12_townLine_182 : decode cX12_townLine 182 = .ok (.dup2, 1) := by decide +kernel
theorem dX12_townLine_183 : decode cX12_townLine 183 = .ok (.iaload, 1) := by decide +kernel
theorem dX12_townLine_184 : decode cX12_townLine 184 = .ok (.iconst 1, 1) := by decide +kernel
theorem dX12_townLine_185 : decode cX12_townLine 185 = .ok (.aload_n 0, 1) := by decide +kernel
theorem dX12_townLine_186 : decode cX12_townLine 186 = .ok (.getfield 38, 3) := by decide +kernel
theorem dX12_townLine_189 : decode cX12_townLine 189 = .ok (.iconst 0, 1) := by decide +kernel
theorem dX12_townLine_190 : decode cX12_townLine 190 = .ok (.iaload, 1) := by decide +kernel
theorem dX12_townLine_191 : decode cX12_townLine 191 = .ok (.ishl, 1) := by decide +kernel
theorem dX12_townLine_192 : decode cX12_townLine 192 = .ok (.ior, 1) := by decide +kernel
theorem dX12_townLine_193 : decode cX12_townLine 193 = .ok (.iastore, 1) := by decide +kernel
theorem dX12_townLine_194 : decode cX12_townLine 194 = .ok (.iconst 1, 1) := by decide +kernel
theorem dX12_townLine_195 : decode cX12_townLine 195 = .ok (.ireturn, 1) := by decide +kernel
theorem dX12_keepRow_0 : decode cX12_keepRow 0 = .ok (.aload_n 0, 1) := by decide +kernel
theorem dX12_keepRow_1 : decode cX12_keepRow 1 = .ok (.getfield 35, 3) := by decide +kernel
theorem dX12_keepRow_4 : decode cX12_keepRow 4 = .ok (.iconst 0, 1) := by decide +kernel
theorem dX12_keepRow_5 : decode cX12_keepRow 5 = .ok (.iaload, 1) := by decide +kernel
theorem dX12_keepRow_6 : decode cX12_keepRow 6 = .ok (.istore_n 3, 1) := by decide +kernel
theorem dX12_keepRow_7 : decode cX12_keepRow 7 = .ok (.iload_n 3, 1) := by decide +kernel
theorem dX12_keepRow_8 : decode cX12_keepRow 8 = .ok (.iload_n 2, 1) := by decide +kernel
theorem dX12_keepRow_9 : decode cX12_keepRow 9 = .ok (.if_icmp .ne 4, 3) := by decide +kernel
theorem dX12_keepRow_12 : decode cX12_keepRow 12 = .ok (.return_, 1) := by decide +kernel
theorem dX12_keepRow_13 : decode cX12_keepRow 13 = .ok (.iconst 0, 1) := by decide +kernel
theorem dX12_keepRow_14 : decode cX12_keepRow 14 = .ok (.istore 4, 2) := by decide +kernel
theorem dX12_keepRow_16 : decode cX12_keepRow 16 = .ok (.iload 4, 2) := by decide +kernel
theorem dX12_keepRow_18 : decode cX12_keepRow 18 = .ok (.iload_n 1, 1) := by decide +kernel
theorem dX12_keepRow_19 : decode cX12_keepRow 19 = .ok (.if_icmp .ge 29, 3) := by decide +kernel
theorem dX12_keepRow_22 : decode cX12_keepRow 22 = .ok (.aload_n 0, 1) := by decide +kernel
theorem dX12_keepRow_23 : decode cX12_keepRow 23 = .ok (.getfield 35, 3) := by decide +kernel
theorem dX12_keepRow_26 : decode cX12_keepRow 26 = .ok (.iconst 1, 1) := by decide +kernel
theorem dX12_keepRow_27 : decode cX12_keepRow 27 = .ok (.iload_n 1, 1) := by decide +kernel
theorem dX12_keepRow_28 : decode cX12_keepRow 28 = .ok (.iload_n 3, 1) := by decide +kernel
theorem dX12_keepRow_29 : decode cX12_keepRow 29 = .ok (.imul, 1) := by decide +kernel
theorem dX12_keepRow_30 : decode cX12_keepRow 30 = .ok (.iadd, 1) := by decide +kernel
theorem dX12_keepRow_31 : decode cX12_keepRow 31 = .ok (.iload 4, 2) := by decide +kernel
theorem dX12_keepRow_33 : decode cX12_keepRow 33 = .ok (.iadd, 1) := by decide +kernel
theorem dX12_keepRow_34 : decode cX12_keepRow 34 = .ok (.aload_n 0, 1) := by decide +kernel
theorem dX12_keepRow_35 : decode cX12_keepRow 35 = .ok (.getfield 38, 3) := by decide +kernel
theorem dX12_keepRow_38 : decode cX12_keepRow 38 = .ok (.iload 4, 2) := by decide +kernel
theorem dX12_keepRow_40 : decode cX12_keepRow 40 = .ok (.iaload, 1) := by decide +kernel
theorem dX12_keepRow_41 : decode cX12_keepRow 41 = .ok (.iastore, 1) := by decide +kernel
theorem dX12_keepRow_42 : decode cX12_keepRow 42 = .ok (.iinc 4 1, 3) := by decide +kernel
theorem dX12_keepRow_45 : decode cX12_keepRow 45 = .ok (.goto (-29), 3) := by decide +kernel
theorem dX12_keepRow_48 : decode cX12_keepRow 48 = .ok (.aload_n 0, 1) := by decide +kernel
theorem dX12_keepRow_49 : decode cX12_keepRow 49 = .ok (.getfield 35, 3) := by decide +kernel
theorem dX12_keepRow_52 : decode cX12_keepRow 52 = .ok (.iconst 0, 1) := by decide +kernel
theorem dX12_keepRow_53 : decode cX12_keepRow 53 = .ok (.dup2, 1) := by decide +kernel
theorem dX12_keepRow_54 : decode cX12_keepRow 54 = .ok (.iaload, 1) := by decide +kernel
theorem dX12_keepRow_55 : decode cX12_keepRow 55 = .ok (.iconst 1, 1) := by decide +kernel
theorem dX12_keepRow_56 : decode cX12_keepRow 56 = .ok (.iadd, 1) := by decide +kernel
theorem dX12_keepRow_57 : decode cX12_keepRow 57 = .ok (.iastore, 1) := by decide +kernel
theorem dX12_keepRow_58 : decode cX12_keepRow 58 = .ok (.return_, 1) := by decide +kernel
theorem dX12_deedBy_0 : decode cX12_deedBy 0 = .ok (.lload_n 1, 1) := by decide +kernel
theorem dX12_deedBy_1 : decode cX12_deedBy 1 = .ok (.ldc2_w 175, 3) := by decide +kernel
theorem dX12_deedBy_4 : decode cX12_deedBy 4 = .ok (.lcmp, 1) := by decide +kernel
theorem dX12_deedBy_5 : decode cX12_deedBy 5 = .ok (.ifCond .ne 7, 3) := by decide +kernel
theorem dX12_deedBy_8 : decode cX12_deedBy 8 = .ok (.iconst 0, 1) := by decide +kernel
theorem dX12_deedBy_9 : decode cX12_deedBy 9 = .ok (.goto 77, 3) := by decide +kernel
theorem dX12_deedBy_12 : decode cX12_deedBy 12 = .ok (.lload_n 1, 1) := by decide +kernel
theorem dX12_deedBy_13 : decode cX12_deedBy 13 = .ok (.ldc2_w 177, 3) := by decide +kernel
theorem dX12_deedBy_16 : decode cX12_deedBy 16 = .ok (.lcmp, 1) := by decide +kernel
theorem dX12_deedBy_17 : decode cX12_deedBy 17 = .ok (.ifCond .ne 7, 3) := by decide +kernel
theorem dX12_deedBy_20 : decode cX12_deedBy 20 = .ok (.iconst 1, 1) := by decide +kernel
theorem dX12_deedBy_21 : decode cX12_deedBy 21 = .ok (.goto 65, 3) := by decide +kernel
theorem dX12_deedBy_24 : decode cX12_deedBy 24 = .ok (.lload_n 1, 1) := by decide +kernel
theorem dX12_deedBy_25 : decode cX12_deedBy 25 = .ok (.ldc2_w 179, 3) := by decide +kernel
theorem dX12_deedBy_28 : decode cX12_deedBy 28 = .ok (.lcmp, 1) := by decide +kernel
theorem dX12_deedBy_29 : decode cX12_deedBy 29 = .ok (.ifCond .ne 7, 3) := by decide +kernel
theorem dX12_deedBy_32 : decode cX12_deedBy 32 = .ok (.iconst 2, 1) := by decide +kernel
theorem dX12_deedBy_33 : decode cX12_deedBy 33 = .ok (.goto 53, 3) := by decide +kernel
theorem dX12_deedBy_36 : decode cX12_deedBy 36 = .ok (.lload_n 1, 1) := by decide +kernel
theorem dX12_deedBy_37 : decode cX12_deedBy 37 = .ok (.ldc2_w 181, 3) := by decide +kernel
theorem dX12_deedBy_40 : decode cX12_deedBy 40 = .ok (.lcmp, 1) := by decide +kernel
theorem dX12_deedBy_41 : decode cX12_deedBy 41 = .ok (.ifCond .ne 7, 3) := by decide +kernel
theorem dX12_deedBy_44 : decode cX12_deedBy 44 = .ok (.iconst 3, 1) := by decide +kernel
theorem dX12_deedBy_45 : decode cX12_deedBy 45 = .ok (.goto 41, 3) := by decide +kernel
theorem dX12_deedBy_48 : decode cX12_deedBy 48 = .ok (.lload_n 1, 1) := by decide +kernel
theorem dX12_deedBy_49 : decode cX12_deedBy 49 = .ok (.ldc2_w 183, 3) := by decide +kernel
theorem dX12_deedBy_52 : decode cX12_deedBy 52 = .ok (.lcmp, 1) := by decide +kernel
theorem dX12_deedBy_53 : decode cX12_deedBy 53 = .ok (.ifCond .ne 7, 3) := by decide +kernel
theorem dX12_deedBy_56 : decode cX12_deedBy 56 = .ok (.iconst 4, 1) := by decide +kernel
theorem dX12_deedBy_57 : decode cX12_deedBy 57 = .ok (.goto 29, 3) := by decide +kernel
theorem dX12_deedBy_60 : decode cX12_deedBy 60 = .ok (.lload_n 1, 1) := by decide +kernel
theorem dX12_deedBy_61 : decode cX12_deedBy 61 = .ok (.ldc2_w 185, 3) := by decide +kernel
theorem dX12_deedBy_64 : decode cX12_deedBy 64 = .ok (.lcmp, 1) := by decide +kernel
theorem dX12_deedBy_65 : decode cX12_deedBy 65 = .ok (.ifCond .ne 7, 3) := by decide +kernel
theorem dX12_deedBy_68 : decode cX12_deedBy 68 = .ok (.iconst 5, 1) := by decide +kernel
theorem dX12_deedBy_69 : decode cX12_deedBy 69 = .ok (.goto 17, 3) := by decide +kernel
theorem dX12_deedBy_72 : decode cX12_deedBy 72 = .ok (.lload_n 1, 1) := by decide +kernel
theorem dX12_deedBy_73 : decode cX12_deedBy 73 = .ok (.ldc2_w 187, 3) := by decide +kernel
theorem dX12_deedBy_76 : decode cX12_deedBy 76 = .ok (.lcmp, 1) := by decide +kernel
theorem dX12_deedBy_77 : decode cX12_deedBy 77 = .ok (.ifCond .ne 8, 3) := by decide +kernel
theorem dX12_deedBy_80 : decode cX12_deedBy 80 = .ok (.bipush 6, 2) := by decide +kernel
theorem dX12_deedBy_82 : decode cX12_deedBy 82 = .ok (.goto 4, 3) := by decide +kernel
theorem dX12_deedBy_85 : decode cX12_deedBy 85 = .ok (.iconst (-1), 1) := by decide +kernel
theorem dX12_deedBy_86 : decode cX12_deedBy 86 = .ok (.ireturn, 1) := by decide +kernel
theorem dX12_weekLine_0 : decode cX12_weekLine 0 = .ok (.aload_n 0, 1) := by decide +kernel
theorem dX12_weekLine_1 : decode cX12_weekLine 1 = .ok (.lload_n 1, 1) := by decide +kernel
theorem dX12_weekLine_2 : decode cX12_weekLine 2 = .ok (.invokevirtual 189, 3) := by decide +kernel
theorem dX12_weekLine_5 : decode cX12_weekLine 5 = .ok (.istore 4, 2) := by decide +kernel
theorem dX12_weekLine_7 : decode cX12_weekLine 7 = .ok (.iload 4, 2) := by decide +kernel
theorem dX12_weekLine_9 : decode cX12_weekLine 9 = .ok (.iconst (-1), 1) := by decide +kernel
theorem dX12_weekLine_10 : decode cX12_weekLine 10 = .ok (.if_icmp .ne 8, 3) := by decide +kernel
theorem dX12_weekLine_13 : decode cX12_weekLine 13 = .ok (.aload_n 0, 1) := by decide +kernel
theorem dX12_weekLine_14 : decode cX12_weekLine 14 = .ok (.invokevirtual 130, 3) := by decide +kernel
theorem dX12_weekLine_17 : decode cX12_weekLine 17 = .ok (.ireturn, 1) := by decide +kernel
theorem dX12_weekLine_18 : decode cX12_weekLine 18 = .ok (.aload_n 0, 1) := by decide +kernel
theorem dX12_weekLine_19 : decode cX12_weekLine 19 = .ok (.bipush 40, 2) := by decide +kernel
theorem dX12_weekLine_21 : decode cX12_weekLine 21 = .ok (.iload_n 3, 1) := by decide +kernel
theorem dX12_weekLine_22 : decode cX12_weekLine 22 = .ok (.invokevirtual 152, 3) := by decide +kernel
theorem dX12_weekLine_25 : decode cX12_weekLine 25 = .ok (.aload_n 0, 1) := by decide +kernel
theorem dX12_weekLine_26 : decode cX12_weekLine 26 = .ok (.invokevirtual 142, 3) := by decide +kernel
theorem dX12_weekLine_29 : decode cX12_weekLine 29 = .ok (.aload_n 0, 1) := by decide +kernel
theorem dX12_weekLine_30 : decode cX12_weekLine 30 = .ok (.getfield 38, 3) := by decide +kernel
theorem dX12_weekLine_33 : decode cX12_weekLine 33 = .ok (.iconst 1, 1) := by decide +kernel
theorem dX12_weekLine_34 : decode cX12_weekLine 34 = .ok (.iconst (-1), 1) := by decide +kernel
theorem dX12_weekLine_35 : decode cX12_weekLine 35 = .ok (.iastore, 1) := by decide +kernel
theorem dX12_weekLine_36 : decode cX12_weekLine 36 = .ok (.aload_n 0, 1) := by decide +kernel
theorem dX12_weekLine_37 : decode cX12_weekLine 37 = .ok (.getfield 38, 3) := by decide +kernel
theorem dX12_weekLine_40 : decode cX12_weekLine 40 = .ok (.iconst 2, 1) := by decide +kernel
theorem dX12_weekLine_41 : decode cX12_weekLine 41 = .ok (.iconst (-1), 1) := by decide +kernel
theorem dX12_weekLine_42 : decode cX12_weekLine 42 = .ok (.iastore, 1) := by decide +kernel
theorem dX12_weekLine_43 : decode cX12_weekLine 43 = .ok (.aload_n 0, 1) := by decide +kernel
theorem dX12_weekLine_44 : decode cX12_weekLine 44 = .ok (.getfield 38, 3) := by decide +kernel
theorem dX12_weekLine_47 : decode cX12_weekLine 47 = .ok (.iconst 3, 1) := by decide +kernel
theorem dX12_weekLine_48 : decode cX12_weekLine 48 = .ok (.iconst (-1), 1) := by decide +kernel
theorem dX12_weekLine_49 : decode cX12_weekLine 49 = .ok (.iastore, 1) := by decide +kernel
theorem dX12_weekLine_50 : decode cX12_weekLine 50 = .ok (.iload 4, 2) := by decide +kernel
theorem dX12_weekLine_52 : decode cX12_weekLine 52 = .ok (.bipush 6, 2) := by decide +kernel
theorem dX12_weekLine_54 : decode cX12_weekLine 54 = .ok (.if_icmp .eq 30, 3) := by decide +kernel
theorem dX12_weekLine_57 : decode cX12_weekLine 57 = .ok (.iload 4, 2) := by decide +kernel
theorem dX12_weekLine_59 : decode cX12_weekLine 59 = .ok (.iconst 4, 1) := by decide +kernel
theorem dX12_weekLine_60 : decode cX12_weekLine 60 = .ok (.if_icmp .ge 14, 3) := by decide +kernel
theorem dX12_weekLine_63 : decode cX12_weekLine 63 = .ok (.aload_n 0, 1) := by decide +kernel
theorem dX12_weekLine_64 : decode cX12_weekLine 64 = .ok (.iconst 1, 1) := by decide +kernel
theorem dX12_weekLine_65 : decode cX12_weekLine 65 = .ok (.invokevirtual 165, 3) := by decide +kernel
theorem dX12_weekLine_68 : decode cX12_weekLine 68 = .ok (.ifCond .eq 20, 3) := by decide +kernel
theorem dX12_weekLine_71 : decode cX12_weekLine 71 = .ok (.goto 13, 3) := by decide +kernel
theorem dX12_weekLine_74 : decode cX12_weekLine 74 = .ok (.aload_n 0, 1) := by decide +kernel
theorem dX12_weekLine_75 : decode cX12_weekLine 75 = .ok (.iconst 1, 1) := by decide +kernel
theorem dX12_weekLine_76 : decode cX12_weekLine 76 = .ok (.iconst 0, 1) := by decide +kernel
theorem dX12_weekLine_77 : decode cX12_weekLine 77 = .ok (.iconst 5, 1) := by decide +kernel
theorem dX12_weekLine_78 : decode cX12_weekLine 78 = .ok (.invokevirtual 149, 3) := by decide +kernel
theorem dX12_weekLine_81 : decode cX12_weekLine 81 = .ok (.ifCond .eq 7, 3) := by decide +kernel
theorem dX12_weekLine_84 : decode cX12_weekLine 84 = .ok (.iconst 1, 1) := by decide +kernel
theorem dX12_weekLine_85 : decode cX12_weekLine 85 = .ok (.goto 4, 3) := by decide +kernel
theorem dX12_weekLine_88 : decode cX12_weekLine 88 = .ok (.iconst 0, 1) := by decide +kernel
theorem dX12_weekLine_89 : decode cX12_weekLine 89 = .ok (.istore 5, 2) := by decide +kernel
theorem dX12_weekLine_91 : decode cX12_weekLine 91 = .ok (.iload 5, 2) := by decide +kernel
theorem dX12_weekLine_93 : decode cX12_weekLine 93 = .ok (.ifCond .eq 24, 3) := by decide +kernel
theorem dX12_weekLine_96 : decode cX12_weekLine 96 = .ok (.iload 4, 2) := by decide +kernel
theorem dX12_weekLine_98 : decode cX12_weekLine 98 = .ok (.iconst 1, 1) := by decide +kernel
theorem dX12_weekLine_99 : decode cX12_weekLine 99 = .ok (.iconst 3, 1) := by decide +kernel
theorem dX12_weekLine_100 : decode cX12_weekLine 100 = .ok (.invokestatic 90, 3) := by decide +kernel
theorem dX12_weekLine_103 : decode cX12_weekLine 103 = .ok (.ifCond .eq 16, 3) := by decide +kernel
theorem dX12_weekLine_106 : decode cX12_weekLine 106 = .ok (.aload_n 0, 1) := by decide +kernel
theorem dX12_weekLine_107 : decode cX12_weekLine 107 = .ok (.iconst 3, 1) := by decide +kernel
theorem dX12_weekLine_108 : decode cX12_weekLine 108 = .ok (.iconst 1, 1) := by decide +kernel
theorem dX12_weekLine_109 : decode cX12_weekLine 109 = .ok (.bipush 30, 2) := by decide +kernel
theorem dX12_weekLine_111 : decode cX12_weekLine 111 = .ok (.invokevirtual 149, 3) := by decide +kernel
theorem dX12_weekLine_114 : decode cX12_weekLine 114 = .ok (.ifCond .ne 5, 3) := by decide +kernel
theorem dX12_weekLine_117 : decode cX12_weekLine 117 = .ok (.iconst 0, 1) := by decide +kernel
theorem dX12_weekLine_118 : decode cX12_weekLine 118 = .ok (.ireturn, 1) := by decide +kernel
theorem dX12_weekLine_119 : decode cX12_weekLine 119 = .ok (.aload_n 0, 1) := by decide +kernel
theorem dX12_weekLine_120 : decode cX12_weekLine 120 = .ok (.getfield 38, 3) := by decide +kernel
theorem dX12_weekLine_123 : decode cX12_weekLine 123 = .ok (.iconst 0, 1) := by decide +kernel
theorem dX12_weekLine_124 : decode cX12_weekLine 124 = .ok (.iload 4, 2) := by decide +kernel
theorem dX12_weekLine_126 : decode cX12_weekLine 126 = .ok (.iastore, 1) := by decide +kernel
theorem dX12_weekLine_127 : decode cX12_weekLine 127 = .ok (.aload_n 0, 1) := by decide +kernel
theorem dX12_weekLine_128 : decode cX12_weekLine 128 = .ok (.iconst 4, 1) := by decide +kernel
theorem dX12_weekLine_129 : decode cX12_weekLine 129 = .ok (.bipush 40, 2) := by decide +kernel
theorem dX12_weekLine_131 : decode cX12_weekLine 131 = .ok (.invokevirtual 193, 3) := by decide +kernel
theorem dX12_weekLine_134 : decode cX12_weekLine 134 = .ok (.iconst 1, 1) := by decide +kernel
theorem dX12_weekLine_135 : decode cX12_weekLine 135 = .ok (.ireturn, 1) := by decide +kernel
theorem dX12_logLine_0 : decode cX12_logLine 0 = .ok (.lload_n 1, 1) := by decide +kernel
theorem dX12_logLine_1 : decode cX12_logLine 1 = .ok (.ldc2_w 196, 3) := by decide +kernel
theorem dX12_logLine_4 : decode cX12_logLine 4 = .ok (.lcmp, 1) := by decide +kernel
theorem dX12_logLine_5 : decode cX12_logLine 5 = .ok (.ifCond .eq 16, 3) := by decide +kernel
theorem dX12_logLine_8 : decode cX12_logLine 8 = .ok (.lload_n 1, 1) := by decide +kernel
theorem dX12_logLine_9 : decode cX12_logLine 9 = .ok (.ldc2_w 198, 3) := by decide +kernel
theorem dX12_logLine_12 : decode cX12_logLine 12 = .ok (.lcmp, 1) := by decide +kernel
theorem dX12_logLine_13 : decode cX12_logLine 13 = .ok (.ifCond .eq 8, 3) := by decide +kernel
theorem dX12_logLine_16 : decode cX12_logLine 16 = .ok (.aload_n 0, 1) := by decide +kernel
theorem dX12_logLine_17 : decode cX12_logLine 17 = .ok (.invokevirtual 130, 3) := by decide +kernel
theorem dX12_logLine_20 : decode cX12_logLine 20 = .ok (.ireturn, 1) := by decide +kernel
theorem dX12_logLine_21 : decode cX12_logLine 21 = .ok (.aload_n 0, 1) := by decide +kernel
theorem dX12_logLine_22 : decode cX12_logLine 22 = .ok (.bipush 8, 2) := by decide +kernel
theorem dX12_logLine_24 : decode cX12_logLine 24 = .ok (.iload_n 3, 1) := by decide +kernel
theorem dX12_logLine_25 : decode cX12_logLine 25 = .ok (.invokevirtual 152, 3) := by decide +kernel
theorem dX12_logLine_28 : decode cX12_logLine 28 = .ok (.aload_n 0, 1) := by decide +kernel
theorem dX12_logLine_29 : decode cX12_logLine 29 = .ok (.invokevirtual 142, 3) := by decide +kernel
theorem dX12_logLine_32 : decode cX12_logLine 32 = .ok (.aload_n 0, 1) := by decide +kernel
theorem dX12_logLine_33 : decode cX12_logLine 33 = .ok (.iconst 1, 1) := by decide +kernel
theorem dX12_logLine_34 : decode cX12_logLine 34 = .ok (.invokevirtual 165, 3) := by decide +kernel
theorem dX12_logLine_37 : decode cX12_logLine 37 = .ok (.ifCond .ne 5, 3) := by decide +kernel
theorem dX12_logLine_40 : decode cX12_logLine 40 = .ok (.iconst 0, 1) := by decide +kernel
theorem dX12_logLine_41 : decode cX12_logLine 41 = .ok (.ireturn, 1) := by decide +kernel
theorem dX12_logLine_42 : decode cX12_logLine 42 = .ok (.aload_n 0, 1) := by decide +kernel
theorem dX12_logLine_43 : decode cX12_logLine 43 = .ok (.getfield 38, 3) := by decide +kernel
theorem dX12_logLine_46 : decode cX12_logLine 46 = .ok (.iconst 0, 1) := by decide +kernel
theorem dX12_logLine_47 : decode cX12_logLine 47 = .ok (.lload_n 1, 1) := by decide +kernel
theorem dX12_logLine_48 : decode cX12_logLine 48 = .ok (.ldc2_w 196, 3) := by decide +kernel
theorem dX12_logLine_51 : decode cX12_logLine 51 = .ok (.lcmp, 1) := by decide +kernel
theorem dX12_logLine_52 : decode cX12_logLine 52 = .ok (.ifCond .ne 7, 3) := by decide +kernel
theorem dX12_logLine_55 : decode cX12_logLine 55 = .ok (.iconst 0, 1) := by decide +kernel
theorem dX12_logLine_56 : decode cX12_logLine 56 = .ok (.goto 4, 3) := by decide +kernel
theorem dX12_logLine_59 : decode cX12_logLine 59 = .ok (.iconst 1, 1) := by decide +kernel
theorem dX12_logLine_60 : decode cX12_logLine 60 = .ok (.iastore, 1) := by decide +kernel
theorem dX12_logLine_61 : decode cX12_logLine 61 = .ok (.aload_n 0, 1) := by decide +kernel
theorem dX12_logLine_62 : decode cX12_logLine 62 = .ok (.iconst 3, 1) := by decide +kernel
theorem dX12_logLine_63 : decode cX12_logLine 63 = .ok (.bipush 8, 2) := by decide +kernel
theorem dX12_logLine_65 : decode cX12_logLine 65 = .ok (.invokevirtual 193, 3) := by decide +kernel
theorem dX12_logLine_68 : decode cX12_logLine 68 = .ok (.iconst 1, 1) := by decide +kernel
theorem dX12_logLine_69 : decode cX12_logLine 69 = .ok (.ireturn, 1) := by decide +kernel
theorem dX12_allLines_0 : decode cX12_allLines 0 = .ok (.iconst 1, 1) := by decide +kernel
theorem dX12_allLines_1 : decode cX12_allLines 1 = .ok (.istore_n 2, 1) := by decide +kernel
theorem dX12_allLines_2 : decode cX12_allLines 2 = .ok (.iload_n 2, 1) := by decide +kernel
theorem dX12_allLines_3 : decode cX12_allLines 3 = .ok (.ifCond .eq 103, 3) := by decide +kernel
theorem dX12_allLines_6 : decode cX12_allLines 6 = .ok (.aload_n 0, 1) := by decide +kernel
theorem dX12_allLines_7 : decode cX12_allLines 7 = .ok (.getfield 115, 3) := by decide +kernel
theorem dX12_allLines_10 : decode cX12_allLines 10 = .ok (.ifCond .eq 96, 3) := by decide +kernel
theorem dX12_allLines_13 : decode cX12_allLines 13 = .ok (.aload_n 0, 1) := by decide +kernel
theorem dX12_allLines_14 : decode cX12_allLines 14 = .ok (.getfield 108, 3) := by decide +kernel
theorem dX12_allLines_17 : decode cX12_allLines 17 = .ok (.istore_n 3, 1) := by decide +kernel
theorem dX12_allLines_18 : decode cX12_allLines 18 = .ok (.aload_n 0, 1) := by decide +kernel
theorem dX12_allLines_19 : decode cX12_allLines 19 = .ok (.getfield 115, 3) := by decide +kernel
theorem dX12_allLines_22 : decode cX12_allLines 22 = .ok (.iconst 2, 1) := by decide +kernel
theorem dX12_allLines_23 : decode cX12_allLines 23 = .ok (.if_icmp .ne 10, 3) := by decide +kernel
theorem dX12_allLines_26 : decode cX12_allLines 26 = .ok (.aload_n 0, 1) := by decide +kernel
theorem dX12_allLines_27 : decode cX12_allLines 27 = .ok (.getfield 111, 3) := by decide +kernel
theorem dX12_allLines_30 : decode cX12_allLines 30 = .ok (.goto 4, 3) := by decide +kernel
theorem dX12_allLines_33 : decode cX12_allLines 33 = .ok (.lconst 0, 1) := by decide +kernel
theorem dX12_allLines_34 : decode cX12_allLines 34 = .ok (.lstore 4, 2) := by decide +kernel
theorem dX12_allLines_36 : decode cX12_allLines 36 = .ok (.aload_n 0, 1) := by decide +kernel
theorem dX12_allLines_37 : decode cX12_allLines 37 = .ok (.iconst 1, 1) := by decide +kernel
theorem dX12_allLines_38 : decode cX12_allLines 38 = .ok (.putfield 138, 3) := by decide +kernel
theorem dX12_allLines_41 : decode cX12_allLines 41 = .ok (.iload_n 1, 1) := by decide +kernel
theorem dX12_allLines_42 : decode cX12_allLines 42 = .ok (.ifCond .ne 13, 3) := by decide +kernel
theorem dX12_allLines_45 : decode cX12_allLines 45 = .ok (.aload_n 0, 1) := by decide +kernel
theorem dX12_allLines_46 : decode cX12_allLines 46 = .ok (.lload 4, 2) := by decide +kernel
theorem dX12_allLines_48 : decode cX12_allLines 48 = .ok (.iload_n 3, 1) := by decide +kernel
theorem dX12_allLines_49 : decode cX12_allLines 49 = .ok (.invokevirtual 200, 3) := by decide +kernel
theorem dX12_allLines_52 : decode cX12_allLines 52 = .ok (.goto 25, 3) := by decide +kernel
theorem dX12_allLines_55 : decode cX12_allLines 55 = .ok (.iload_n 1, 1) := by decide +kernel
theorem dX12_allLines_56 : decode cX12_allLines 56 = .ok (.iconst 1, 1) := by decide +kernel
theorem dX12_allLines_57 : decode cX12_allLines 57 = .ok (.if_icmp .ne 13, 3) := by decide +kernel
theorem dX12_allLines_60 : decode cX12_allLines 60 = .ok (.aload_n 0, 1) := by decide +kernel
theorem dX12_allLines_61 : decode cX12_allLines 61 = .ok (.lload 4, 2) := by decide +kernel
theorem dX12_allLines_63 : decode cX12_allLines 63 = .ok (.iload_n 3, 1) := by decide +kernel
theorem dX12_allLines_64 : decode cX12_allLines 64 = .ok (.invokevirtual 204, 3) := by decide +kernel
theorem dX12_allLines_67 : decode cX12_allLines 67 = .ok (.goto 10, 3) := by decide +kernel
theorem dX12_allLines_70 : decode cX12_allLines 70 = .ok (.aload_n 0, 1) := by decide +kernel
theorem dX12_allLines_71 : decode cX12_allLines 71 = .ok (.lload 4, 2) := by decide +kernel
theorem dX12_allLines_73 : decode cX12_allLines 73 = .ok (.iload_n 3, 1) := by decide +kernel
theorem dX12_allLines_74 : decode cX12_allLines 74 = .ok (.invokevirtual 207, 3) := by decide +kernel
theorem dX12_allLines_77 : decode cX12_allLines 77 = .ok (.istore_n 2, 1) := by decide +kernel
theorem dX12_allLines_78 : decode cX12_allLines 78 = .ok (.iload_n 2, 1) := by decide +kernel
theorem dX12_allLines_79 : decode cX12_allLines 79 = .ok (.ifCond .eq 16, 3) := by decide +kernel
theorem dX12_allLines_82 : decode cX12_allLines 82 = .ok (.aload_n 0, 1) := by decide +kernel
theorem dX12_allLines_83 : decode cX12_allLines 83 = .ok (.getfield 115, 3) := by decide +kernel
theorem dX12_allLines_86 : decode cX12_allLines 86 = .ok (.iconst 4, 1) := by decide +kernel
theorem dX12_allLines_87 : decode cX12_allLines 87 = .ok (.if_icmp .eq 8, 3) := by decide +kernel
theorem dX12_allLines_90 : decode cX12_allLines 90 = .ok (.aload_n 0, 1) := by decide +kernel
theorem dX12_allLines_91 : decode cX12_allLines 91 = .ok (.invokevirtual 130, 3) := by decide +kernel
theorem dX12_allLines_94 : decode cX12_allLines 94 = .ok (.istore_n 2, 1) := by decide +kernel
theorem dX12_allLines_95 : decode cX12_allLines 95 = .ok (.iload_n 2, 1) := by decide +kernel
theorem dX12_allLines_96 : decode cX12_allLines 96 = .ok (.ifCond .eq 7, 3) := by decide +kernel
theorem dX12_allLines_99 : decode cX12_allLines 99 = .ok (.aload_n 0, 1) := by decide +kernel
theorem dX12_allLines_100 : decode cX12_allLines 100 = .ok (.invokevirtual 142, 3) := by decide +kernel
theorem dX12_allLines_103 : decode cX12_allLines 103 = .ok (.goto (-101), 3) := by decide +kernel
theorem dX12_allLines_106 : decode cX12_allLines 106 = .ok (.iload_n 2, 1) := by decide +kernel
theorem dX12_allLines_107 : decode cX12_allLines 107 = .ok (.ireturn, 1) := by decide +kernel
theorem dX12_readText_0 : decode cX12_readText 0 = .ok (.iconst 0, 1) := by decide +kernel
theorem dX12_readText_1 : decode cX12_readText 1 = .ok (.istore_n 2, 1) := by decide +kernel
theorem dX12_readText_2 : decode cX12_readText 2 = .ok (.iload_n 2, 1) := by decide +kernel
theorem dX12_readText_3 : decode cX12_readText 3 = .ok (.sipush 161, 3) := by decide +kernel
theorem dX12_readText_6 : decode cX12_readText 6 = .ok (.if_icmp .ge 16, 3) := by decide +kernel
theorem dX12_readText_9 : decode cX12_readText 9 = .ok (.aload_n 0, 1) := by decide +kernel
theorem dX12_readText_10 : decode cX12_readText 10 = .ok (.getfield 35, 3) := by decide +kernel
theorem dX12_readText_13 : decode cX12_readText 13 = .ok (.iload_n 2, 1) := by decide +kernel
theorem dX12_readText_14 : decode cX12_readText 14 = .ok (.iconst 0, 1) := by decide +kernel
theorem dX12_readText_15 : decode cX12_readText 15 = .ok (.iastore, 1) := by decide +kernel
theorem dX12_readText_16 : decode cX12_readText 16 = .ok (.iinc 2 1, 3) := by decide +kernel
theorem dX12_readText_19 : decode cX12_readText 19 = .ok (.goto (-17), 3) := by decide +kernel
theorem dX12_readText_22 : decode cX12_readText 22 = .ok (.aload_n 0, 1) := by decide +kernel
theorem dX12_readText_23 : decode cX12_readText 23 = .ok (.iconst (-1), 1) := by decide +kernel
theorem dX12_readText_24 : decode cX12_readText 24 = .ok (.putfield 168, 3) := by decide +kernel
theorem dX12_readText_27 : decode cX12_readText 27 = .ok (.aload_n 0, 1) := by decide +kernel
theorem dX12_readText_28 : decode cX12_readText 28 = .ok (.iconst 0, 1) := by decide +kernel
theorem dX12_readText_29 : decode cX12_readText 29 = .ok (.putfield 98, 3) := by decide +kernel
theorem dX12_readText_32 : decode cX12_readText 32 = .ok (.aload_n 0, 1) := by decide +kernel
theorem dX12_readText_33 : decode cX12_readText 33 = .ok (.iconst 0, 1) := by decide +kernel
theorem dX12_readText_34 : decode cX12_readText 34 = .ok (.putfield 124, 3) := by decide +kernel
theorem dX12_readText_37 : decode cX12_readText 37 = .ok (.aload_n 0, 1) := by decide +kernel
theorem dX12_readText_38 : decode cX12_readText 38 = .ok (.invokevirtual 142, 3) := by decide +kernel
theorem dX12_readText_41 : decode cX12_readText 41 = .ok (.aload_n 0, 1) := by decide +kernel
theorem dX12_readText_42 : decode cX12_readText 42 = .ok (.iload_n 1, 1) := by decide +kernel
theorem dX12_readText_43 : decode cX12_readText 43 = .ok (.invokevirtual 210, 3) := by decide +kernel
theorem dX12_readText_46 : decode cX12_readText 46 = .ok (.istore_n 2, 1) := by decide +kernel
theorem dX12_readText_47 : decode cX12_readText 47 = .ok (.iload_n 2, 1) := by decide +kernel
theorem dX12_readText_48 : decode cX12_readText 48 = .ok (.ifCond .eq 36, 3) := by decide +kernel
theorem dX12_readText_51 : decode cX12_readText 51 = .ok (.iload_n 1, 1) := by decide +kernel
theorem dX12_readText_52 : decode cX12_readText 52 = .ok (.ifCond .ne 32, 3) := by decide +kernel
theorem dX12_readText_55 : decode cX12_readText 55 = .ok (.aload_n 0, 1) := by decide +kernel
theorem dX12_readText_56 : decode cX12_readText 56 = .ok (.getfield 124, 3) := by decide +kernel
theorem dX12_readText_59 : decode cX12_readText 59 = .ok (.ifCond .ne 25, 3) := by decide +kernel
theorem dX12_readText_62 : decode cX12_readText 62 = .ok (.aload_n 0, 1) := by decide +kernel
theorem dX12_readText_63 : decode cX12_readText 63 = .ok (.getfield 168, 3) := by decide +kernel
theorem dX12_readText_66 : decode cX12_readText 66 = .ok (.aload_n 0, 1) := by decide +kernel
theorem dX12_readText_67 : decode cX12_readText 67 = .ok (.getfield 35, 3) := by decide +kernel
theorem dX12_readText_70 : decode cX12_readText 70 = .ok (.iconst 0, 1) := by decide +kernel
theorem dX12_readText_71 : decode cX12_readText 71 = .ok (.iaload, 1) := by decide +kernel
theorem dX12_readText_72 : decode cX12_readText 72 = .ok (.if_icmp .lt 12, 3) := by decide +kernel
theorem dX12_readText_75 : decode cX12_readText 75 = .ok (.aload_n 0, 1) := by decide +kernel
theorem dX12_readText_76 : decode cX12_readText 76 = .ok (.iconst 4, 1) := by decide +kernel
theorem dX12_readText_77 : decode cX12_readText 77 = .ok (.aload_n 0, 1) := by decide +kernel
theorem dX12_readText_78 : decode cX12_readText 78 = .ok (.getfield 108, 3) := by decide +kernel
theorem dX12_readText_81 : decode cX12_readText 81 = .ok (.invokevirtual 134, 3) := by decide +kernel
theorem dX12_readText_84 : decode cX12_readText 84 = .ok (.aload_n 0, 1) := by decide +kernel
theorem dX12_readText_85 : decode cX12_readText 85 = .ok (.getfield 17, 3) := by decide +kernel
theorem dX12_readText_88 : decode cX12_readText 88 = .ok (.iconst 0, 1) := by decide +kernel
theorem dX12_readText_89 : decode cX12_readText 89 = .ok (.iload_n 2, 1) := by decide +kernel
theorem dX12_readText_90 : decode cX12_readText 90 = .ok (.ifCond .eq 10, 3) := by decide +kernel
theorem dX12_readText_93 : decode cX12_readText 93 = .ok (.aload_n 0, 1) := by decide +kernel
theorem dX12_readText_94 : decode cX12_readText 94 = .ok (.getfield 124, 3) := by decide +kernel
theorem dX12_readText_97 : decode cX12_readText 97 = .ok (.goto 4, 3) := by decide +kernel
theorem dX12_readText_100 : decode cX12_readText 100 = .ok (.iconst 1, 1) := by decide +kernel
theorem dX12_readText_101 : decode cX12_readText 101 = .ok (.iastore, 1) := by decide +kernel
theorem dX12_readText_102 : decode cX12_readText 102 = .ok (.aload_n 0, 1) := by decide +kernel
theorem dX12_readText_103 : decode cX12_readText 103 = .ok (.getfield 20, 3) := by decide +kernel
theorem dX12_readText_106 : decode cX12_readText 106 = .ok (.iconst 0, 1) := by decide +kernel
theorem dX12_readText_107 : decode cX12_readText 107 = .ok (.iload_n 2, 1) := by decide +kernel
theorem dX12_readText_108 : decode cX12_readText 108 = .ok (.ifCond .ne 10, 3) := by decide +kernel
theorem dX12_readText_111 : decode cX12_readText 111 = .ok (.aload_n 0, 1) := by decide +kernel
theorem dX12_readText_112 : decode cX12_readText 112 = .ok (.getfield 121, 3) := by decide +kernel
theorem dX12_readText_115 : decode cX12_readText 115 = .ok (.goto 18, 3) := by decide +kernel
theorem dX12_readText_118 : decode cX12_readText 118 = .ok (.aload_n 0, 1) := by decide +kernel
theorem dX12_readText_119 : decode cX12_readText 119 = .ok (.getfield 124, 3) := by decide +kernel
theorem dX12_readText_122 : decode cX12_readText 122 = .ok (.ifCond .le 10, 3) := by decide +kernel
theorem dX12_readText_125 : decode cX12_readText 125 = .ok (.aload_n 0, 1) := by decide +kernel
theorem dX12_readText_126 : decode cX12_readText 126 = .ok (.getfield 127, 3) := by decide +kernel
theorem dX12_readText_129 : decode cX12_readText 129 = .ok (.goto 4, 3) := by decide +kernel
theorem dX12_readText_132 : decode cX12_readText 132 = .ok (.iconst (-1), 1) := by decide +kernel
theorem dX12_readText_133 : decode cX12_readText 133 = .ok (.iastore, 1) := by decide +kernel
theorem dX12_readText_134 : decode cX12_readText 134 = .ok (.aload_n 0, 1) := by decide +kernel
theorem dX12_readText_135 : decode cX12_readText 135 = .ok (.getfield 17, 3) := by decide +kernel
theorem dX12_readText_138 : decode cX12_readText 138 = .ok (.iconst 0, 1) := by decide +kernel
theorem dX12_readText_139 : decode cX12_readText 139 = .ok (.iaload, 1) := by decide +kernel
theorem dX12_readText_140 : decode cX12_readText 140 = .ok (.ifCond .ne 7, 3) := by decide +kernel
theorem dX12_readText_143 : decode cX12_readText 143 = .ok (.iconst 1, 1) := by decide +kernel
theorem dX12_readText_144 : decode cX12_readText 144 = .ok (.goto 4, 3) := by decide +kernel
theorem dX12_readText_147 : decode cX12_readText 147 = .ok (.iconst 0, 1) := by decide +kernel
theorem dX12_readText_148 : decode cX12_readText 148 = .ok (.ireturn, 1) := by decide +kernel
theorem dX12_store_0 : decode cX12_store 0 = .ok (.iconst 0, 1) := by decide +kernel
theorem dX12_store_1 : decode cX12_store 1 = .ok (.istore 4, 2) := by decide +kernel
theorem dX12_store_3 : decode cX12_store 3 = .ok (.iload 4, 2) := by decide +kernel
theorem dX12_store_5 : decode cX12_store 5 = .ok (.iload_n 2, 1) := by decide +kernel
theorem dX12_store_6 : decode cX12_store 6 = .ok (.if_icmp .ge 24, 3) := by decide +kernel
theorem dX12_store_9 : decode cX12_store 9 = .ok (.aload_n 1, 1) := by decide +kernel
theorem dX12_store_10 : decode cX12_store 10 = .ok (.iload_n 2, 1) := by decide +kernel
theorem dX12_store_11 : decode cX12_store 11 = .ok (.iload_n 3, 1) := by decide +kernel
theorem dX12_store_12 : decode cX12_store 12 = .ok (.imul, 1) := by decide +kernel
theorem dX12_store_13 : decode cX12_store 13 = .ok (.iload 4, 2) := by decide +kernel
theorem dX12_store_15 : decode cX12_store 15 = .ok (.iadd, 1) := by decide +kernel
theorem dX12_store_16 : decode cX12_store 16 = .ok (.aload_n 0, 1) := by decide +kernel
theorem dX12_store_17 : decode cX12_store 17 = .ok (.getfield 35, 3) := by decide +kernel
theorem dX12_store_20 : decode cX12_store 20 = .ok (.iload 4, 2) := by decide +kernel
theorem dX12_store_22 : decode cX12_store 22 = .ok (.iaload, 1) := by decide +kernel
theorem dX12_store_23 : decode cX12_store 23 = .ok (.iastore, 1) := by decide +kernel
theorem dX12_store_24 : decode cX12_store 24 = .ok (.iinc 4 1, 3) := by decide +kernel
theorem dX12_store_27 : decode cX12_store 27 = .ok (.goto (-24), 3) := by decide +kernel
theorem dX12_store_30 : decode cX12_store 30 = .ok (.return_, 1) := by decide +kernel
theorem dX12_text_0 : decode cX12_text 0 = .ok (.aload_n 0, 1) := by decide +kernel
theorem dX12_text_1 : decode cX12_text 1 = .ok (.iconst 0, 1) := by decide +kernel
theorem dX12_text_2 : decode cX12_text 2 = .ok (.putfield 78, 3) := by decide +kernel
theorem dX12_text_5 : decode cX12_text 5 = .ok (.aload_n 0, 1) := by decide +kernel
theorem dX12_text_6 : decode cX12_text 6 = .ok (.aload_n 0, 1) := by decide +kernel
theorem dX12_text_7 : decode cX12_text 7 = .ok (.getfield 13, 3) := by decide +kernel
theorem dX12_text_10 : decode cX12_text 10 = .ok (.iconst 0, 1) := by decide +kernel
theorem dX12_text_11 : decode cX12_text 11 = .ok (.iaload, 1) := by decide +kernel
theorem dX12_text_12 : decode cX12_text 12 = .ok (.putfield 101, 3) := by decide +kernel
theorem dX12_text_15 : decode cX12_text 15 = .ok (.aload_n 0, 1) := by decide +kernel
theorem dX12_text_16 : decode cX12_text 16 = .ok (.getfield 13, 3) := by decide +kernel
theorem dX12_text_19 : decode cX12_text 19 = .ok (.iconst 0, 1) := by decide +kernel
theorem dX12_text_20 : decode cX12_text 20 = .ok (.iconst 0, 1) := by decide +kernel
theorem dX12_text_21 : decode cX12_text 21 = .ok (.iastore, 1) := by decide +kernel
theorem dX12_text_22 : decode cX12_text 22 = .ok (.aload_n 0, 1) := by decide +kernel
theorem dX12_text_23 : decode cX12_text 23 = .ok (.getfield 17, 3) := by decide +kernel
theorem dX12_text_26 : decode cX12_text 26 = .ok (.iconst 0, 1) := by decide +kernel
theorem dX12_text_27 : decode cX12_text 27 = .ok (.iconst 0, 1) := by decide +kernel
theorem dX12_text_28 : decode cX12_text 28 = .ok (.iastore, 1) := by decide +kernel
theorem dX12_text_29 : decode cX12_text 29 = .ok (.aload_n 0, 1) := by decide +kernel
theorem dX12_text_30 : decode cX12_text 30 = .ok (.getfield 20, 3) := by decide +kernel
theorem dX12_text_33 : decode cX12_text 33 = .ok (.iconst 0, 1) := by decide +kernel
theorem dX12_text_34 : decode cX12_text 34 = .ok (.iconst (-1), 1) := by decide +kernel
theorem dX12_text_35 : decode cX12_text 35 = .ok (.iastore, 1) := by decide +kernel
theorem dX12_text_36 : decode cX12_text 36 = .ok (.iload_n 1, 1) := by decide +kernel
theorem dX12_text_37 : decode cX12_text 37 = .ok (.iconst 0, 1) := by decide +kernel
theorem dX12_text_38 : decode cX12_text 38 = .ok (.iconst 2, 1) := by decide +kernel
theorem dX12_text_39 : decode cX12_text 39 = .ok (.invokestatic 90, 3) := by decide +kernel
theorem dX12_text_42 : decode cX12_text 42 = .ok (.ifCond .eq 30, 3) := by decide +kernel
theorem dX12_text_45 : decode cX12_text 45 = .ok (.iload_n 2, 1) := by decide +kernel
theorem dX12_text_46 : decode cX12_text 46 = .ok (.iconst (-1), 1) := by decide +kernel
theorem dX12_text_47 : decode cX12_text 47 = .ok (.if_icmp .ne 16, 3) := by decide +kernel
theorem dX12_text_50 : decode cX12_text 50 = .ok (.aload_n 0, 1) := by decide +kernel
theorem dX12_text_51 : decode cX12_text 51 = .ok (.getfield 23, 3) := by decide +kernel
theorem dX12_text_54 : decode cX12_text 54 = .ok (.iload_n 1, 1) := by decide +kernel
theorem dX12_text_55 : decode cX12_text 55 = .ok (.iaload, 1) := by decide +kernel
theorem dX12_text_56 : decode cX12_text 56 = .ok (.iconst 2, 1) := by decide +kernel
theorem dX12_text_57 : decode cX12_text 57 = .ok (.if_icmp .ne 18, 3) := by decide +kernel
theorem dX12_text_60 : decode cX12_text 60 = .ok (.goto 12, 3) := by decide +kernel
theorem dX12_text_63 : decode cX12_text 63 = .ok (.aload_n 0, 1) := by decide +kernel
theorem dX12_text_64 : decode cX12_text 64 = .ok (.iload_n 1, 1) := by decide +kernel
theorem dX12_text_65 : decode cX12_text 65 = .ok (.iload_n 2, 1) := by decide +kernel
theorem dX12_text_66 : decode cX12_text 66 = .ok (.invokevirtual 213, 3) := by decide +kernel
theorem dX12_text_69 : decode cX12_text 69 = .ok (.ifCond .ne 6, 3) := by decide +kernel
theorem dX12_text_72 : decode cX12_text 72 = .ok (.bipush (-2), 2) := by decide +kernel
theorem dX12_text_74 : decode cX12_text 74 = .ok (.ireturn, 1) := by decide +kernel
theorem dX12_text_75 : decode cX12_text 75 = .ok (.aload_n 0, 1) := by decide +kernel
theorem dX12_text_76 : decode cX12_text 76 = .ok (.iload_n 1, 1) := by decide +kernel
theorem dX12_text_77 : decode cX12_text 77 = .ok (.invokevirtual 216, 3) := by decide +kernel
theorem dX12_text_80 : decode cX12_text 80 = .ok (.ifCond .ne 5, 3) := by decide +kernel
theorem dX12_text_83 : decode cX12_text 83 = .ok (.iconst (-1), 1) := by decide +kernel
theorem dX12_text_84 : decode cX12_text 84 = .ok (.ireturn, 1) := by decide +kernel
theorem dX12_text_85 : decode cX12_text 85 = .ok (.iload_n 2, 1) := by decide +kernel
theorem dX12_text_86 : decode cX12_text 86 = .ok (.iconst (-1), 1) := by decide +kernel
theorem dX12_text_87 : decode cX12_text 87 = .ok (.if_icmp .ne 12, 3) := by decide +kernel
theorem dX12_text_90 : decode cX12_text 90 = .ok (.aload_n 0, 1) := by decide +kernel
theorem dX12_text_91 : decode cX12_text 91 = .ok (.getfield 23, 3) := by decide +kernel
theorem dX12_text_94 : decode cX12_text 94 = .ok (.iload_n 1, 1) := by decide +kernel
theorem dX12_text_95 : decode cX12_text 95 = .ok (.iaload, 1) := by decide +kernel
theorem dX12_text_96 : decode cX12_text 96 = .ok (.goto 4, 3) := by decide +kernel
theorem dX12_text_99 : decode cX12_text 99 = .ok (.iload_n 2, 1) := by decide +kernel
theorem dX12_text_100 : decode cX12_text 100 = .ok (.istore_n 3, 1) := by decide +kernel
theorem dX12_text_101 : decode cX12_text 101 = .ok (.aload_n 0, 1) := by decide +kernel
theorem dX12_text_102 : decode cX12_text 102 = .ok (.getfield 23, 3) := by decide +kernel
theorem dX12_text_105 : decode cX12_text 105 = .ok (.iload_n 1, 1) := by decide +kernel
theorem dX12_text_106 : decode cX12_text 106 = .ok (.dup2, 1) := by decide +kernel
theorem dX12_text_107 : decode cX12_text 107 = .ok (.iaload, 1) := by decide +kernel
theorem dX12_text_108 : decode cX12_text 108 = .ok (.iload_n 2, 1) := by decide +kernel
theorem dX12_text_109 : decode cX12_text 109 = .ok (.iconst (-1), 1) := by decide +kernel
theorem dX12_text_110 : decode cX12_text 110 = .ok (.if_icmp .ne 7, 3) := by decide +kernel
theorem dX12_text_113 : decode cX12_text 113 = .ok (.iconst 1, 1) := by decide +kernel
theorem dX12_text_114 : decode cX12_text 114 = .ok (.goto 4, 3) := by decide +kernel
theorem dX12_text_117 : decode cX12_text 117 = .ok (.iconst 0, 1) := by decide +kernel
theorem dX12_text_118 : decode cX12_text 118 = .ok (.iadd, 1) := by decide +kernel
theorem dX12_text_119 : decode cX12_text 119 = .ok (.iastore, 1) := by decide +kernel
theorem dX12_text_120 : decode cX12_text 120 = .ok (.iload_n 1, 1) := by decide +kernel
theorem dX12_text_121 : decode cX12_text 121 = .ok (.ifCond .ne 17, 3) := by decide +kernel
theorem dX12_text_124 : decode cX12_text 124 = .ok (.aload_n 0, 1) := by decide +kernel
theorem dX12_text_125 : decode cX12_text 125 = .ok (.aload_n 0, 1) := by decide +kernel
theorem dX12_text_126 : decode cX12_text 126 = .ok (.getfield 26, 3) := by decide +kernel
theorem dX12_text_129 : decode cX12_text 129 = .ok (.bipush 55, 2) := by decide +kernel
theorem dX12_text_131 : decode cX12_text 131 = .ok (.iload_n 3, 1) := by decide +kernel
theorem dX12_text_132 : decode cX12_text 132 = .ok (.invokevirtual 219, 3) := by decide +kernel
theorem dX12_text_135 : decode cX12_text 135 = .ok (.goto 34, 3) := by decide +kernel
theorem dX12_text_138 : decode cX12_text 138 = .ok (.iload_n 1, 1) := by decide +kernel
theorem dX12_text_139 : decode cX12_text 139 = .ok (.iconst 1, 1) := by decide +kernel
theorem dX12_text_140 : decode cX12_text 140 = .ok (.if_icmp .ne 18, 3) := by decide +kernel
theorem dX12_text_143 : decode cX12_text 143 = .ok (.aload_n 0, 1) := by decide +kernel
theorem dX12_text_144 : decode cX12_text 144 = .ok (.aload_n 0, 1) := by decide +kernel
theorem dX12_text_145 : decode cX12_text 145 = .ok (.getfield 29, 3) := by decide +kernel
theorem dX12_text_148 : decode cX12_text 148 = .ok (.sipush 161, 3) := by decide +kernel
theorem dX12_text_151 : decode cX12_text 151 = .ok (.iload_n 3, 1) := by decide +kernel
theorem dX12_text_152 : decode cX12_text 152 = .ok (.invokevirtual 219, 3) := by decide +kernel
theorem dX12_text_155 : decode cX12_text 155 = .ok (.goto 14, 3) := by decide +kernel
theorem dX12_text_158 : decode cX12_text 158 = .ok (.aload_n 0, 1) := by decide +kernel
theorem dX12_text_159 : decode cX12_text 159 = .ok (.aload_n 0, 1) := by decide +kernel
theorem dX12_text_160 : decode cX12_text 160 = .ok (.getfield 32, 3) := by decide +kernel
theorem dX12_text_163 : decode cX12_text 163 = .ok (.bipush 25, 2) := by decide +kernel
theorem dX12_text_165 : decode cX12_text 165 = .ok (.iload_n 3, 1) := by decide +kernel
theorem dX12_text_166 : decode cX12_text 166 = .ok (.invokevirtual 219, 3) := by decide +kernel
theorem dX12_text_169 : decode cX12_text 169 = .ok (.iload_n 3, 1) := by decide +kernel
theorem dX12_text_170 : decode cX12_text 170 = .ok (.ireturn, 1) := by decide +kernel
theorem dX12_fault_0 : decode cX12_fault 0 = .ok (.aload_n 0, 1) := by decide +kernel
theorem dX12_fault_1 : decode cX12_fault 1 = .ok (.iconst 0, 1) := by decide +kernel
theorem dX12_fault_2 : decode cX12_fault 2 = .ok (.putfield 78, 3) := by decide +kernel
theorem dX12_fault_5 : decode cX12_fault 5 = .ok (.iload_n 1, 1) := by decide +kernel
theorem dX12_fault_6 : decode cX12_fault 6 = .ok (.ifCond .ne 12, 3) := by decide +kernel
theorem dX12_fault_9 : decode cX12_fault 9 = .ok (.aload_n 0, 1) := by decide +kernel
theorem dX12_fault_10 : decode cX12_fault 10 = .ok (.getfield 17, 3) := by decide +kernel
theorem dX12_fault_13 : decode cX12_fault 13 = .ok (.iconst 0, 1) := by decide +kernel
theorem dX12_fault_14 : decode cX12_fault 14 = .ok (.iaload, 1) := by decide +kernel
theorem dX12_fault_15 : decode cX12_fault 15 = .ok (.goto 18, 3) := by decide +kernel
theorem dX12_fault_18 : decode cX12_fault 18 = .ok (.iload_n 1, 1) := by decide +kernel
theorem dX12_fault_19 : decode cX12_fault 19 = .ok (.iconst 1, 1) := by decide +kernel
theorem dX12_fault_20 : decode cX12_fault 20 = .ok (.if_icmp .ne 12, 3) := by decide +kernel
theorem dX12_fault_23 : decode cX12_fault 23 = .ok (.aload_n 0, 1) := by decide +kernel
theorem dX12_fault_24 : decode cX12_fault 24 = .ok (.getfield 20, 3) := by decide +kernel
theorem dX12_fault_27 : decode cX12_fault 27 = .ok (.iconst 0, 1) := by decide +kernel
theorem dX12_fault_28 : decode cX12_fault 28 = .ok (.iaload, 1) := by decide +kernel
theorem dX12_fault_29 : decode cX12_fault 29 = .ok (.goto 4, 3) := by decide +kernel
theorem dX12_fault_32 : decode cX12_fault 32 = .ok (.iconst (-1), 1) := by decide +kernel
theorem dX12_fault_33 : decode cX12_fault 33 = .ok (.ireturn, 1) := by decide +kernel
theorem dX12_of_0 : decode cX12_of 0 = .ok (.aload_n 0, 1) := by decide +kernel
theorem dX12_of_1 : decode cX12_of 1 = .ok (.getfield 26, 3) := by decide +kernel
theorem dX12_of_4 : decode cX12_of 4 = .ok (.bipush 55, 2) := by decide +kernel
theorem dX12_of_6 : decode cX12_of 6 = .ok (.aload_n 0, 1) := by decide +kernel
theorem dX12_of_7 : decode cX12_of 7 = .ok (.getfield 223, 3) := by decide +kernel
theorem dX12_of_10 : decode cX12_of 10 = .ok (.imul, 1) := by decide +kernel
theorem dX12_of_11 : decode cX12_of 11 = .ok (.iload_n 1, 1) := by decide +kernel
theorem dX12_of_12 : decode cX12_of 12 = .ok (.iadd, 1) := by decide +kernel
theorem dX12_of_13 : decode cX12_of 13 = .ok (.iaload, 1) := by decide +kernel
theorem dX12_of_14 : decode cX12_of 14 = .ok (.ireturn, 1) := by decide +kernel
theorem dX12_hand_0 : decode cX12_hand 0 = .ok (.aload_n 0, 1) := by decide +kernel
theorem dX12_hand_1 : decode cX12_hand 1 = .ok (.iconst 0, 1) := by decide +kernel
theorem dX12_hand_2 : decode cX12_hand 2 = .ok (.iload_n 1, 1) := by decide +kernel
theorem dX12_hand_3 : decode cX12_hand 3 = .ok (.invokevirtual 213, 3) := by decide +kernel
theorem dX12_hand_6 : decode cX12_hand 6 = .ok (.ifCond .ne 5, 3) := by decide +kernel
theorem dX12_hand_9 : decode cX12_hand 9 = .ok (.iconst 0, 1) := by decide +kernel
theorem dX12_hand_10 : decode cX12_hand 10 = .ok (.ireturn, 1) := by decide +kernel
theorem dX12_hand_11 : decode cX12_hand 11 = .ok (.aload_n 0, 1) := by decide +kernel
theorem dX12_hand_12 : decode cX12_hand 12 = .ok (.iload_n 1, 1) := by decide +kernel
theorem dX12_hand_13 : decode cX12_hand 13 = .ok (.putfield 223, 3) := by decide +kernel
theorem dX12_hand_16 : decode cX12_hand 16 = .ok (.aload_n 0, 1) := by decide +kernel
theorem dX12_hand_17 : decode cX12_hand 17 = .ok (.aload_n 0, 1) := by decide +kernel
theorem dX12_hand_18 : decode cX12_hand 18 = .ok (.iconst 0, 1) := by decide +kernel
theorem dX12_hand_19 : decode cX12_hand 19 = .ok (.invokevirtual 226, 3) := by decide +kernel
theorem dX12_hand_22 : decode cX12_hand 22 = .ok (.putfield 230, 3) := by decide +kernel
theorem dX12_hand_25 : decode cX12_hand 25 = .ok (.aload_n 0, 1) := by decide +kernel
theorem dX12_hand_26 : decode cX12_hand 26 = .ok (.iconst 0, 1) := by decide +kernel
theorem dX12_hand_27 : decode cX12_hand 27 = .ok (.putfield 233, 3) := by decide +kernel
theorem dX12_hand_30 : decode cX12_hand 30 = .ok (.aload_n 0, 1) := by decide +kernel
theorem dX12_hand_31 : decode cX12_hand 31 = .ok (.iconst 0, 1) := by decide +kernel
theorem dX12_hand_32 : decode cX12_hand 32 = .ok (.putfield 236, 3) := by decide +kernel
theorem dX12_hand_35 : decode cX12_hand 35 = .ok (.aload_n 0, 1) := by decide +kernel
theorem dX12_hand_36 : decode cX12_hand 36 = .ok (.iconst 0, 1) := by decide +kernel
theorem dX12_hand_37 : decode cX12_hand 37 = .ok (.putfield 239, 3) := by decide +kernel
theorem dX12_hand_40 : decode cX12_hand 40 = .ok (.aload_n 0, 1) := by decide +kernel
theorem dX12_hand_41 : decode cX12_hand 41 = .ok (.iconst 0, 1) := by decide +kernel
theorem dX12_hand_42 : decode cX12_hand 42 = .ok (.putfield 242, 3) := by decide +kernel
theorem dX12_hand_45 : decode cX12_hand 45 = .ok (.aload_n 0, 1) := by decide +kernel
theorem dX12_hand_46 : decode cX12_hand 46 = .ok (.iconst 0, 1) := by decide +kernel
theorem dX12_hand_47 : decode cX12_hand 47 = .ok (.putfield 245, 3) := by decide +kernel
theorem dX12_hand_50 : decode cX12_hand 50 = .ok (.aload_n 0, 1) := by decide +kernel
theorem dX12_hand_51 : decode cX12_hand 51 = .ok (.iconst 0, 1) := by decide +kernel
theorem dX12_hand_52 : decode cX12_hand 52 = .ok (.putfield 248, 3) := by decide +kernel
theorem dX12_hand_55 : decode cX12_hand 55 = .ok (.aload_n 0, 1) := by decide +kernel
theorem dX12_hand_56 : decode cX12_hand 56 = .ok (.iconst 0, 1) := by decide +kernel
theorem dX12_hand_57 : decode cX12_hand 57 = .ok (.putfield 251, 3) := by decide +kernel
theorem dX12_hand_60 : decode cX12_hand 60 = .ok (.iconst 0, 1) := by decide +kernel
theorem dX12_hand_61 : decode cX12_hand 61 = .ok (.istore_n 2, 1) := by decide +kernel
theorem dX12_hand_62 : decode cX12_hand 62 = .ok (.iload_n 2, 1) := by decide +kernel
theorem dX12_hand_63 : decode cX12_hand 63 = .ok (.bipush 6, 2) := by decide +kernel
theorem dX12_hand_65 : decode cX12_hand 65 = .ok (.if_icmp .ge 45, 3) := by decide +kernel
theorem dX12_hand_68 : decode cX12_hand 68 = .ok (.aload_n 0, 1) := by decide +kernel
theorem dX12_hand_69 : decode cX12_hand 69 = .ok (.getfield 41, 3) := by decide +kernel
theorem dX12_hand_72 : decode cX12_hand 72 = .ok (.iload_n 2, 1) := by decide +kernel
theorem dX12_hand_73 : decode cX12_hand 73 = .ok (.aload_n 0, 1) := by decide +kernel
theorem dX12_hand_74 : decode cX12_hand 74 = .ok (.bipush 7, 2) := by decide +kernel
theorem dX12_hand_76 : decode cX12_hand 76 = .ok (.iload_n 2, 1) := by decide +kernel
theorem dX12_hand_77 : decode cX12_hand 77 = .ok (.iadd, 1) := by decide +kernel
theorem dX12_hand_78 : decode cX12_hand 78 = .ok (.invokevirtual 226, 3) := by decide +kernel
theorem dX12_hand_81 : decode cX12_hand 81 = .ok (.iastore, 1) := by decide +kernel
theorem dX12_hand_82 : decode cX12_hand 82 = .ok (.aload_n 0, 1) := by decide +kernel
theorem dX12_hand_83 : decode cX12_hand 83 = .ok (.getfield 44, 3) := by decide +kernel
theorem dX12_hand_86 : decode cX12_hand 86 = .ok (.iload_n 2, 1) := by decide +kernel
theorem dX12_hand_87 : decode cX12_hand 87 = .ok (.bipush 6, 2) := by decide +kernel
theorem dX12_hand_89 : decode cX12_hand 89 = .ok (.iastore, 1) := by decide +kernel
theorem dX12_hand_90 : decode cX12_hand 90 = .ok (.aload_n 0, 1) := by decide +kernel
theorem dX12_hand_91 : decode cX12_hand 91 = .ok (.getfield 50, 3) := by decide +kernel
theorem dX12_hand_94 : decode cX12_hand 94 = .ok (.iload_n 2, 1) := by decide +kernel
theorem dX12_hand_95 : decode cX12_hand 95 = .ok (.iconst 0, 1) := by decide +kernel
theorem dX12_hand_96 : decode cX12_hand 96 = .ok (.iastore, 1) := by decide +kernel
theorem dX12_hand_97 : decode cX12_hand 97 = .ok (.aload_n 0, 1) := by decide +kernel
theorem dX12_hand_98 : decode cX12_hand 98 = .ok (.getfield 53, 3) := by decide +kernel
theorem dX12_hand_101 : decode cX12_hand 101 = .ok (.iload_n 2, 1) := by decide +kernel
theorem dX12_hand_102 : decode cX12_hand 102 = .ok (.iconst 0, 1) := by decide +kernel
theorem dX12_hand_103 : decode cX12_hand 103 = .ok (.iastore, 1) := by decide +kernel
theorem dX12_hand_104 : decode cX12_hand 104 = .ok (.iinc 2 1, 3) := by decide +kernel
theorem dX12_hand_107 : decode cX12_hand 107 = .ok (.goto (-45), 3) := by decide +kernel
theorem dX12_hand_110 : decode cX12_hand 110 = .ok (.iconst 0, 1) := by decide +kernel
theorem dX12_hand_111 : decode cX12_hand 111 = .ok (.istore_n 2, 1) := by decide +kernel
theorem dX12_hand_112 : decode cX12_hand 112 = .ok (.iload_n 2, 1) := by decide +kernel
theorem dX12_hand_113 : decode cX12_hand 113 = .ok (.bipush 36, 2) := by decide +kernel
theorem dX12_hand_115 : decode cX12_hand 115 = .ok (.if_icmp .ge 23, 3) := by decide +kernel
theorem dX12_hand_118 : decode cX12_hand 118 = .ok (.aload_n 0, 1) := by decide +kernel
theorem dX12_hand_119 : decode cX12_hand 119 = .ok (.getfield 47, 3) := by decide +kernel
theorem dX12_hand_122 : decode cX12_hand 122 = .ok (.iload_n 2, 1) := by decide +kernel
theorem dX12_hand_123 : decode cX12_hand 123 = .ok (.aload_n 0, 1) := by decide +kernel
theorem dX12_hand_124 : decode cX12_hand 124 = .ok (.bipush 19, 2) := by decide +kernel
theorem dX12_hand_126 : decode cX12_hand 126 = .ok (.iload_n 2, 1) := by decide +kernel
theorem dX12_hand_127 : decode cX12_hand 127 = .ok (.iadd, 1) := by decide +kernel
theorem dX12_hand_128 : decode cX12_hand 128 = .ok (.invokevirtual 226, 3) := by decide +kernel
theorem dX12_hand_131 : decode cX12_hand 131 = .ok (.iastore, 1) := by decide +kernel
theorem dX12_hand_132 : decode cX12_hand 132 = .ok (.iinc 2 1, 3) := by decide +kernel
theorem dX12_hand_135 : decode cX12_hand 135 = .ok (.goto (-23), 3) := by decide +kernel
theorem dX12_hand_138 : decode cX12_hand 138 = .ok (.iconst 1, 1) := by decide +kernel
theorem dX12_hand_139 : decode cX12_hand 139 = .ok (.ireturn, 1) := by decide +kernel
theorem dX12_isPerson_0 : decode cX12_isPerson 0 = .ok (.iload_n 1, 1) := by decide +kernel
theorem dX12_isPerson_1 : decode cX12_isPerson 1 = .ok (.iconst 0, 1) := by decide +kernel
theorem dX12_isPerson_2 : decode cX12_isPerson 2 = .ok (.aload_n 0, 1) := by decide +kernel
theorem dX12_isPerson_3 : decode cX12_isPerson 3 = .ok (.getfield 230, 3) := by decide +kernel
theorem dX12_isPerson_6 : decode cX12_isPerson 6 = .ok (.iconst 1, 1) := by decide +kernel
theorem dX12_isPerson_7 : decode cX12_isPerson 7 = .ok (.isub, 1) := by decide +kernel
theorem dX12_isPerson_8 : decode cX12_isPerson 8 = .ok (.invokestatic 90, 3) := by decide +kernel
theorem dX12_isPerson_11 : decode cX12_isPerson 11 = .ok (.ireturn, 1) := by decide +kernel
theorem dX12_owed_0 : decode cX12_owed 0 = .ok (.aload_n 0, 1) := by decide +kernel
theorem dX12_owed_1 : decode cX12_owed 1 = .ok (.getfield 47, 3) := by decide +kernel
theorem dX12_owed_4 : decode cX12_owed 4 = .ok (.bipush 6, 2) := by decide +kernel
theorem dX12_owed_6 : decode cX12_owed 6 = .ok (.iload_n 1, 1) := by decide +kernel
theorem dX12_owed_7 : decode cX12_owed 7 = .ok (.imul, 1) := by decide +kernel
theorem dX12_owed_8 : decode cX12_owed 8 = .ok (.iload_n 2, 1) := by decide +kernel
theorem dX12_owed_9 : decode cX12_owed 9 = .ok (.iadd, 1) := by decide +kernel
theorem dX12_owed_10 : decode cX12_owed 10 = .ok (.iaload, 1) := by decide +kernel
theorem dX12_owed_11 : decode cX12_owed 11 = .ok (.ireturn, 1) := by decide +kernel
theorem dX12_hates_0 : decode cX12_hates 0 = .ok (.aload_n 0, 1) := by decide +kernel
theorem dX12_hates_1 : decode cX12_hates 1 = .ok (.bipush 13, 2) := by decide +kernel
theorem dX12_hates_3 : decode cX12_hates 3 = .ok (.iload_n 1, 1) := by decide +kernel
theorem dX12_hates_4 : decode cX12_hates 4 = .ok (.iadd, 1) := by decide +kernel
theorem dX12_hates_5 : decode cX12_hates 5 = .ok (.invokevirtual 226, 3) := by decide +kernel
theorem dX12_hates_8 : decode cX12_hates 8 = .ok (.iload_n 2, 1) := by decide +kernel
theorem dX12_hates_9 : decode cX12_hates 9 = .ok (.invokestatic 82, 3) := by decide +kernel
theorem dX12_hates_12 : decode cX12_hates 12 = .ok (.ireturn, 1) := by decide +kernel
theorem dX12_owesAll_0 : decode cX12_owesAll 0 = .ok (.iconst 0, 1) := by decide +kernel
theorem dX12_owesAll_1 : decode cX12_owesAll 1 = .ok (.istore_n 2, 1) := by decide +kernel
theorem dX12_owesAll_2 : decode cX12_owesAll 2 = .ok (.iconst 0, 1) := by decide +kernel
theorem dX12_owesAll_3 : decode cX12_owesAll 3 = .ok (.istore_n 3, 1) := by decide +kernel
theorem dX12_owesAll_4 : decode cX12_owesAll 4 = .ok (.iload_n 3, 1) := by decide +kernel
theorem dX12_owesAll_5 : decode cX12_owesAll 5 = .ok (.aload_n 0, 1) := by decide +kernel
theorem dX12_owesAll_6 : decode cX12_owesAll 6 = .ok (.getfield 230, 3) := by decide +kernel
theorem dX12_owesAll_9 : decode cX12_owesAll 9 = .ok (.if_icmp .ge 18, 3) := by decide +kernel
theorem dX12_owesAll_12 : decode cX12_owesAll 12 = .ok (.iload_n 2, 1) := by decide +kernel
theorem dX12_owesAll_13 : decode cX12_owesAll 13 = .ok (.aload_n 0, 1) := by decide +kernel
theorem dX12_owesAll_14 : decode cX12_owesAll 14 = .ok (.iload_n 1, 1) := by decide +kernel
theorem dX12_owesAll_15 : decode cX12_owesAll 15 = .ok (.iload_n 3, 1) := by decide +kernel
theorem dX12_owesAll_16 : decode cX12_owesAll 16 = .ok (.invokevirtual 254, 3) := by decide +kernel
theorem dX12_owesAll_19 : decode cX12_owesAll 19 = .ok (.iadd, 1) := by decide +kernel
theorem dX12_owesAll_20 : decode cX12_owesAll 20 = .ok (.istore_n 2, 1) := by decide +kernel
theorem dX12_owesAll_21 : decode cX12_owesAll 21 = .ok (.iinc 3 1, 3) := by decide +kernel
theorem dX12_owesAll_24 : decode cX12_owesAll 24 = .ok (.goto (-20), 3) := by decide +kernel
theorem dX12_owesAll_27 : decode cX12_owesAll 27 = .ok (.iload_n 2, 1) := by decide +kernel
theorem dX12_owesAll_28 : decode cX12_owesAll 28 = .ok (.ireturn, 1) := by decide +kernel
theorem dX12_owedAll_0 : decode cX12_owedAll 0 = .ok (.iconst 0, 1) := by decide +kernel
theorem dX12_owedAll_1 : decode cX12_owedAll 1 = .ok (.istore_n 2, 1) := by decide +kernel
theorem dX12_owedAll_2 : decode cX12_owedAll 2 = .ok (.iconst 0, 1) := by decide +kernel
theorem dX12_owedAll_3 : decode cX12_owedAll 3 = .ok (.istore_n 3, 1) := by decide +kernel
theorem dX12_owedAll_4 : decode cX12_owedAll 4 = .ok (.iload_n 3, 1) := by decide +kernel
theorem dX12_owedAll_5 : decode cX12_owedAll 5 = .ok (.aload_n 0, 1) := by decide +kernel
theorem dX12_owedAll_6 : decode cX12_owedAll 6 = .ok (.getfield 230, 3) := by decide +kernel
theorem dX12_owedAll_9 : decode cX12_owedAll 9 = .ok (.if_icmp .ge 18, 3) := by decide +kernel
theorem dX12_owedAll_12 : decode cX12_owedAll 12 = .ok (.iload_n 2, 1) := by decide +kernel
theorem dX12_owedAll_13 : decode cX12_owedAll 13 = .ok (.aload_n 0, 1) := by decide +kernel
theorem dX12_owedAll_14 : decode cX12_owedAll 14 = .ok (.iload_n 3, 1) := by decide +kernel
theorem dX12_owedAll_15 : decode cX12_owedAll 15 = .ok (.iload_n 1, 1) := by decide +kernel
theorem dX12_owedAll_16 : decode cX12_owedAll 16 = .ok (.invokevirtual 254, 3) := by decide +kernel
theorem dX12_owedAll_19 : decode cX12_owedAll 19 = .ok (.iadd, 1) := by decide +kernel
theorem dX12_owedAll_20 : decode cX12_owedAll 20 = .ok (.istore_n 2, 1) := by decide +kernel
theorem dX12_owedAll_21 : decode cX12_owedAll 21 = .ok (.iinc 3 1, 3) := by decide +kernel
theorem dX12_owedAll_24 : decode cX12_owedAll 24 = .ok (.goto (-20), 3) := by decide +kernel
theorem dX12_owedAll_27 : decode cX12_owedAll 27 = .ok (.iload_n 2, 1) := by decide +kernel
theorem dX12_owedAll_28 : decode cX12_owedAll 28 = .ok (.ireturn, 1) := by decide +kernel
theorem dX12_town_0 : decode cX12_town 0 = .ok (.aload_n 0, 1) := by decide +kernel
theorem dX12_town_1 : decode cX12_town 1 = .ok (.iconst 0, 1) := by decide +kernel
theorem dX12_town_2 : decode cX12_town 2 = .ok (.putfield 78, 3) := by decide +kernel
theorem dX12_town_5 : decode cX12_town 5 = .ok (.aload_n 0, 1) := by decide +kernel
theorem dX12_town_6 : decode cX12_town 6 = .ok (.iload_n 1, 1) := by decide +kernel
theorem dX12_town_7 : decode cX12_town 7 = .ok (.invokevirtual 257, 3) := by decide +kernel
theorem dX12_town_10 : decode cX12_town 10 = .ok (.ifCond .ne 5, 3) := by decide +kernel
theorem dX12_town_13 : decode cX12_town 13 = .ok (.iconst (-1), 1) := by decide +kernel
theorem dX12_town_14 : decode cX12_town 14 = .ok (.ireturn, 1) := by decide +kernel
theorem dX12_town_15 : decode cX12_town 15 = .ok (.iload_n 2, 1) := by decide +kernel
theorem dX12_town_16 : decode cX12_town 16 = .ok (.bipush 10, 2) := by decide +kernel
theorem dX12_town_18 : decode cX12_town 18 = .ok (.irem, 1) := by decide +kernel
theorem dX12_town_19 : decode cX12_town 19 = .ok (.istore_n 3, 1) := by decide +kernel
theorem dX12_town_20 : decode cX12_town 20 = .ok (.iload_n 2, 1) := by decide +kernel
theorem dX12_town_21 : decode cX12_town 21 = .ok (.bipush 100, 2) := by decide +kernel
theorem dX12_town_23 : decode cX12_town 23 = .ok (.if_icmp .lt 49, 3) := by decide +kernel
theorem dX12_town_26 : decode cX12_town 26 = .ok (.iload_n 2, 1) := by decide +kernel
theorem dX12_town_27 : decode cX12_town 27 = .ok (.sipush 160, 3) := by decide +kernel
theorem dX12_town_30 : decode cX12_town 30 = .ok (.if_icmp .ge 40, 3) := by decide +kernel
theorem dX12_town_33 : decode cX12_town 33 = .ok (.aload_n 0, 1) := by decide +kernel
theorem dX12_town_34 : decode cX12_town 34 = .ok (.iload_n 2, 1) := by decide +kernel
theorem dX12_town_35 : decode cX12_town 35 = .ok (.bipush 100, 2) := by decide +kernel
theorem dX12_town_37 : decode cX12_town 37 = .ok (.isub, 1) := by decide +kernel
theorem dX12_town_38 : decode cX12_town 38 = .ok (.bipush 10, 2) := by decide +kernel
theorem dX12_town_40 : decode cX12_town 40 = .ok (.idiv, 1) := by decide +kernel
theorem dX12_town_41 : decode cX12_town 41 = .ok (.invokevirtual 260, 3) := by decide +kernel
theorem dX12_town_44 : decode cX12_town 44 = .ok (.ifCond .eq 26, 3) := by decide +kernel
theorem dX12_town_47 : decode cX12_town 47 = .ok (.aload_n 0, 1) := by decide +kernel
theorem dX12_town_48 : decode cX12_town 48 = .ok (.iload_n 3, 1) := by decide +kernel
theorem dX12_town_49 : decode cX12_town 49 = .ok (.invokevirtual 260, 3) := by decide +kernel
theorem dX12_town_52 : decode cX12_town 52 = .ok (.ifCond .eq 18, 3) := by decide +kernel
theorem dX12_town_55 : decode cX12_town 55 = .ok (.aload_n 0, 1) := by decide +kernel
theorem dX12_town_56 : decode cX12_town 56 = .ok (.iload_n 2, 1) := by decide +kernel
theorem dX12_town_57 : decode cX12_town 57 = .ok (.bipush 100, 2) := by decide +kernel
theorem dX12_town_59 : decode cX12_town 59 = .ok (.isub, 1) := by decide +kernel
theorem dX12_town_60 : decode cX12_town 60 = .ok (.bipush 10, 2) := by decide +kernel
theorem dX12_town_62 : decode cX12_town 62 = .ok (.idiv, 1) := by decide +kernel
theorem dX12_town_63 : decode cX12_town 63 = .ok (.iload_n 3, 1) := by decide +kernel
theorem dX12_town_64 : decode cX12_town 64 = .ok (.invokevirtual 254, 3) := by decide +kernel
theorem dX12_town_67 : decode cX12_town 67 = .ok (.goto 4, 3) := by decide +kernel
theorem dX12_town_70 : decode cX12_town 70 = .ok (.iconst (-1), 1) := by decide +kernel
theorem dX12_town_71 : decode cX12_town 71 = .ok (.ireturn, 1) := by decide +kernel
theorem dX12_town_72 : decode cX12_town 72 = .ok (.iload_n 2, 1) := by decide +kernel
theorem dX12_town_73 : decode cX12_town 73 = .ok (.bipush 10, 2) := by decide +kernel
theorem dX12_town_75 : decode cX12_town 75 = .ok (.idiv, 1) := by decide +kernel
theorem dX12_town_76 : decode cX12_town 76 = .ok (.tableswitch 75 0 3 #[32, 45, 45, 45], 32) := by decide +kernel
theorem dX12_town_108 : decode cX12_town 108 = .ok (.iload_n 2, 1) := by decide +kernel
theorem dX12_town_109 : decode cX12_town 109 = .ok (.ifCond .ne 10, 3) := by decide +kernel
theorem dX12_town_112 : decode cX12_town 112 = .ok (.aload_n 0, 1) := by decide +kernel
theorem dX12_town_113 : decode cX12_town 113 = .ok (.getfield 230, 3) := by decide +kernel
theorem dX12_town_116 : decode cX12_town 116 = .ok (.goto 4, 3) := by decide +kernel
theorem dX12_town_119 : decode cX12_town 119 = .ok (.iconst (-1), 1) := by decide +kernel
theorem dX12_town_120 : decode cX12_town 120 = .ok (.ireturn, 1) := by decide +kernel
theorem dX12_town_121 : decode cX12_town 121 = .ok (.iload_n 3, 1) := by decide +kernel
theorem dX12_town_122 : decode cX12_town 122 = .ok (.aload_n 0, 1) := by decide +kernel
theorem dX12_town_123 : decode cX12_town 123 = .ok (.getfield 230, 3) := by decide +kernel
theorem dX12_town_126 : decode cX12_town 126 = .ok (.if_icmp .ge 23, 3) := by decide +kernel
theorem dX12_town_129 : decode cX12_town 129 = .ok (.aload_n 0, 1) := by decide +kernel
theorem dX12_town_130 : decode cX12_town 130 = .ok (.iconst 1, 1) := by decide +kernel
theorem dX12_town_131 : decode cX12_town 131 = .ok (.bipush 6, 2) := by decide +kernel
theorem dX12_town_133 : decode cX12_town 133 = .ok (.iload_n 2, 1) := by decide +kernel
theorem dX12_town_134 : decode cX12_town 134 = .ok (.bipush 10, 2) := by decide +kernel
theorem dX12_town_136 : decode cX12_town 136 = .ok (.idiv, 1) := by decide +kernel
theorem dX12_town_137 : decode cX12_town 137 = .ok (.iconst 1, 1) := by decide +kernel
theorem dX12_town_138 : decode cX12_town 138 = .ok (.isub, 1) := by decide +kernel
theorem dX12_town_139 : decode cX12_town 139 = .ok (.imul, 1) := by decide +kernel
theorem dX12_town_140 : decode cX12_town 140 = .ok (.iadd, 1) := by decide +kernel
theorem dX12_town_141 : decode cX12_town 141 = .ok (.iload_n 3, 1) := by decide +kernel
theorem dX12_town_142 : decode cX12_town 142 = .ok (.iadd, 1) := by decide +kernel
theorem dX12_town_143 : decode cX12_town 143 = .ok (.invokevirtual 226, 3) := by decide +kernel
theorem dX12_town_146 : decode cX12_town 146 = .ok (.goto 4, 3) := by decide +kernel
theorem dX12_town_149 : decode cX12_town 149 = .ok (.iconst (-1), 1) := by decide +kernel
theorem dX12_town_150 : decode cX12_town 150 = .ok (.ireturn, 1) := by decide +kernel
theorem dX12_town_151 : decode cX12_town 151 = .ok (.iconst (-1), 1) := by decide +kernel
theorem dX12_town_152 : decode cX12_town 152 = .ok (.ireturn, 1) := by decide +kernel
theorem dX12_deeds_0 : decode cX12_deeds 0 = .ok (.aload_n 0, 1) := by decide +kernel
theorem dX12_deeds_1 : decode cX12_deeds 1 = .ok (.getfield 29, 3) := by decide +kernel
theorem dX12_deeds_4 : decode cX12_deeds 4 = .ok (.sipush 161, 3) := by decide +kernel
theorem dX12_deeds_7 : decode cX12_deeds 7 = .ok (.aload_n 0, 1) := by decide +kernel
theorem dX12_deeds_8 : decode cX12_deeds 8 = .ok (.getfield 263, 3) := by decide +kernel
theorem dX12_deeds_11 : decode cX12_deeds 11 = .ok (.imul, 1) := by decide +kernel
theorem dX12_deeds_12 : decode cX12_deeds 12 = .ok (.iaload, 1) := by decide +kernel
theorem dX12_deeds_13 : decode cX12_deeds 13 = .ok (.ireturn, 1) := by decide +kernel
theorem dX12_deedOf_0 : decode cX12_deedOf 0 = .ok (.aload_n 0, 1) := by decide +kernel
theorem dX12_deedOf_1 : decode cX12_deedOf 1 = .ok (.getfield 29, 3) := by decide +kernel
theorem dX12_deedOf_4 : decode cX12_deedOf 4 = .ok (.sipush 161, 3) := by decide +kernel
theorem dX12_deedOf_7 : decode cX12_deedOf 7 = .ok (.aload_n 0, 1) := by decide +kernel
theorem dX12_deedOf_8 : decode cX12_deedOf 8 = .ok (.getfield 263, 3) := by decide +kernel
theorem dX12_deedOf_11 : decode cX12_deedOf 11 = .ok (.imul, 1) := by decide +kernel
theorem dX12_deedOf_12 : decode cX12_deedOf 12 = .ok (.iconst 1, 1) := by decide +kernel
theorem dX12_deedOf_13 : decode cX12_deedOf 13 = .ok (.iadd, 1) := by decide +kernel
theorem dX12_deedOf_14 : decode cX12_deedOf 14 = .ok (.iconst 4, 1) := by decide +kernel
theorem dX12_deedOf_15 : decode cX12_deedOf 15 = .ok (.iload_n 1, 1) := by decide +kernel
theorem dX12_deedOf_16 : decode cX12_deedOf 16 = .ok (.imul, 1) := by decide +kernel
theorem dX12_deedOf_17 : decode cX12_deedOf 17 = .ok (.iadd, 1) := by decide +kernel
theorem dX12_deedOf_18 : decode cX12_deedOf 18 = .ok (.iload_n 2, 1) := by decide +kernel
theorem dX12_deedOf_19 : decode cX12_deedOf 19 = .ok (.iadd, 1) := by decide +kernel
theorem dX12_deedOf_20 : decode cX12_deedOf 20 = .ok (.iaload, 1) := by decide +kernel
theorem dX12_deedOf_21 : decode cX12_deedOf 21 = .ok (.ireturn, 1) := by decide +kernel
theorem dX12_hasWeek_0 : decode cX12_hasWeek 0 = .ok (.aload_n 0, 1) := by decide +kernel
theorem dX12_hasWeek_1 : decode cX12_hasWeek 1 = .ok (.iload_n 1, 1) := by decide +kernel
theorem dX12_hasWeek_2 : decode cX12_hasWeek 2 = .ok (.putfield 263, 3) := by decide +kernel
theorem dX12_hasWeek_5 : decode cX12_hasWeek 5 = .ok (.aload_n 0, 1) := by decide +kernel
theorem dX12_hasWeek_6 : decode cX12_hasWeek 6 = .ok (.iconst 1, 1) := by decide +kernel
theorem dX12_hasWeek_7 : decode cX12_hasWeek 7 = .ok (.iload_n 1, 1) := by decide +kernel
theorem dX12_hasWeek_8 : decode cX12_hasWeek 8 = .ok (.invokevirtual 213, 3) := by decide +kernel
theorem dX12_hasWeek_11 : decode cX12_hasWeek 11 = .ok (.ireturn, 1) := by decide +kernel
theorem dX12_deed_0 : decode cX12_deed 0 = .ok (.aload_n 0, 1) := by decide +kernel
theorem dX12_deed_1 : decode cX12_deed 1 = .ok (.iconst 0, 1) := by decide +kernel
theorem dX12_deed_2 : decode cX12_deed 2 = .ok (.putfield 78, 3) := by decide +kernel
theorem dX12_deed_5 : decode cX12_deed 5 = .ok (.aload_n 0, 1) := by decide +kernel
theorem dX12_deed_6 : decode cX12_deed 6 = .ok (.iload_n 1, 1) := by decide +kernel
theorem dX12_deed_7 : decode cX12_deed 7 = .ok (.invokevirtual 266, 3) := by decide +kernel
theorem dX12_deed_10 : decode cX12_deed 10 = .ok (.ifCond .ne 6, 3) := by decide +kernel
theorem dX12_deed_13 : decode cX12_deed 13 = .ok (.bipush (-2), 2) := by decide +kernel
theorem dX12_deed_15 : decode cX12_deed 15 = .ok (.ireturn, 1) := by decide +kernel
theorem dX12_deed_16 : decode cX12_deed 16 = .ok (.iload_n 2, 1) := by decide +kernel
theorem dX12_deed_17 : decode cX12_deed 17 = .ok (.iconst (-1), 1) := by decide +kernel
theorem dX12_deed_18 : decode cX12_deed 18 = .ok (.if_icmp .ne 17, 3) := by decide +kernel
theorem dX12_deed_21 : decode cX12_deed 21 = .ok (.iload_n 3, 1) := by decide +kernel
theorem dX12_deed_22 : decode cX12_deed 22 = .ok (.ifCond .ne 10, 3) := by decide +kernel
theorem dX12_deed_25 : decode cX12_deed 25 = .ok (.aload_n 0, 1) := by decide +kernel
theorem dX12_deed_26 : decode cX12_deed 26 = .ok (.invokevirtual 269, 3) := by decide +kernel
theorem dX12_deed_29 : decode cX12_deed 29 = .ok (.goto 5, 3) := by decide +kernel
theorem dX12_deed_32 : decode cX12_deed 32 = .ok (.bipush (-2), 2) := by decide +kernel
theorem dX12_deed_34 : decode cX12_deed 34 = .ok (.ireturn, 1) := by decide +kernel
theorem dX12_deed_35 : decode cX12_deed 35 = .ok (.iload_n 2, 1) := by decide +kernel
theorem dX12_deed_36 : decode cX12_deed 36 = .ok (.iconst 0, 1) := by decide +kernel
theorem dX12_deed_37 : decode cX12_deed 37 = .ok (.aload_n 0, 1) := by decide +kernel
theorem dX12_deed_38 : decode cX12_deed 38 = .ok (.invokevirtual 269, 3) := by decide +kernel
theorem dX12_deed_41 : decode cX12_deed 41 = .ok (.iconst 1, 1) := by decide +kernel
theorem dX12_deed_42 : decode cX12_deed 42 = .ok (.isub, 1) := by decide +kernel
theorem dX12_deed_43 : decode cX12_deed 43 = .ok (.invokestatic 90, 3) := by decide +kernel
theorem dX12_deed_46 : decode cX12_deed 46 = .ok (.ifCond .eq 21, 3) := by decide +kernel
theorem dX12_deed_49 : decode cX12_deed 49 = .ok (.iload_n 3, 1) := by decide +kernel
theorem dX12_deed_50 : decode cX12_deed 50 = .ok (.iconst 0, 1) := by decide +kernel
theorem dX12_deed_51 : decode cX12_deed 51 = .ok (.iconst 3, 1) := by decide +kernel
theorem dX12_deed_52 : decode cX12_deed 52 = .ok (.invokestatic 90, 3) := by decide +kernel
theorem dX12_deed_55 : decode cX12_deed 55 = .ok (.ifCond .eq 12, 3) := by decide +kernel
theorem dX12_deed_58 : decode cX12_deed 58 = .ok (.aload_n 0, 1) := by decide +kernel
theorem dX12_deed_59 : decode cX12_deed 59 = .ok (.iload_n 2, 1) := by decide +kernel
theorem dX12_deed_60 : decode cX12_deed 60 = .ok (.iload_n 3, 1) := by decide +kernel
theorem dX12_deed_61 : decode cX12_deed 61 = .ok (.invokevirtual 272, 3) := by decide +kernel
theorem dX12_deed_64 : decode cX12_deed 64 = .ok (.goto 5, 3) := by decide +kernel
theorem dX12_deed_67 : decode cX12_deed 67 = .ok (.bipush (-2), 2) := by decide +kernel
theorem dX12_deed_69 : decode cX12_deed 69 = .ok (.ireturn, 1) := by decide +kernel
theorem dX12_sits_0 : decode cX12_sits 0 = .ok (.aload_n 0, 1) := by decide +kernel
theorem dX12_sits_1 : decode cX12_sits 1 = .ok (.iload_n 2, 1) := by decide +kernel
theorem dX12_sits_2 : decode cX12_sits 2 = .ok (.iload_n 1, 1) := by decide +kernel
theorem dX12_sits_3 : decode cX12_sits 3 = .ok (.invokevirtual 254, 3) := by decide +kernel
theorem dX12_sits_6 : decode cX12_sits 6 = .ok (.ifCond .eq 14, 3) := by decide +kernel
theorem dX12_sits_9 : decode cX12_sits 9 = .ok (.aload_n 0, 1) := by decide +kernel
theorem dX12_sits_10 : decode cX12_sits 10 = .ok (.getfield 44, 3) := by decide +kernel
theorem dX12_sits_13 : decode cX12_sits 13 = .ok (.iload_n 1, 1) := by decide +kernel
theorem dX12_sits_14 : decode cX12_sits 14 = .ok (.iaload, 1) := by decide +kernel
theorem dX12_sits_15 : decode cX12_sits 15 = .ok (.bipush 6, 2) := by decide +kernel
theorem dX12_sits_17 : decode cX12_sits 17 = .ok (.if_icmp .ge 5, 3) := by decide +kernel
theorem dX12_sits_20 : decode cX12_sits 20 = .ok (.iconst 0, 1) := by decide +kernel
theorem dX12_sits_21 : decode cX12_sits 21 = .ok (.ireturn, 1) := by decide +kernel
theorem dX12_sits_22 : decode cX12_sits 22 = .ok (.iconst 0, 1) := by decide +kernel
theorem dX12_sits_23 : decode cX12_sits 23 = .ok (.istore_n 3, 1) := by decide +kernel
theorem dX12_sits_24 : decode cX12_sits 24 = .ok (.iload_n 3, 1) := by decide +kernel
theorem dX12_sits_25 : decode cX12_sits 25 = .ok (.aload_n 0, 1) := by decide +kernel
theorem dX12_sits_26 : decode cX12_sits 26 = .ok (.getfield 230, 3) := by decide +kernel
theorem dX12_sits_29 : decode cX12_sits 29 = .ok (.if_icmp .ge 30, 3) := by decide +kernel
theorem dX12_sits_32 : decode cX12_sits 32 = .ok (.aload_n 0, 1) := by decide +kernel
theorem dX12_sits_33 : decode cX12_sits 33 = .ok (.getfield 44, 3) := by decide +kernel
theorem dX12_sits_36 : decode cX12_sits 36 = .ok (.iload_n 3, 1) := by decide +kernel
theorem dX12_sits_37 : decode cX12_sits 37 = .ok (.iaload, 1) := by decide +kernel
theorem dX12_sits_38 : decode cX12_sits 38 = .ok (.iload_n 2, 1) := by decide +kernel
theorem dX12_sits_39 : decode cX12_sits 39 = .ok (.if_icmp .ne 14, 3) := by decide +kernel
theorem dX12_sits_42 : decode cX12_sits 42 = .ok (.aload_n 0, 1) := by decide +kernel
theorem dX12_sits_43 : decode cX12_sits 43 = .ok (.iload_n 1, 1) := by decide +kernel
theorem dX12_sits_44 : decode cX12_sits 44 = .ok (.iload_n 3, 1) := by decide +kernel
theorem dX12_sits_45 : decode cX12_sits 45 = .ok (.invokevirtual 275, 3) := by decide +kernel
theorem dX12_sits_48 : decode cX12_sits 48 = .ok (.ifCond .eq 5, 3) := by decide +kernel
theorem dX12_sits_51 : decode cX12_sits 51 = .ok (.iconst 0, 1) := by decide +kernel
theorem dX12_sits_52 : decode cX12_sits 52 = .ok (.ireturn, 1) := by decide +kernel
theorem dX12_sits_53 : decode cX12_sits 53 = .ok (.iinc 3 1, 3) := by decide +kernel
theorem dX12_sits_56 : decode cX12_sits 56 = .ok (.goto (-32), 3) := by decide +kernel
theorem dX12_sits_59 : decode cX12_sits 59 = .ok (.aload_n 0, 1) := by decide +kernel
theorem dX12_sits_60 : decode cX12_sits 60 = .ok (.getfield 44, 3) := by decide +kernel
theorem dX12_sits_63 : decode cX12_sits 63 = .ok (.iload_n 1, 1) := by decide +kernel
theorem dX12_sits_64 : decode cX12_sits 64 = .ok (.iload_n 2, 1) := by decide +kernel
theorem dX12_sits_65 : decode cX12_sits 65 = .ok (.iastore, 1) := by decide +kernel
theorem dX12_sits_66 : decode cX12_sits 66 = .ok (.aload_n 0, 1) := by decide +kernel
theorem dX12_sits_67 : decode cX12_sits 67 = .ok (.dup, 1) := by decide +kernel
theorem dX12_sits_68 : decode cX12_sits 68 = .ok (.getfield 236, 3) := by decide +kernel
theorem dX12_sits_71 : decode cX12_sits 71 = .ok (.iconst 1, 1) := by decide +kernel
theorem dX12_sits_72 : decode cX12_sits 72 = .ok (.iadd, 1) := by decide +kernel
theorem dX12_sits_73 : decode cX12_sits 73 = .ok (.putfield 236, 3) := by decide +kernel
theorem dX12_sits_76 : decode cX12_sits 76 = .ok (.aload_n 0, 1) := by decide +kernel
theorem dX12_sits_77 : decode cX12_sits 77 = .ok (.getfield 50, 3) := by decide +kernel
theorem dX12_sits_80 : decode cX12_sits 80 = .ok (.iload_n 1, 1) := by decide +kernel
theorem dX12_sits_81 : decode cX12_sits 81 = .ok (.dup2, 1) := by decide +kernel
theorem dX12_sits_82 : decode cX12_sits 82 = .ok (.iaload, 1) := by decide +kernel
theorem dX12_sits_83 : decode cX12_sits 83 = .ok (.iconst 1, 1) := by decide +kernel
theorem dX12_sits_84 : decode cX12_sits 84 = .ok (.iadd, 1) := by decide +kernel
theorem dX12_sits_85 : decode cX12_sits 85 = .ok (.iastore, 1) := by decide +kernel
theorem dX12_sits_86 : decode cX12_sits 86 = .ok (.aload_n 0, 1) := by decide +kernel
theorem dX12_sits_87 : decode cX12_sits 87 = .ok (.getfield 53, 3) := by decide +kernel
theorem dX12_sits_90 : decode cX12_sits 90 = .ok (.iload_n 2, 1) := by decide +kernel
theorem dX12_sits_91 : decode cX12_sits 91 = .ok (.dup2, 1) := by decide +kernel
theorem dX12_sits_92 : decode cX12_sits 92 = .ok (.iaload, 1) := by decide +kernel
theorem dX12_sits_93 : decode cX12_sits 93 = .ok (.iconst 1, 1) := by decide +kernel
theorem dX12_sits_94 : decode cX12_sits 94 = .ok (.iadd, 1) := by decide +kernel
theorem dX12_sits_95 : decode cX12_sits 95 = .ok (.iastore, 1) := by decide +kernel
theorem dX12_sits_96 : decode cX12_sits 96 = .ok (.aload_n 0, 1) := by decide +kernel
theorem dX12_sits_97 : decode cX12_sits 97 = .ok (.getfield 239, 3) := by decide +kernel
theorem dX12_sits_100 : decode cX12_sits 100 = .ok (.iload_n 2, 1) := by decide +kernel
theorem dX12_sits_101 : decode cX12_sits 101 = .ok (.invokestatic 82, 3) := by decide +kernel
theorem dX12_sits_104 : decode cX12_sits 104 = .ok (.ifCond .eq 16, 3) := by decide +kernel
theorem dX12_sits_107 : decode cX12_sits 107 = .ok (.aload_n 0, 1) := by decide +kernel
theorem dX12_sits_108 : decode cX12_sits 108 = .ok (.dup, 1) := by decide +kernel
theorem dX12_sits_109 : decode cX12_sits 109 = .ok (.getfield 242, 3) := by decide +kernel
theorem dX12_sits_112 : decode cX12_sits 112 = .ok (.iconst 1, 1) := by decide +kernel
theorem dX12_sits_113 : decode cX12_sits 113 = .ok (.iadd, 1) := by decide +kernel
theorem dX12_sits_114 : decode cX12_sits 114 = .ok (.putfield 242, 3) := by decide +kernel
theorem dX12_sits_117 : decode cX12_sits 117 = .ok (.goto 18, 3) := by decide +kernel
theorem dX12_sits_120 : decode cX12_sits 120 = .ok (.aload_n 0, 1) := by decide +kernel
theorem dX12_sits_121 : decode cX12_sits 121 = .ok (.getfield 47, 3) := by decide +kernel
theorem dX12_sits_124 : decode cX12_sits 124 = .ok (.bipush 6, 2) := by decide +kernel
theorem dX12_sits_126 : decode cX12_sits 126 = .ok (.iload_n 2, 1) := by decide +kernel
theorem dX12_sits_127 : decode cX12_sits 127 = .ok (.imul, 1) := by decide +kernel
theorem dX12_sits_128 : decode cX12_sits 128 = .ok (.iload_n 1, 1) := by decide +kernel
theorem dX12_sits_129 : decode cX12_sits 129 = .ok (.iadd, 1) := by decide +kernel
theorem dX12_sits_130 : decode cX12_sits 130 = .ok (.dup2, 1) := by decide +kernel
theorem dX12_sits_131 : decode cX12_sits 131 = .ok (.iaload, 1) := by decide +kernel
theorem dX12_sits_132 : decode cX12_sits 132 = .ok (.iconst 1, 1) := by decide +kernel
theorem dX12_sits_133 : decode cX12_sits 133 = .ok (.isub, 1) := by decide +kernel
theorem dX12_sits_134 : decode cX12_sits 134 = .ok (.iastore, 1) := by decide +kernel
theorem dX12_sits_135 : decode cX12_sits 135 = .ok (.iconst 1, 1) := by decide +kernel
theorem dX12_sits_136 : decode cX12_sits 136 = .ok (.ireturn, 1) := by decide +kernel
theorem dX12_gives_0 : decode cX12_gives 0 = .ok (.aload_n 0, 1) := by decide +kernel
theorem dX12_gives_1 : decode cX12_gives 1 = .ok (.getfield 41, 3) := by decide +kernel
theorem dX12_gives_4 : decode cX12_gives 4 = .ok (.iload_n 1, 1) := by decide +kernel
theorem dX12_gives_5 : decode cX12_gives 5 = .ok (.iaload, 1) := by decide +kernel
theorem dX12_gives_6 : decode cX12_gives 6 = .ok (.iload_n 3, 1) := by decide +kernel
theorem dX12_gives_7 : decode cX12_gives 7 = .ok (.if_icmp .lt 16, 3) := by decide +kernel
theorem dX12_gives_10 : decode cX12_gives 10 = .ok (.aload_n 0, 1) := by decide +kernel
theorem dX12_gives_11 : decode cX12_gives 11 = .ok (.getfield 41, 3) := by decide +kernel
theorem dX12_gives_14 : decode cX12_gives 14 = .ok (.iload_n 2, 1) := by decide +kernel
theorem dX12_gives_15 : decode cX12_gives 15 = .ok (.iaload, 1) := by decide +kernel
theorem dX12_gives_16 : decode cX12_gives 16 = .ok (.iload_n 3, 1) := by decide +kernel
theorem dX12_gives_17 : decode cX12_gives 17 = .ok (.iadd, 1) := by decide +kernel
theorem dX12_gives_18 : decode cX12_gives 18 = .ok (.bipush 99, 2) := by decide +kernel
theorem dX12_gives_20 : decode cX12_gives 20 = .ok (.if_icmp .le 5, 3) := by decide +kernel
theorem dX12_gives_23 : decode cX12_gives 23 = .ok (.iconst 0, 1) := by decide +kernel
theorem dX12_gives_24 : decode cX12_gives 24 = .ok (.ireturn, 1) := by decide +kernel
theorem dX12_gives_25 : decode cX12_gives 25 = .ok (.aload_n 0, 1) := by decide +kernel
theorem dX12_gives_26 : decode cX12_gives 26 = .ok (.getfield 41, 3) := by decide +kernel
theorem dX12_gives_29 : decode cX12_gives 29 = .ok (.iload_n 1, 1) := by decide +kernel
theorem dX12_gives_30 : decode cX12_gives 30 = .ok (.dup2, 1) := by decide +kernel
theorem dX12_gives_31 : decode cX12_gives 31 = .ok (.iaload, 1) := by decide +kernel
theorem dX12_gives_32 : decode cX12_gives 32 = .ok (.iload_n 3, 1) := by decide +kernel
theorem dX12_gives_33 : decode cX12_gives 33 = .ok (.isub, 1) := by decide +kernel
theorem dX12_gives_34 : decode cX12_gives 34 = .ok (.iastore, 1) := by decide +kernel
theorem dX12_gives_35 : decode cX12_gives 35 = .ok (.aload_n 0, 1) := by decide +kernel
theorem dX12_gives_36 : decode cX12_gives 36 = .ok (.getfield 41, 3) := by decide +kernel
theorem dX12_gives_39 : decode cX12_gives 39 = .ok (.iload_n 2, 1) := by decide +kernel
theorem dX12_gives_40 : decode cX12_gives 40 = .ok (.dup2, 1) := by decide +kernel
theorem dX12_gives_41 : decode cX12_gives 41 = .ok (.iaload, 1) := by decide +kernel
theorem dX12_gives_42 : decode cX12_gives 42 = .ok (.iload_n 3, 1) := by decide +kernel
theorem dX12_gives_43 : decode cX12_gives 43 = .ok (.iadd, 1) := by decide +kernel
theorem dX12_gives_44 : decode cX12_gives 44 = .ok (.iastore, 1) := by decide +kernel
theorem dX12_gives_45 : decode cX12_gives 45 = .ok (.iconst 1, 1) := by decide +kernel
theorem dX12_gives_46 : decode cX12_gives 46 = .ok (.ireturn, 1) := by decide +kernel
theorem dX12_lends_0 : decode cX12_lends 0 = .ok (.aload_n 0, 1) := by decide +kernel
theorem dX12_lends_1 : decode cX12_lends 1 = .ok (.iload_n 2, 1) := by decide +kernel
theorem dX12_lends_2 : decode cX12_lends 2 = .ok (.iload_n 1, 1) := by decide +kernel
theorem dX12_lends_3 : decode cX12_lends 3 = .ok (.invokevirtual 254, 3) := by decide +kernel
theorem dX12_lends_6 : decode cX12_lends 6 = .ok (.iload_n 3, 1) := by decide +kernel
theorem dX12_lends_7 : decode cX12_lends 7 = .ok (.iadd, 1) := by decide +kernel
theorem dX12_lends_8 : decode cX12_lends 8 = .ok (.bipush 99, 2) := by decide +kernel
theorem dX12_lends_10 : decode cX12_lends 10 = .ok (.if_icmp .gt 13, 3) := by decide +kernel
theorem dX12_lends_13 : decode cX12_lends 13 = .ok (.aload_n 0, 1) := by decide +kernel
theorem dX12_lends_14 : decode cX12_lends 14 = .ok (.iload_n 1, 1) := by decide +kernel
theorem dX12_lends_15 : decode cX12_lends 15 = .ok (.iload_n 2, 1) := by decide +kernel
theorem dX12_lends_16 : decode cX12_lends 16 = .ok (.iload_n 3, 1) := by decide +kernel
theorem dX12_lends_17 : decode cX12_lends 17 = .ok (.invokevirtual 278, 3) := by decide +kernel
theorem dX12_lends_20 : decode cX12_lends 20 = .ok (.ifCond .ne 5, 3) := by decide +kernel
theorem dX12_lends_23 : decode cX12_lends 23 = .ok (.iconst 0, 1) := by decide +kernel
theorem dX12_lends_24 : decode cX12_lends 24 = .ok (.ireturn, 1) := by decide +kernel
theorem dX12_lends_25 : decode cX12_lends 25 = .ok (.aload_n 0, 1) := by decide +kernel
theorem dX12_lends_26 : decode cX12_lends 26 = .ok (.getfield 47, 3) := by decide +kernel
theorem dX12_lends_29 : decode cX12_lends 29 = .ok (.bipush 6, 2) := by decide +kernel
theorem dX12_lends_31 : decode cX12_lends 31 = .ok (.iload_n 2, 1) := by decide +kernel
theorem dX12_lends_32 : decode cX12_lends 32 = .ok (.imul, 1) := by decide +kernel
