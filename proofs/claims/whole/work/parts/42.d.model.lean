theorem dX7_init_0 : decode cX7_init 0 = .ok (.aload_n 0, 1) := by decide +kernel
theorem dX7_init_1 : decode cX7_init 1 = .ok (.invokespecial 1, 3) := by decide +kernel
theorem dX7_init_4 : decode cX7_init 4 = .ok (.aload_n 0, 1) := by decide +kernel
theorem dX7_init_5 : decode cX7_init 5 = .ok (.bipush 8, 2) := by decide +kernel
theorem dX7_init_7 : decode cX7_init 7 = .ok (.newarray .int, 2) := by decide +kernel
theorem dX7_init_9 : decode cX7_init 9 = .ok (.putfield 7, 3) := by decide +kernel
theorem dX7_init_12 : decode cX7_init 12 = .ok (.aload_n 0, 1) := by decide +kernel
theorem dX7_init_13 : decode cX7_init 13 = .ok (.bipush 8, 2) := by decide +kernel
theorem dX7_init_15 : decode cX7_init 15 = .ok (.newarray .int, 2) := by decide +kernel
theorem dX7_init_17 : decode cX7_init 17 = .ok (.putfield 13, 3) := by decide +kernel
theorem dX7_init_20 : decode cX7_init 20 = .ok (.aload_n 0, 1) := by decide +kernel
theorem dX7_init_21 : decode cX7_init 21 = .ok (.bipush 8, 2) := by decide +kernel
theorem dX7_init_23 : decode cX7_init 23 = .ok (.newarray .int, 2) := by decide +kernel
theorem dX7_init_25 : decode cX7_init 25 = .ok (.putfield 16, 3) := by decide +kernel
theorem dX7_init_28 : decode cX7_init 28 = .ok (.aload_n 0, 1) := by decide +kernel
theorem dX7_init_29 : decode cX7_init 29 = .ok (.bipush 8, 2) := by decide +kernel
theorem dX7_init_31 : decode cX7_init 31 = .ok (.bipush 40, 2) := by decide +kernel
theorem dX7_init_33 : decode cX7_init 33 = .ok (.multianewarray 19 2, 4) := by decide +kernel
theorem dX7_init_37 : decode cX7_init 37 = .ok (.putfield 21, 3) := by decide +kernel
theorem dX7_init_40 : decode cX7_init 40 = .ok (.aload_n 0, 1) := by decide +kernel
theorem dX7_init_41 : decode cX7_init 41 = .ok (.bipush 40, 2) := by decide +kernel
theorem dX7_init_43 : decode cX7_init 43 = .ok (.newarray .long, 2) := by decide +kernel
theorem dX7_init_45 : decode cX7_init 45 = .ok (.putfield 24, 3) := by decide +kernel
theorem dX7_init_48 : decode cX7_init 48 = .ok (.aload_n 0, 1) := by decide +kernel
theorem dX7_init_49 : decode cX7_init 49 = .ok (.bipush 8, 2) := by decide +kernel
theorem dX7_init_51 : decode cX7_init 51 = .ok (.newarray .int, 2) := by decide +kernel
theorem dX7_init_53 : decode cX7_init 53 = .ok (.putfield 28, 3) := by decide +kernel
theorem dX7_init_56 : decode cX7_init 56 = .ok (.aload_n 0, 1) := by decide +kernel
theorem dX7_init_57 : decode cX7_init 57 = .ok (.bipush 8, 2) := by decide +kernel
theorem dX7_init_59 : decode cX7_init 59 = .ok (.newarray .int, 2) := by decide +kernel
theorem dX7_init_61 : decode cX7_init 61 = .ok (.putfield 31, 3) := by decide +kernel
theorem dX7_init_64 : decode cX7_init 64 = .ok (.aload_n 0, 1) := by decide +kernel
theorem dX7_init_65 : decode cX7_init 65 = .ok (.sipush 250, 3) := by decide +kernel
theorem dX7_init_68 : decode cX7_init 68 = .ok (.newarray .int, 2) := by decide +kernel
theorem dX7_init_70 : decode cX7_init 70 = .ok (.putfield 34, 3) := by decide +kernel
theorem dX7_init_73 : decode cX7_init 73 = .ok (.aload_n 0, 1) := by decide +kernel
theorem dX7_init_74 : decode cX7_init 74 = .ok (.bipush 8, 2) := by decide +kernel
theorem dX7_init_76 : decode cX7_init 76 = .ok (.newarray .int, 2) := by decide +kernel
theorem dX7_init_78 : decode cX7_init 78 = .ok (.putfield 37, 3) := by decide +kernel
theorem dX7_init_81 : decode cX7_init 81 = .ok (.aload_n 0, 1) := by decide +kernel
theorem dX7_init_82 : decode cX7_init 82 = .ok (.bipush 9, 2) := by decide +kernel
theorem dX7_init_84 : decode cX7_init 84 = .ok (.bipush 9, 2) := by decide +kernel
theorem dX7_init_86 : decode cX7_init 86 = .ok (.multianewarray 40 2, 4) := by decide +kernel
theorem dX7_init_90 : decode cX7_init 90 = .ok (.putfield 42, 3) := by decide +kernel
theorem dX7_init_93 : decode cX7_init 93 = .ok (.aload_n 0, 1) := by decide +kernel
theorem dX7_init_94 : decode cX7_init 94 = .ok (.bipush 12, 2) := by decide +kernel
theorem dX7_init_96 : decode cX7_init 96 = .ok (.newarray .int, 2) := by decide +kernel
theorem dX7_init_98 : decode cX7_init 98 = .ok (.putfield 45, 3) := by decide +kernel
theorem dX7_init_101 : decode cX7_init 101 = .ok (.aload_n 0, 1) := by decide +kernel
theorem dX7_init_102 : decode cX7_init 102 = .ok (.bipush 10, 2) := by decide +kernel
theorem dX7_init_104 : decode cX7_init 104 = .ok (.putfield 48, 3) := by decide +kernel
theorem dX7_init_107 : decode cX7_init 107 = .ok (.aload_n 0, 1) := by decide +kernel
theorem dX7_init_108 : decode cX7_init 108 = .ok (.bipush 10, 2) := by decide +kernel
theorem dX7_init_110 : decode cX7_init 110 = .ok (.putfield 52, 3) := by decide +kernel
theorem dX7_init_113 : decode cX7_init 113 = .ok (.aload_n 0, 1) := by decide +kernel
theorem dX7_init_114 : decode cX7_init 114 = .ok (.iconst 1, 1) := by decide +kernel
theorem dX7_init_115 : decode cX7_init 115 = .ok (.putfield 55, 3) := by decide +kernel
theorem dX7_init_118 : decode cX7_init 118 = .ok (.aload_n 0, 1) := by decide +kernel
theorem dX7_init_119 : decode cX7_init 119 = .ok (.iconst 2, 1) := by decide +kernel
theorem dX7_init_120 : decode cX7_init 120 = .ok (.newarray .int, 2) := by decide +kernel
theorem dX7_init_122 : decode cX7_init 122 = .ok (.putfield 58, 3) := by decide +kernel
theorem dX7_init_125 : decode cX7_init 125 = .ok (.aload_n 0, 1) := by decide +kernel
theorem dX7_init_126 : decode cX7_init 126 = .ok (.bipush 12, 2) := by decide +kernel
theorem dX7_init_128 : decode cX7_init 128 = .ok (.newarray .int, 2) := by decide +kernel
theorem dX7_init_130 : decode cX7_init 130 = .ok (.putfield 61, 3) := by decide +kernel
theorem dX7_init_133 : decode cX7_init 133 = .ok (.aload_n 0, 1) := by decide +kernel
theorem dX7_init_134 : decode cX7_init 134 = .ok (.bipush 9, 2) := by decide +kernel
theorem dX7_init_136 : decode cX7_init 136 = .ok (.newarray .int, 2) := by decide +kernel
theorem dX7_init_138 : decode cX7_init 138 = .ok (.putfield 64, 3) := by decide +kernel
theorem dX7_init_141 : decode cX7_init 141 = .ok (.aload_n 0, 1) := by decide +kernel
theorem dX7_init_142 : decode cX7_init 142 = .ok (.bipush 9, 2) := by decide +kernel
theorem dX7_init_144 : decode cX7_init 144 = .ok (.newarray .int, 2) := by decide +kernel
theorem dX7_init_146 : decode cX7_init 146 = .ok (.putfield 67, 3) := by decide +kernel
theorem dX7_init_149 : decode cX7_init 149 = .ok (.aload_n 0, 1) := by decide +kernel
theorem dX7_init_150 : decode cX7_init 150 = .ok (.iconst 3, 1) := by decide +kernel
theorem dX7_init_151 : decode cX7_init 151 = .ok (.anewarray 8, 3) := by decide +kernel
theorem dX7_init_154 : decode cX7_init 154 = .ok (.putfield 70, 3) := by decide +kernel
theorem dX7_init_157 : decode cX7_init 157 = .ok (.aload_n 0, 1) := by decide +kernel
theorem dX7_init_158 : decode cX7_init 158 = .ok (.bipush 9, 2) := by decide +kernel
theorem dX7_init_160 : decode cX7_init 160 = .ok (.newarray .int, 2) := by decide +kernel
theorem dX7_init_162 : decode cX7_init 162 = .ok (.putfield 74, 3) := by decide +kernel
theorem dX7_init_165 : decode cX7_init 165 = .ok (.aload_n 0, 1) := by decide +kernel
theorem dX7_init_166 : decode cX7_init 166 = .ok (.bipush 9, 2) := by decide +kernel
theorem dX7_init_168 : decode cX7_init 168 = .ok (.newarray .int, 2) := by decide +kernel
theorem dX7_init_170 : decode cX7_init 170 = .ok (.putfield 77, 3) := by decide +kernel
theorem dX7_init_173 : decode cX7_init 173 = .ok (.iconst 0, 1) := by decide +kernel
theorem dX7_init_174 : decode cX7_init 174 = .ok (.istore_n 1, 1) := by decide +kernel
theorem dX7_init_175 : decode cX7_init 175 = .ok (.iload_n 1, 1) := by decide +kernel
theorem dX7_init_176 : decode cX7_init 176 = .ok (.bipush 12, 2) := by decide +kernel
theorem dX7_init_178 : decode cX7_init 178 = .ok (.if_icmp .ge 17, 3) := by decide +kernel
theorem dX7_init_181 : decode cX7_init 181 = .ok (.aload_n 0, 1) := by decide +kernel
theorem dX7_init_182 : decode cX7_init 182 = .ok (.getfield 45, 3) := by decide +kernel
theorem dX7_init_185 : decode cX7_init 185 = .ok (.iload_n 1, 1) := by decide +kernel
theorem dX7_init_186 : decode cX7_init 186 = .ok (.bipush 40, 2) := by decide +kernel
theorem dX7_init_188 : decode cX7_init 188 = .ok (.iastore, 1) := by decide +kernel
theorem dX7_init_189 : decode cX7_init 189 = .ok (.iinc 1 1, 3) := by decide +kernel
theorem dX7_init_192 : decode cX7_init 192 = .ok (.goto (-17), 3) := by decide +kernel
theorem dX7_init_195 : decode cX7_init 195 = .ok (.return_, 1) := by decide +kernel
theorem dX7_in_0 : decode cX7_in 0 = .ok (.lload_n 0, 1) := by decide +kernel
theorem dX7_in_1 : decode cX7_in 1 = .ok (.lload_n 2, 1) := by decide +kernel
theorem dX7_in_2 : decode cX7_in 2 = .ok (.lcmp, 1) := by decide +kernel
theorem dX7_in_3 : decode cX7_in 3 = .ok (.ifCond .lt 14, 3) := by decide +kernel
theorem dX7_in_6 : decode cX7_in 6 = .ok (.lload_n 0, 1) := by decide +kernel
theorem dX7_in_7 : decode cX7_in 7 = .ok (.lload 4, 2) := by decide +kernel
theorem dX7_in_9 : decode cX7_in 9 = .ok (.lcmp, 1) := by decide +kernel
theorem dX7_in_10 : decode cX7_in 10 = .ok (.ifCond .gt 7, 3) := by decide +kernel
theorem dX7_in_13 : decode cX7_in 13 = .ok (.iconst 1, 1) := by decide +kernel
theorem dX7_in_14 : decode cX7_in 14 = .ok (.goto 4, 3) := by decide +kernel
theorem dX7_in_17 : decode cX7_in 17 = .ok (.iconst 0, 1) := by decide +kernel
theorem dX7_in_18 : decode cX7_in 18 = .ok (.ireturn, 1) := by decide +kernel
theorem dX7_refuse_0 : decode cX7_refuse 0 = .ok (.aload_n 0, 1) := by decide +kernel
theorem dX7_refuse_1 : decode cX7_refuse 1 = .ok (.getfield 37, 3) := by decide +kernel
theorem dX7_refuse_4 : decode cX7_refuse 4 = .ok (.iload_n 1, 1) := by decide +kernel
theorem dX7_refuse_5 : decode cX7_refuse 5 = .ok (.ineg, 1) := by decide +kernel
theorem dX7_refuse_6 : decode cX7_refuse 6 = .ok (.dup2, 1) := by decide +kernel
theorem dX7_refuse_7 : decode cX7_refuse 7 = .ok (.iaload, 1) := by decide +kernel
theorem dX7_refuse_8 : decode cX7_refuse 8 = .ok (.iconst 1, 1) := by decide +kernel
theorem dX7_refuse_9 : decode cX7_refuse 9 = .ok (.iadd, 1) := by decide +kernel
theorem dX7_refuse_10 : decode cX7_refuse 10 = .ok (.iastore, 1) := by decide +kernel
theorem dX7_refuse_11 : decode cX7_refuse 11 = .ok (.iload_n 1, 1) := by decide +kernel
theorem dX7_refuse_12 : decode cX7_refuse 12 = .ok (.ireturn, 1) := by decide +kernel
theorem dX7_isOpen_0 : decode cX7_isOpen 0 = .ok (.aload_n 0, 1) := by decide +kernel
theorem dX7_isOpen_1 : decode cX7_isOpen 1 = .ok (.getfield 42, 3) := by decide +kernel
theorem dX7_isOpen_4 : decode cX7_isOpen 4 = .ok (.iload_n 1, 1) := by decide +kernel
theorem dX7_isOpen_5 : decode cX7_isOpen 5 = .ok (.aaload, 1) := by decide +kernel
theorem dX7_isOpen_6 : decode cX7_isOpen 6 = .ok (.iconst 1, 1) := by decide +kernel
theorem dX7_isOpen_7 : decode cX7_isOpen 7 = .ok (.iaload, 1) := by decide +kernel
theorem dX7_isOpen_8 : decode cX7_isOpen 8 = .ok (.ifCond .le 7, 3) := by decide +kernel
theorem dX7_isOpen_11 : decode cX7_isOpen 11 = .ok (.iconst 1, 1) := by decide +kernel
theorem dX7_isOpen_12 : decode cX7_isOpen 12 = .ok (.goto 4, 3) := by decide +kernel
theorem dX7_isOpen_15 : decode cX7_isOpen 15 = .ok (.iconst 0, 1) := by decide +kernel
theorem dX7_isOpen_16 : decode cX7_isOpen 16 = .ok (.ireturn, 1) := by decide +kernel
theorem dX7_openOnes_0 : decode cX7_openOnes 0 = .ok (.iconst 0, 1) := by decide +kernel
theorem dX7_openOnes_1 : decode cX7_openOnes 1 = .ok (.istore_n 1, 1) := by decide +kernel
theorem dX7_openOnes_2 : decode cX7_openOnes 2 = .ok (.iconst 0, 1) := by decide +kernel
theorem dX7_openOnes_3 : decode cX7_openOnes 3 = .ok (.istore_n 2, 1) := by decide +kernel
theorem dX7_openOnes_4 : decode cX7_openOnes 4 = .ok (.iload_n 2, 1) := by decide +kernel
theorem dX7_openOnes_5 : decode cX7_openOnes 5 = .ok (.aload_n 0, 1) := by decide +kernel
theorem dX7_openOnes_6 : decode cX7_openOnes 6 = .ok (.getfield 80, 3) := by decide +kernel
theorem dX7_openOnes_9 : decode cX7_openOnes 9 = .ok (.if_icmp .ge 25, 3) := by decide +kernel
theorem dX7_openOnes_12 : decode cX7_openOnes 12 = .ok (.iload_n 1, 1) := by decide +kernel
theorem dX7_openOnes_13 : decode cX7_openOnes 13 = .ok (.aload_n 0, 1) := by decide +kernel
theorem dX7_openOnes_14 : decode cX7_openOnes 14 = .ok (.iload_n 2, 1) := by decide +kernel
theorem dX7_openOnes_15 : decode cX7_openOnes 15 = .ok (.invokevirtual 87, 3) := by decide +kernel
theorem dX7_openOnes_18 : decode cX7_openOnes 18 = .ok (.ifCond .eq 7, 3) := by decide +kernel
theorem dX7_openOnes_21 : decode cX7_openOnes 21 = .ok (.iconst 1, 1) := by decide +kernel
theorem dX7_openOnes_22 : decode cX7_openOnes 22 = .ok (.goto 4, 3) := by decide +kernel
theorem dX7_openOnes_25 : decode cX7_openOnes 25 = .ok (.iconst 0, 1) := by decide +kernel
theorem dX7_openOnes_26 : decode cX7_openOnes 26 = .ok (.iadd, 1) := by decide +kernel
theorem dX7_openOnes_27 : decode cX7_openOnes 27 = .ok (.istore_n 1, 1) := by decide +kernel
theorem dX7_openOnes_28 : decode cX7_openOnes 28 = .ok (.iinc 2 1, 3) := by decide +kernel
theorem dX7_openOnes_31 : decode cX7_openOnes 31 = .ok (.goto (-27), 3) := by decide +kernel
theorem dX7_openOnes_34 : decode cX7_openOnes 34 = .ok (.iload_n 1, 1) := by decide +kernel
theorem dX7_openOnes_35 : decode cX7_openOnes 35 = .ok (.ireturn, 1) := by decide +kernel
theorem dX7_sums_0 : decode cX7_sums 0 = .ok (.iconst 0, 1) := by decide +kernel
theorem dX7_sums_1 : decode cX7_sums 1 = .ok (.istore_n 1, 1) := by decide +kernel
theorem dX7_sums_2 : decode cX7_sums 2 = .ok (.iconst 0, 1) := by decide +kernel
theorem dX7_sums_3 : decode cX7_sums 3 = .ok (.istore_n 2, 1) := by decide +kernel
theorem dX7_sums_4 : decode cX7_sums 4 = .ok (.iload_n 2, 1) := by decide +kernel
theorem dX7_sums_5 : decode cX7_sums 5 = .ok (.aload_n 0, 1) := by decide +kernel
theorem dX7_sums_6 : decode cX7_sums 6 = .ok (.getfield 80, 3) := by decide +kernel
theorem dX7_sums_9 : decode cX7_sums 9 = .ok (.if_icmp .ge 20, 3) := by decide +kernel
theorem dX7_sums_12 : decode cX7_sums 12 = .ok (.iload_n 1, 1) := by decide +kernel
theorem dX7_sums_13 : decode cX7_sums 13 = .ok (.aload_n 0, 1) := by decide +kernel
theorem dX7_sums_14 : decode cX7_sums 14 = .ok (.getfield 42, 3) := by decide +kernel
theorem dX7_sums_17 : decode cX7_sums 17 = .ok (.iload_n 2, 1) := by decide +kernel
theorem dX7_sums_18 : decode cX7_sums 18 = .ok (.aaload, 1) := by decide +kernel
theorem dX7_sums_19 : decode cX7_sums 19 = .ok (.iconst 1, 1) := by decide +kernel
theorem dX7_sums_20 : decode cX7_sums 20 = .ok (.iaload, 1) := by decide +kernel
theorem dX7_sums_21 : decode cX7_sums 21 = .ok (.iadd, 1) := by decide +kernel
theorem dX7_sums_22 : decode cX7_sums 22 = .ok (.istore_n 1, 1) := by decide +kernel
theorem dX7_sums_23 : decode cX7_sums 23 = .ok (.iinc 2 1, 3) := by decide +kernel
theorem dX7_sums_26 : decode cX7_sums 26 = .ok (.goto (-22), 3) := by decide +kernel
theorem dX7_sums_29 : decode cX7_sums 29 = .ok (.iload_n 1, 1) := by decide +kernel
theorem dX7_sums_30 : decode cX7_sums 30 = .ok (.ireturn, 1) := by decide +kernel
theorem dX7_newDebt_0 : decode cX7_newDebt 0 = .ok (.aload_n 0, 1) := by decide +kernel
theorem dX7_newDebt_1 : decode cX7_newDebt 1 = .ok (.getfield 42, 3) := by decide +kernel
theorem dX7_newDebt_4 : decode cX7_newDebt 4 = .ok (.aload_n 0, 1) := by decide +kernel
theorem dX7_newDebt_5 : decode cX7_newDebt 5 = .ok (.getfield 80, 3) := by decide +kernel
theorem dX7_newDebt_8 : decode cX7_newDebt 8 = .ok (.aaload, 1) := by decide +kernel
theorem dX7_newDebt_9 : decode cX7_newDebt 9 = .ok (.astore_n 3, 1) := by decide +kernel
theorem dX7_newDebt_10 : decode cX7_newDebt 10 = .ok (.aload_n 3, 1) := by decide +kernel
theorem dX7_newDebt_11 : decode cX7_newDebt 11 = .ok (.iconst 0, 1) := by decide +kernel
theorem dX7_newDebt_12 : decode cX7_newDebt 12 = .ok (.iload_n 1, 1) := by decide +kernel
theorem dX7_newDebt_13 : decode cX7_newDebt 13 = .ok (.iastore, 1) := by decide +kernel
theorem dX7_newDebt_14 : decode cX7_newDebt 14 = .ok (.aload_n 3, 1) := by decide +kernel
theorem dX7_newDebt_15 : decode cX7_newDebt 15 = .ok (.iconst 1, 1) := by decide +kernel
theorem dX7_newDebt_16 : decode cX7_newDebt 16 = .ok (.iload_n 2, 1) := by decide +kernel
theorem dX7_newDebt_17 : decode cX7_newDebt 17 = .ok (.iastore, 1) := by decide +kernel
theorem dX7_newDebt_18 : decode cX7_newDebt 18 = .ok (.aload_n 3, 1) := by decide +kernel
theorem dX7_newDebt_19 : decode cX7_newDebt 19 = .ok (.iconst 2, 1) := by decide +kernel
theorem dX7_newDebt_20 : decode cX7_newDebt 20 = .ok (.iconst 0, 1) := by decide +kernel
theorem dX7_newDebt_21 : decode cX7_newDebt 21 = .ok (.iastore, 1) := by decide +kernel
theorem dX7_newDebt_22 : decode cX7_newDebt 22 = .ok (.aload_n 3, 1) := by decide +kernel
theorem dX7_newDebt_23 : decode cX7_newDebt 23 = .ok (.iconst 3, 1) := by decide +kernel
theorem dX7_newDebt_24 : decode cX7_newDebt 24 = .ok (.iconst 3, 1) := by decide +kernel
theorem dX7_newDebt_25 : decode cX7_newDebt 25 = .ok (.iastore, 1) := by decide +kernel
theorem dX7_newDebt_26 : decode cX7_newDebt 26 = .ok (.aload_n 3, 1) := by decide +kernel
theorem dX7_newDebt_27 : decode cX7_newDebt 27 = .ok (.iconst 4, 1) := by decide +kernel
theorem dX7_newDebt_28 : decode cX7_newDebt 28 = .ok (.bipush 10, 2) := by decide +kernel
theorem dX7_newDebt_30 : decode cX7_newDebt 30 = .ok (.iastore, 1) := by decide +kernel
theorem dX7_newDebt_31 : decode cX7_newDebt 31 = .ok (.aload_n 3, 1) := by decide +kernel
theorem dX7_newDebt_32 : decode cX7_newDebt 32 = .ok (.iconst 5, 1) := by decide +kernel
theorem dX7_newDebt_33 : decode cX7_newDebt 33 = .ok (.iconst 5, 1) := by decide +kernel
theorem dX7_newDebt_34 : decode cX7_newDebt 34 = .ok (.iastore, 1) := by decide +kernel
theorem dX7_newDebt_35 : decode cX7_newDebt 35 = .ok (.aload_n 3, 1) := by decide +kernel
theorem dX7_newDebt_36 : decode cX7_newDebt 36 = .ok (.bipush 6, 2) := by decide +kernel
theorem dX7_newDebt_38 : decode cX7_newDebt 38 = .ok (.iconst 0, 1) := by decide +kernel
theorem dX7_newDebt_39 : decode cX7_newDebt 39 = .ok (.iastore, 1) := by decide +kernel
theorem dX7_newDebt_40 : decode cX7_newDebt 40 = .ok (.aload_n 3, 1) := by decide +kernel
theorem dX7_newDebt_41 : decode cX7_newDebt 41 = .ok (.bipush 7, 2) := by decide +kernel
theorem dX7_newDebt_43 : decode cX7_newDebt 43 = .ok (.iconst 0, 1) := by decide +kernel
theorem dX7_newDebt_44 : decode cX7_newDebt 44 = .ok (.iastore, 1) := by decide +kernel
theorem dX7_newDebt_45 : decode cX7_newDebt 45 = .ok (.aload_n 3, 1) := by decide +kernel
theorem dX7_newDebt_46 : decode cX7_newDebt 46 = .ok (.bipush 8, 2) := by decide +kernel
theorem dX7_newDebt_48 : decode cX7_newDebt 48 = .ok (.iconst 0, 1) := by decide +kernel
theorem dX7_newDebt_49 : decode cX7_newDebt 49 = .ok (.iastore, 1) := by decide +kernel
theorem dX7_newDebt_50 : decode cX7_newDebt 50 = .ok (.return_, 1) := by decide +kernel
theorem dX7_joins_0 : decode cX7_joins 0 = .ok (.iconst (-1), 1) := by decide +kernel
theorem dX7_joins_1 : decode cX7_joins 1 = .ok (.istore_n 2, 1) := by decide +kernel
theorem dX7_joins_2 : decode cX7_joins 2 = .ok (.aload_n 0, 1) := by decide +kernel
theorem dX7_joins_3 : decode cX7_joins 3 = .ok (.invokevirtual 296, 3) := by decide +kernel
theorem dX7_joins_6 : decode cX7_joins 6 = .ok (.istore_n 3, 1) := by decide +kernel
theorem dX7_joins_7 : decode cX7_joins 7 = .ok (.iconst 0, 1) := by decide +kernel
theorem dX7_joins_8 : decode cX7_joins 8 = .ok (.istore 4, 2) := by decide +kernel
theorem dX7_joins_10 : decode cX7_joins 10 = .ok (.iload 4, 2) := by decide +kernel
theorem dX7_joins_12 : decode cX7_joins 12 = .ok (.aload_n 0, 1) := by decide +kernel
theorem dX7_joins_13 : decode cX7_joins 13 = .ok (.getfield 80, 3) := by decide +kernel
theorem dX7_joins_16 : decode cX7_joins 16 = .ok (.if_icmp .ge 40, 3) := by decide +kernel
theorem dX7_joins_19 : decode cX7_joins 19 = .ok (.aload_n 0, 1) := by decide +kernel
theorem dX7_joins_20 : decode cX7_joins 20 = .ok (.iload 4, 2) := by decide +kernel
theorem dX7_joins_22 : decode cX7_joins 22 = .ok (.invokevirtual 87, 3) := by decide +kernel
theorem dX7_joins_25 : decode cX7_joins 25 = .ok (.ifCond .eq 25, 3) := by decide +kernel
theorem dX7_joins_28 : decode cX7_joins 28 = .ok (.iload_n 2, 1) := by decide +kernel
theorem dX7_joins_29 : decode cX7_joins 29 = .ok (.iconst (-1), 1) := by decide +kernel
theorem dX7_joins_30 : decode cX7_joins 30 = .ok (.if_icmp .ne 8, 3) := by decide +kernel
theorem dX7_joins_33 : decode cX7_joins 33 = .ok (.iload 4, 2) := by decide +kernel
theorem dX7_joins_35 : decode cX7_joins 35 = .ok (.goto 4, 3) := by decide +kernel
theorem dX7_joins_38 : decode cX7_joins 38 = .ok (.iload_n 2, 1) := by decide +kernel
theorem dX7_joins_39 : decode cX7_joins 39 = .ok (.istore_n 2, 1) := by decide +kernel
theorem dX7_joins_40 : decode cX7_joins 40 = .ok (.aload_n 0, 1) := by decide +kernel
theorem dX7_joins_41 : decode cX7_joins 41 = .ok (.getfield 42, 3) := by decide +kernel
theorem dX7_joins_44 : decode cX7_joins 44 = .ok (.iload 4, 2) := by decide +kernel
theorem dX7_joins_46 : decode cX7_joins 46 = .ok (.aaload, 1) := by decide +kernel
theorem dX7_joins_47 : decode cX7_joins 47 = .ok (.iconst 1, 1) := by decide +kernel
theorem dX7_joins_48 : decode cX7_joins 48 = .ok (.iconst 0, 1) := by decide +kernel
theorem dX7_joins_49 : decode cX7_joins 49 = .ok (.iastore, 1) := by decide +kernel
theorem dX7_joins_50 : decode cX7_joins 50 = .ok (.iinc 4 1, 3) := by decide +kernel
theorem dX7_joins_53 : decode cX7_joins 53 = .ok (.goto (-43), 3) := by decide +kernel
theorem dX7_joins_56 : decode cX7_joins 56 = .ok (.iload_n 2, 1) := by decide +kernel
theorem dX7_joins_57 : decode cX7_joins 57 = .ok (.iconst (-1), 1) := by decide +kernel
theorem dX7_joins_58 : decode cX7_joins 58 = .ok (.if_icmp .eq 48, 3) := by decide +kernel
theorem dX7_joins_61 : decode cX7_joins 61 = .ok (.aload_n 0, 1) := by decide +kernel
theorem dX7_joins_62 : decode cX7_joins 62 = .ok (.getfield 80, 3) := by decide +kernel
theorem dX7_joins_65 : decode cX7_joins 65 = .ok (.istore 4, 2) := by decide +kernel
theorem dX7_joins_67 : decode cX7_joins 67 = .ok (.aload_n 0, 1) := by decide +kernel
theorem dX7_joins_68 : decode cX7_joins 68 = .ok (.iload_n 2, 1) := by decide +kernel
theorem dX7_joins_69 : decode cX7_joins 69 = .ok (.putfield 80, 3) := by decide +kernel
theorem dX7_joins_72 : decode cX7_joins 72 = .ok (.aload_n 0, 1) := by decide +kernel
theorem dX7_joins_73 : decode cX7_joins 73 = .ok (.iconst 1, 1) := by decide +kernel
theorem dX7_joins_74 : decode cX7_joins 74 = .ok (.iload_n 3, 1) := by decide +kernel
theorem dX7_joins_75 : decode cX7_joins 75 = .ok (.sipush 9999, 3) := by decide +kernel
theorem dX7_joins_78 : decode cX7_joins 78 = .ok (.if_icmp .le 9, 3) := by decide +kernel
theorem dX7_joins_81 : decode cX7_joins 81 = .ok (.sipush 9999, 3) := by decide +kernel
theorem dX7_joins_84 : decode cX7_joins 84 = .ok (.goto 4, 3) := by decide +kernel
theorem dX7_joins_87 : decode cX7_joins 87 = .ok (.iload_n 3, 1) := by decide +kernel
theorem dX7_joins_88 : decode cX7_joins 88 = .ok (.invokevirtual 135, 3) := by decide +kernel
theorem dX7_joins_91 : decode cX7_joins 91 = .ok (.aload_n 0, 1) := by decide +kernel
theorem dX7_joins_92 : decode cX7_joins 92 = .ok (.iload 4, 2) := by decide +kernel
theorem dX7_joins_94 : decode cX7_joins 94 = .ok (.putfield 80, 3) := by decide +kernel
theorem dX7_joins_97 : decode cX7_joins 97 = .ok (.aload_n 0, 1) := by decide +kernel
theorem dX7_joins_98 : decode cX7_joins 98 = .ok (.getfield 42, 3) := by decide +kernel
theorem dX7_joins_101 : decode cX7_joins 101 = .ok (.iload_n 2, 1) := by decide +kernel
theorem dX7_joins_102 : decode cX7_joins 102 = .ok (.aaload, 1) := by decide +kernel
theorem dX7_joins_103 : decode cX7_joins 103 = .ok (.iconst 2, 1) := by decide +kernel
theorem dX7_joins_104 : decode cX7_joins 104 = .ok (.iload_n 1, 1) := by decide +kernel
theorem dX7_joins_105 : decode cX7_joins 105 = .ok (.iastore, 1) := by decide +kernel
theorem dX7_joins_106 : decode cX7_joins 106 = .ok (.iload_n 2, 1) := by decide +kernel
theorem dX7_joins_107 : decode cX7_joins 107 = .ok (.ireturn, 1) := by decide +kernel
theorem dX7_all_0 : decode cX7_all 0 = .ok (.iload_n 1, 1) := by decide +kernel
theorem dX7_all_1 : decode cX7_all 1 = .ok (.i2l, 1) := by decide +kernel
theorem dX7_all_2 : decode cX7_all 2 = .ok (.lconst 0, 1) := by decide +kernel
theorem dX7_all_3 : decode cX7_all 3 = .ok (.ldc2_w 124, 3) := by decide +kernel
theorem dX7_all_6 : decode cX7_all 6 = .ok (.invokestatic 83, 3) := by decide +kernel
theorem dX7_all_9 : decode cX7_all 9 = .ok (.ifCond .ne 10, 3) := by decide +kernel
theorem dX7_all_12 : decode cX7_all 12 = .ok (.aload_n 0, 1) := by decide +kernel
theorem dX7_all_13 : decode cX7_all 13 = .ok (.bipush (-2), 2) := by decide +kernel
theorem dX7_all_15 : decode cX7_all 15 = .ok (.invokevirtual 97, 3) := by decide +kernel
theorem dX7_all_18 : decode cX7_all 18 = .ok (.ireturn, 1) := by decide +kernel
theorem dX7_all_19 : decode cX7_all 19 = .ok (.aload_n 0, 1) := by decide +kernel
theorem dX7_all_20 : decode cX7_all 20 = .ok (.invokevirtual 113, 3) := by decide +kernel
theorem dX7_all_23 : decode cX7_all 23 = .ok (.ifCond .ne 12, 3) := by decide +kernel
theorem dX7_all_26 : decode cX7_all 26 = .ok (.aload_n 0, 1) := by decide +kernel
theorem dX7_all_27 : decode cX7_all 27 = .ok (.bipush (-5), 2) := by decide +kernel
theorem dX7_all_29 : decode cX7_all 29 = .ok (.invokevirtual 97, 3) := by decide +kernel
theorem dX7_all_32 : decode cX7_all 32 = .ok (.goto 8, 3) := by decide +kernel
theorem dX7_all_35 : decode cX7_all 35 = .ok (.aload_n 0, 1) := by decide +kernel
theorem dX7_all_36 : decode cX7_all 36 = .ok (.iload_n 1, 1) := by decide +kernel
theorem dX7_all_37 : decode cX7_all 37 = .ok (.invokevirtual 336, 3) := by decide +kernel
theorem dX7_all_40 : decode cX7_all 40 = .ok (.ireturn, 1) := by decide +kernel
theorem dX7_isDebt_0 : decode cX7_isDebt 0 = .ok (.iload_n 1, 1) := by decide +kernel
theorem dX7_isDebt_1 : decode cX7_isDebt 1 = .ok (.i2l, 1) := by decide +kernel
theorem dX7_isDebt_2 : decode cX7_isDebt 2 = .ok (.lconst 0, 1) := by decide +kernel
theorem dX7_isDebt_3 : decode cX7_isDebt 3 = .ok (.aload_n 0, 1) := by decide +kernel
theorem dX7_isDebt_4 : decode cX7_isDebt 4 = .ok (.getfield 80, 3) := by decide +kernel
theorem dX7_isDebt_7 : decode cX7_isDebt 7 = .ok (.iconst 1, 1) := by decide +kernel
theorem dX7_isDebt_8 : decode cX7_isDebt 8 = .ok (.isub, 1) := by decide +kernel
theorem dX7_isDebt_9 : decode cX7_isDebt 9 = .ok (.i2l, 1) := by decide +kernel
theorem dX7_isDebt_10 : decode cX7_isDebt 10 = .ok (.invokestatic 83, 3) := by decide +kernel
theorem dX7_isDebt_13 : decode cX7_isDebt 13 = .ok (.ireturn, 1) := by decide +kernel
theorem dX7_mayBe_0 : decode cX7_mayBe 0 = .ok (.iload_n 0, 1) := by decide +kernel
theorem dX7_mayBe_1 : decode cX7_mayBe 1 = .ok (.tableswitch 57 0 2 #[27, 37, 47], 27) := by decide +kernel
theorem dX7_mayBe_28 : decode cX7_mayBe 28 = .ok (.iload_n 1, 1) := by decide +kernel
theorem dX7_mayBe_29 : decode cX7_mayBe 29 = .ok (.i2l, 1) := by decide +kernel
theorem dX7_mayBe_30 : decode cX7_mayBe 30 = .ok (.lconst 0, 1) := by decide +kernel
theorem dX7_mayBe_31 : decode cX7_mayBe 31 = .ok (.ldc2_w 124, 3) := by decide +kernel
theorem dX7_mayBe_34 : decode cX7_mayBe 34 = .ok (.invokestatic 83, 3) := by decide +kernel
theorem dX7_mayBe_37 : decode cX7_mayBe 37 = .ok (.ireturn, 1) := by decide +kernel
theorem dX7_mayBe_38 : decode cX7_mayBe 38 = .ok (.iload_n 1, 1) := by decide +kernel
theorem dX7_mayBe_39 : decode cX7_mayBe 39 = .ok (.i2l, 1) := by decide +kernel
theorem dX7_mayBe_40 : decode cX7_mayBe 40 = .ok (.lconst 1, 1) := by decide +kernel
theorem dX7_mayBe_41 : decode cX7_mayBe 41 = .ok (.ldc2_w 126, 3) := by decide +kernel
theorem dX7_mayBe_44 : decode cX7_mayBe 44 = .ok (.invokestatic 83, 3) := by decide +kernel
theorem dX7_mayBe_47 : decode cX7_mayBe 47 = .ok (.ireturn, 1) := by decide +kernel
theorem dX7_mayBe_48 : decode cX7_mayBe 48 = .ok (.iload_n 1, 1) := by decide +kernel
theorem dX7_mayBe_49 : decode cX7_mayBe 49 = .ok (.i2l, 1) := by decide +kernel
theorem dX7_mayBe_50 : decode cX7_mayBe 50 = .ok (.lconst 0, 1) := by decide +kernel
theorem dX7_mayBe_51 : decode cX7_mayBe 51 = .ok (.ldc2_w 107, 3) := by decide +kernel
theorem dX7_mayBe_54 : decode cX7_mayBe 54 = .ok (.invokestatic 83, 3) := by decide +kernel
theorem dX7_mayBe_57 : decode cX7_mayBe 57 = .ok (.ireturn, 1) := by decide +kernel
theorem dX7_mayBe_58 : decode cX7_mayBe 58 = .ok (.iload_n 1, 1) := by decide +kernel
theorem dX7_mayBe_59 : decode cX7_mayBe 59 = .ok (.i2l, 1) := by decide +kernel
theorem dX7_mayBe_60 : decode cX7_mayBe 60 = .ok (.lconst 1, 1) := by decide +kernel
theorem dX7_mayBe_61 : decode cX7_mayBe 61 = .ok (.ldc2_w 107, 3) := by decide +kernel
theorem dX7_mayBe_64 : decode cX7_mayBe 64 = .ok (.invokestatic 83, 3) := by decide +kernel
theorem dX7_mayBe_67 : decode cX7_mayBe 67 = .ok (.ireturn, 1) := by decide +kernel
theorem dX7_alter_0 : decode cX7_alter 0 = .ok (.aload_n 0, 1) := by decide +kernel
theorem dX7_alter_1 : decode cX7_alter 1 = .ok (.iload_n 1, 1) := by decide +kernel
theorem dX7_alter_2 : decode cX7_alter 2 = .ok (.invokevirtual 139, 3) := by decide +kernel
theorem dX7_alter_5 : decode cX7_alter 5 = .ok (.ifCond .eq 23, 3) := by decide +kernel
theorem dX7_alter_8 : decode cX7_alter 8 = .ok (.iload_n 2, 1) := by decide +kernel
theorem dX7_alter_9 : decode cX7_alter 9 = .ok (.i2l, 1) := by decide +kernel
theorem dX7_alter_10 : decode cX7_alter 10 = .ok (.lconst 0, 1) := by decide +kernel
theorem dX7_alter_11 : decode cX7_alter 11 = .ok (.ldc2_w 144, 3) := by decide +kernel
theorem dX7_alter_14 : decode cX7_alter 14 = .ok (.invokestatic 83, 3) := by decide +kernel
theorem dX7_alter_17 : decode cX7_alter 17 = .ok (.ifCond .eq 11, 3) := by decide +kernel
theorem dX7_alter_20 : decode cX7_alter 20 = .ok (.iload_n 2, 1) := by decide +kernel
theorem dX7_alter_21 : decode cX7_alter 21 = .ok (.iload_n 3, 1) := by decide +kernel
theorem dX7_alter_22 : decode cX7_alter 22 = .ok (.invokestatic 132, 3) := by decide +kernel
theorem dX7_alter_25 : decode cX7_alter 25 = .ok (.ifCond .ne 10, 3) := by decide +kernel
theorem dX7_alter_28 : decode cX7_alter 28 = .ok (.aload_n 0, 1) := by decide +kernel
theorem dX7_alter_29 : decode cX7_alter 29 = .ok (.bipush (-2), 2) := by decide +kernel
theorem dX7_alter_31 : decode cX7_alter 31 = .ok (.invokevirtual 97, 3) := by decide +kernel
theorem dX7_alter_34 : decode cX7_alter 34 = .ok (.ireturn, 1) := by decide +kernel
theorem dX7_alter_35 : decode cX7_alter 35 = .ok (.aload_n 0, 1) := by decide +kernel
theorem dX7_alter_36 : decode cX7_alter 36 = .ok (.getfield 42, 3) := by decide +kernel
theorem dX7_alter_39 : decode cX7_alter 39 = .ok (.iload_n 1, 1) := by decide +kernel
theorem dX7_alter_40 : decode cX7_alter 40 = .ok (.aaload, 1) := by decide +kernel
theorem dX7_alter_41 : decode cX7_alter 41 = .ok (.iconst 2, 1) := by decide +kernel
theorem dX7_alter_42 : decode cX7_alter 42 = .ok (.iload_n 2, 1) := by decide +kernel
theorem dX7_alter_43 : decode cX7_alter 43 = .ok (.iadd, 1) := by decide +kernel
theorem dX7_alter_44 : decode cX7_alter 44 = .ok (.iaload, 1) := by decide +kernel
theorem dX7_alter_45 : decode cX7_alter 45 = .ok (.istore 4, 2) := by decide +kernel
theorem dX7_alter_47 : decode cX7_alter 47 = .ok (.aload_n 0, 1) := by decide +kernel
theorem dX7_alter_48 : decode cX7_alter 48 = .ok (.getfield 42, 3) := by decide +kernel
theorem dX7_alter_51 : decode cX7_alter 51 = .ok (.iload_n 1, 1) := by decide +kernel
theorem dX7_alter_52 : decode cX7_alter 52 = .ok (.aaload, 1) := by decide +kernel
theorem dX7_alter_53 : decode cX7_alter 53 = .ok (.iconst 2, 1) := by decide +kernel
theorem dX7_alter_54 : decode cX7_alter 54 = .ok (.iload_n 2, 1) := by decide +kernel
theorem dX7_alter_55 : decode cX7_alter 55 = .ok (.iadd, 1) := by decide +kernel
theorem dX7_alter_56 : decode cX7_alter 56 = .ok (.iload_n 3, 1) := by decide +kernel
theorem dX7_alter_57 : decode cX7_alter 57 = .ok (.iastore, 1) := by decide +kernel
theorem dX7_alter_58 : decode cX7_alter 58 = .ok (.iload 4, 2) := by decide +kernel
theorem dX7_alter_60 : decode cX7_alter 60 = .ok (.ireturn, 1) := by decide +kernel
theorem dX7_ask_0 : decode cX7_ask 0 = .ok (.iload_n 1, 1) := by decide +kernel
theorem dX7_ask_1 : decode cX7_ask 1 = .ok (.i2l, 1) := by decide +kernel
theorem dX7_ask_2 : decode cX7_ask 2 = .ok (.lconst 0, 1) := by decide +kernel
theorem dX7_ask_3 : decode cX7_ask 3 = .ok (.ldc2_w 148, 3) := by decide +kernel
theorem dX7_ask_6 : decode cX7_ask 6 = .ok (.invokestatic 83, 3) := by decide +kernel
theorem dX7_ask_9 : decode cX7_ask 9 = .ok (.ifCond .eq 45, 3) := by decide +kernel
theorem dX7_ask_12 : decode cX7_ask 12 = .ok (.iload_n 2, 1) := by decide +kernel
theorem dX7_ask_13 : decode cX7_ask 13 = .ok (.i2l, 1) := by decide +kernel
theorem dX7_ask_14 : decode cX7_ask 14 = .ok (.iload_n 1, 1) := by decide +kernel
theorem dX7_ask_15 : decode cX7_ask 15 = .ok (.iconst 1, 1) := by decide +kernel
theorem dX7_ask_16 : decode cX7_ask 16 = .ok (.if_icmp .ne 7, 3) := by decide +kernel
theorem dX7_ask_19 : decode cX7_ask 19 = .ok (.lconst 1, 1) := by decide +kernel
theorem dX7_ask_20 : decode cX7_ask 20 = .ok (.goto 4, 3) := by decide +kernel
theorem dX7_ask_23 : decode cX7_ask 23 = .ok (.lconst 0, 1) := by decide +kernel
theorem dX7_ask_24 : decode cX7_ask 24 = .ok (.iload_n 1, 1) := by decide +kernel
theorem dX7_ask_25 : decode cX7_ask 25 = .ok (.ifCond .ne 9, 3) := by decide +kernel
theorem dX7_ask_28 : decode cX7_ask 28 = .ok (.ldc2_w 150, 3) := by decide +kernel
theorem dX7_ask_31 : decode cX7_ask 31 = .ok (.goto 17, 3) := by decide +kernel
theorem dX7_ask_34 : decode cX7_ask 34 = .ok (.iload_n 1, 1) := by decide +kernel
theorem dX7_ask_35 : decode cX7_ask 35 = .ok (.iconst 1, 1) := by decide +kernel
theorem dX7_ask_36 : decode cX7_ask 36 = .ok (.if_icmp .ne 9, 3) := by decide +kernel
theorem dX7_ask_39 : decode cX7_ask 39 = .ok (.ldc2_w 124, 3) := by decide +kernel
theorem dX7_ask_42 : decode cX7_ask 42 = .ok (.goto 6, 3) := by decide +kernel
theorem dX7_ask_45 : decode cX7_ask 45 = .ok (.ldc2_w 152, 3) := by decide +kernel
theorem dX7_ask_48 : decode cX7_ask 48 = .ok (.invokestatic 83, 3) := by decide +kernel
theorem dX7_ask_51 : decode cX7_ask 51 = .ok (.ifCond .ne 10, 3) := by decide +kernel
theorem dX7_ask_54 : decode cX7_ask 54 = .ok (.aload_n 0, 1) := by decide +kernel
theorem dX7_ask_55 : decode cX7_ask 55 = .ok (.bipush (-2), 2) := by decide +kernel
theorem dX7_ask_57 : decode cX7_ask 57 = .ok (.invokevirtual 97, 3) := by decide +kernel
theorem dX7_ask_60 : decode cX7_ask 60 = .ok (.ireturn, 1) := by decide +kernel
theorem dX7_ask_61 : decode cX7_ask 61 = .ok (.iload_n 1, 1) := by decide +kernel
theorem dX7_ask_62 : decode cX7_ask 62 = .ok (.ifCond .ne 10, 3) := by decide +kernel
theorem dX7_ask_65 : decode cX7_ask 65 = .ok (.aload_n 0, 1) := by decide +kernel
theorem dX7_ask_66 : decode cX7_ask 66 = .ok (.getfield 154, 3) := by decide +kernel
theorem dX7_ask_69 : decode cX7_ask 69 = .ok (.goto 19, 3) := by decide +kernel
theorem dX7_ask_72 : decode cX7_ask 72 = .ok (.iload_n 1, 1) := by decide +kernel
theorem dX7_ask_73 : decode cX7_ask 73 = .ok (.iconst 1, 1) := by decide +kernel
theorem dX7_ask_74 : decode cX7_ask 74 = .ok (.if_icmp .ne 10, 3) := by decide +kernel
theorem dX7_ask_77 : decode cX7_ask 77 = .ok (.aload_n 0, 1) := by decide +kernel
theorem dX7_ask_78 : decode cX7_ask 78 = .ok (.getfield 48, 3) := by decide +kernel
theorem dX7_ask_81 : decode cX7_ask 81 = .ok (.goto 7, 3) := by decide +kernel
theorem dX7_ask_84 : decode cX7_ask 84 = .ok (.aload_n 0, 1) := by decide +kernel
theorem dX7_ask_85 : decode cX7_ask 85 = .ok (.getfield 52, 3) := by decide +kernel
theorem dX7_ask_88 : decode cX7_ask 88 = .ok (.istore_n 3, 1) := by decide +kernel
theorem dX7_ask_89 : decode cX7_ask 89 = .ok (.iload_n 1, 1) := by decide +kernel
theorem dX7_ask_90 : decode cX7_ask 90 = .ok (.ifCond .ne 11, 3) := by decide +kernel
theorem dX7_ask_93 : decode cX7_ask 93 = .ok (.aload_n 0, 1) := by decide +kernel
theorem dX7_ask_94 : decode cX7_ask 94 = .ok (.iload_n 2, 1) := by decide +kernel
theorem dX7_ask_95 : decode cX7_ask 95 = .ok (.putfield 154, 3) := by decide +kernel
theorem dX7_ask_98 : decode cX7_ask 98 = .ok (.goto 21, 3) := by decide +kernel
theorem dX7_ask_101 : decode cX7_ask 101 = .ok (.iload_n 1, 1) := by decide +kernel
theorem dX7_ask_102 : decode cX7_ask 102 = .ok (.iconst 1, 1) := by decide +kernel
theorem dX7_ask_103 : decode cX7_ask 103 = .ok (.if_icmp .ne 11, 3) := by decide +kernel
theorem dX7_ask_106 : decode cX7_ask 106 = .ok (.aload_n 0, 1) := by decide +kernel
theorem dX7_ask_107 : decode cX7_ask 107 = .ok (.iload_n 2, 1) := by decide +kernel
theorem dX7_ask_108 : decode cX7_ask 108 = .ok (.putfield 48, 3) := by decide +kernel
theorem dX7_ask_111 : decode cX7_ask 111 = .ok (.goto 8, 3) := by decide +kernel
theorem dX7_ask_114 : decode cX7_ask 114 = .ok (.aload_n 0, 1) := by decide +kernel
theorem dX7_ask_115 : decode cX7_ask 115 = .ok (.iload_n 2, 1) := by decide +kernel
theorem dX7_ask_116 : decode cX7_ask 116 = .ok (.putfield 52, 3) := by decide +kernel
theorem dX7_ask_119 : decode cX7_ask 119 = .ok (.iload_n 3, 1) := by decide +kernel
theorem dX7_ask_120 : decode cX7_ask 120 = .ok (.ireturn, 1) := by decide +kernel
theorem dX7_over_0 : decode cX7_over 0 = .ok (.iconst 0, 1) := by decide +kernel
theorem dX7_over_1 : decode cX7_over 1 = .ok (.istore_n 2, 1) := by decide +kernel
theorem dX7_over_2 : decode cX7_over 2 = .ok (.iload_n 2, 1) := by decide +kernel
theorem dX7_over_3 : decode cX7_over 3 = .ok (.aload_n 0, 1) := by decide +kernel
theorem dX7_over_4 : decode cX7_over 4 = .ok (.arraylength, 1) := by decide +kernel
theorem dX7_over_5 : decode cX7_over 5 = .ok (.if_icmp .ge 15, 3) := by decide +kernel
theorem dX7_over_8 : decode cX7_over 8 = .ok (.aload_n 1, 1) := by decide +kernel
theorem dX7_over_9 : decode cX7_over 9 = .ok (.iload_n 2, 1) := by decide +kernel
theorem dX7_over_10 : decode cX7_over 10 = .ok (.aload_n 0, 1) := by decide +kernel
theorem dX7_over_11 : decode cX7_over 11 = .ok (.iload_n 2, 1) := by decide +kernel
theorem dX7_over_12 : decode cX7_over 12 = .ok (.iaload, 1) := by decide +kernel
theorem dX7_over_13 : decode cX7_over 13 = .ok (.iastore, 1) := by decide +kernel
theorem dX7_over_14 : decode cX7_over 14 = .ok (.iinc 2 1, 3) := by decide +kernel
theorem dX7_over_17 : decode cX7_over 17 = .ok (.goto (-15), 3) := by decide +kernel
theorem dX7_over_20 : decode cX7_over 20 = .ok (.return_, 1) := by decide +kernel
theorem dX7_takeFrom_0 : decode cX7_takeFrom 0 = .ok (.aload_n 0, 1) := by decide +kernel
theorem dX7_takeFrom_1 : decode cX7_takeFrom 1 = .ok (.aload_n 1, 1) := by decide +kernel
theorem dX7_takeFrom_2 : decode cX7_takeFrom 2 = .ok (.getfield 80, 3) := by decide +kernel
theorem dX7_takeFrom_5 : decode cX7_takeFrom 5 = .ok (.putfield 80, 3) := by decide +kernel
theorem dX7_takeFrom_8 : decode cX7_takeFrom 8 = .ok (.iconst 0, 1) := by decide +kernel
theorem dX7_takeFrom_9 : decode cX7_takeFrom 9 = .ok (.istore_n 2, 1) := by decide +kernel
theorem dX7_takeFrom_10 : decode cX7_takeFrom 10 = .ok (.iload_n 2, 1) := by decide +kernel
theorem dX7_takeFrom_11 : decode cX7_takeFrom 11 = .ok (.bipush 9, 2) := by decide +kernel
theorem dX7_takeFrom_13 : decode cX7_takeFrom 13 = .ok (.if_icmp .ge 24, 3) := by decide +kernel
theorem dX7_takeFrom_16 : decode cX7_takeFrom 16 = .ok (.aload_n 1, 1) := by decide +kernel
theorem dX7_takeFrom_17 : decode cX7_takeFrom 17 = .ok (.getfield 42, 3) := by decide +kernel
theorem dX7_takeFrom_20 : decode cX7_takeFrom 20 = .ok (.iload_n 2, 1) := by decide +kernel
theorem dX7_takeFrom_21 : decode cX7_takeFrom 21 = .ok (.aaload, 1) := by decide +kernel
theorem dX7_takeFrom_22 : decode cX7_takeFrom 22 = .ok (.aload_n 0, 1) := by decide +kernel
theorem dX7_takeFrom_23 : decode cX7_takeFrom 23 = .ok (.getfield 42, 3) := by decide +kernel
theorem dX7_takeFrom_26 : decode cX7_takeFrom 26 = .ok (.iload_n 2, 1) := by decide +kernel
theorem dX7_takeFrom_27 : decode cX7_takeFrom 27 = .ok (.aaload, 1) := by decide +kernel
theorem dX7_takeFrom_28 : decode cX7_takeFrom 28 = .ok (.invokestatic 237, 3) := by decide +kernel
theorem dX7_takeFrom_31 : decode cX7_takeFrom 31 = .ok (.iinc 2 1, 3) := by decide +kernel
theorem dX7_takeFrom_34 : decode cX7_takeFrom 34 = .ok (.goto (-24), 3) := by decide +kernel
theorem dX7_takeFrom_37 : decode cX7_takeFrom 37 = .ok (.aload_n 1, 1) := by decide +kernel
theorem dX7_takeFrom_38 : decode cX7_takeFrom 38 = .ok (.getfield 45, 3) := by decide +kernel
theorem dX7_takeFrom_41 : decode cX7_takeFrom 41 = .ok (.aload_n 0, 1) := by decide +kernel
theorem dX7_takeFrom_42 : decode cX7_takeFrom 42 = .ok (.getfield 45, 3) := by decide +kernel
theorem dX7_takeFrom_45 : decode cX7_takeFrom 45 = .ok (.invokestatic 237, 3) := by decide +kernel
theorem dX7_takeFrom_48 : decode cX7_takeFrom 48 = .ok (.aload_n 0, 1) := by decide +kernel
theorem dX7_takeFrom_49 : decode cX7_takeFrom 49 = .ok (.aload_n 1, 1) := by decide +kernel
theorem dX7_takeFrom_50 : decode cX7_takeFrom 50 = .ok (.getfield 244, 3) := by decide +kernel
theorem dX7_takeFrom_53 : decode cX7_takeFrom 53 = .ok (.putfield 244, 3) := by decide +kernel
theorem dX7_takeFrom_56 : decode cX7_takeFrom 56 = .ok (.aload_n 0, 1) := by decide +kernel
theorem dX7_takeFrom_57 : decode cX7_takeFrom 57 = .ok (.aload_n 1, 1) := by decide +kernel
theorem dX7_takeFrom_58 : decode cX7_takeFrom 58 = .ok (.getfield 154, 3) := by decide +kernel
theorem dX7_takeFrom_61 : decode cX7_takeFrom 61 = .ok (.putfield 154, 3) := by decide +kernel
theorem dX7_takeFrom_64 : decode cX7_takeFrom 64 = .ok (.aload_n 0, 1) := by decide +kernel
theorem dX7_takeFrom_65 : decode cX7_takeFrom 65 = .ok (.aload_n 1, 1) := by decide +kernel
theorem dX7_takeFrom_66 : decode cX7_takeFrom 66 = .ok (.getfield 48, 3) := by decide +kernel
theorem dX7_takeFrom_69 : decode cX7_takeFrom 69 = .ok (.putfield 48, 3) := by decide +kernel
theorem dX7_takeFrom_72 : decode cX7_takeFrom 72 = .ok (.aload_n 0, 1) := by decide +kernel
theorem dX7_takeFrom_73 : decode cX7_takeFrom 73 = .ok (.aload_n 1, 1) := by decide +kernel
theorem dX7_takeFrom_74 : decode cX7_takeFrom 74 = .ok (.getfield 52, 3) := by decide +kernel
theorem dX7_takeFrom_77 : decode cX7_takeFrom 77 = .ok (.putfield 52, 3) := by decide +kernel
theorem dX7_takeFrom_80 : decode cX7_takeFrom 80 = .ok (.aload_n 0, 1) := by decide +kernel
theorem dX7_takeFrom_81 : decode cX7_takeFrom 81 = .ok (.aload_n 1, 1) := by decide +kernel
theorem dX7_takeFrom_82 : decode cX7_takeFrom 82 = .ok (.getfield 253, 3) := by decide +kernel
theorem dX7_takeFrom_85 : decode cX7_takeFrom 85 = .ok (.putfield 253, 3) := by decide +kernel
theorem dX7_takeFrom_88 : decode cX7_takeFrom 88 = .ok (.aload_n 0, 1) := by decide +kernel
theorem dX7_takeFrom_89 : decode cX7_takeFrom 89 = .ok (.aload_n 1, 1) := by decide +kernel
theorem dX7_takeFrom_90 : decode cX7_takeFrom 90 = .ok (.getfield 55, 3) := by decide +kernel
theorem dX7_takeFrom_93 : decode cX7_takeFrom 93 = .ok (.putfield 55, 3) := by decide +kernel
theorem dX7_takeFrom_96 : decode cX7_takeFrom 96 = .ok (.return_, 1) := by decide +kernel
theorem dX7_back_0 : decode cX7_back 0 = .ok (.aload_n 0, 1) := by decide +kernel
theorem dX7_back_1 : decode cX7_back 1 = .ok (.getfield 339, 3) := by decide +kernel
theorem dX7_back_4 : decode cX7_back 4 = .ok (.ifnonnull 10, 3) := by decide +kernel
theorem dX7_back_7 : decode cX7_back 7 = .ok (.aload_n 0, 1) := by decide +kernel
theorem dX7_back_8 : decode cX7_back 8 = .ok (.bipush (-5), 2) := by decide +kernel
theorem dX7_back_10 : decode cX7_back 10 = .ok (.invokevirtual 97, 3) := by decide +kernel
theorem dX7_back_13 : decode cX7_back 13 = .ok (.ireturn, 1) := by decide +kernel
theorem dX7_back_14 : decode cX7_back 14 = .ok (.aload_n 0, 1) := by decide +kernel
theorem dX7_back_15 : decode cX7_back 15 = .ok (.aload_n 0, 1) := by decide +kernel
theorem dX7_back_16 : decode cX7_back 16 = .ok (.getfield 339, 3) := by decide +kernel
theorem dX7_back_19 : decode cX7_back 19 = .ok (.invokevirtual 286, 3) := by decide +kernel
theorem dX7_back_22 : decode cX7_back 22 = .ok (.iconst 1, 1) := by decide +kernel
theorem dX7_back_23 : decode cX7_back 23 = .ok (.ireturn, 1) := by decide +kernel
theorem dX7_coin_0 : decode cX7_coin 0 = .ok (.aload_n 0, 1) := by decide +kernel
theorem dX7_coin_1 : decode cX7_coin 1 = .ok (.getfield 154, 3) := by decide +kernel
theorem dX7_coin_4 : decode cX7_coin 4 = .ok (.aload_n 0, 1) := by decide +kernel
theorem dX7_coin_5 : decode cX7_coin 5 = .ok (.getfield 45, 3) := by decide +kernel
theorem dX7_coin_8 : decode cX7_coin 8 = .ok (.aload_n 0, 1) := by decide +kernel
theorem dX7_coin_9 : decode cX7_coin 9 = .ok (.getfield 244, 3) := by decide +kernel
theorem dX7_coin_12 : decode cX7_coin 12 = .ok (.bipush 12, 2) := by decide +kernel
theorem dX7_coin_14 : decode cX7_coin 14 = .ok (.irem, 1) := by decide +kernel
theorem dX7_coin_15 : decode cX7_coin 15 = .ok (.iaload, 1) := by decide +kernel
theorem dX7_coin_16 : decode cX7_coin 16 = .ok (.iadd, 1) := by decide +kernel
theorem dX7_coin_17 : decode cX7_coin 17 = .ok (.ireturn, 1) := by decide +kernel
theorem dX7_isSmall_0 : decode cX7_isSmall 0 = .ok (.aload_n 0, 1) := by decide +kernel
theorem dX7_isSmall_1 : decode cX7_isSmall 1 = .ok (.invokevirtual 117, 3) := by decide +kernel
theorem dX7_isSmall_4 : decode cX7_isSmall 4 = .ok (.istore_n 2, 1) := by decide +kernel
theorem dX7_isSmall_5 : decode cX7_isSmall 5 = .ok (.iconst 1, 1) := by decide +kernel
theorem dX7_isSmall_6 : decode cX7_isSmall 6 = .ok (.istore_n 3, 1) := by decide +kernel
theorem dX7_isSmall_7 : decode cX7_isSmall 7 = .ok (.iload_n 3, 1) := by decide +kernel
theorem dX7_isSmall_8 : decode cX7_isSmall 8 = .ok (.iload_n 1, 1) := by decide +kernel
theorem dX7_isSmall_9 : decode cX7_isSmall 9 = .ok (.if_icmp .ge 26, 3) := by decide +kernel
theorem dX7_isSmall_12 : decode cX7_isSmall 12 = .ok (.iload_n 2, 1) := by decide +kernel
theorem dX7_isSmall_13 : decode cX7_isSmall 13 = .ok (.aload_n 0, 1) := by decide +kernel
theorem dX7_isSmall_14 : decode cX7_isSmall 14 = .ok (.getfield 45, 3) := by decide +kernel
theorem dX7_isSmall_17 : decode cX7_isSmall 17 = .ok (.aload_n 0, 1) := by decide +kernel
theorem dX7_isSmall_18 : decode cX7_isSmall 18 = .ok (.getfield 244, 3) := by decide +kernel
theorem dX7_isSmall_21 : decode cX7_isSmall 21 = .ok (.iload_n 3, 1) := by decide +kernel
theorem dX7_isSmall_22 : decode cX7_isSmall 22 = .ok (.iadd, 1) := by decide +kernel
theorem dX7_isSmall_23 : decode cX7_isSmall 23 = .ok (.bipush 12, 2) := by decide +kernel
theorem dX7_isSmall_25 : decode cX7_isSmall 25 = .ok (.irem, 1) := by decide +kernel
theorem dX7_isSmall_26 : decode cX7_isSmall 26 = .ok (.iaload, 1) := by decide +kernel
theorem dX7_isSmall_27 : decode cX7_isSmall 27 = .ok (.iadd, 1) := by decide +kernel
theorem dX7_isSmall_28 : decode cX7_isSmall 28 = .ok (.istore_n 2, 1) := by decide +kernel
theorem dX7_isSmall_29 : decode cX7_isSmall 29 = .ok (.iinc 3 1, 3) := by decide +kernel
theorem dX7_isSmall_32 : decode cX7_isSmall 32 = .ok (.goto (-25), 3) := by decide +kernel
theorem dX7_isSmall_35 : decode cX7_isSmall 35 = .ok (.aload_n 0, 1) := by decide +kernel
theorem dX7_isSmall_36 : decode cX7_isSmall 36 = .ok (.invokevirtual 113, 3) := by decide +kernel
theorem dX7_isSmall_39 : decode cX7_isSmall 39 = .ok (.iconst 3, 1) := by decide +kernel
theorem dX7_isSmall_40 : decode cX7_isSmall 40 = .ok (.if_icmp .gt 18, 3) := by decide +kernel
theorem dX7_isSmall_43 : decode cX7_isSmall 43 = .ok (.iload_n 2, 1) := by decide +kernel
theorem dX7_isSmall_44 : decode cX7_isSmall 44 = .ok (.aload_n 0, 1) := by decide +kernel
theorem dX7_isSmall_45 : decode cX7_isSmall 45 = .ok (.getfield 48, 3) := by decide +kernel
theorem dX7_isSmall_48 : decode cX7_isSmall 48 = .ok (.idiv, 1) := by decide +kernel
theorem dX7_isSmall_49 : decode cX7_isSmall 49 = .ok (.bipush 6, 2) := by decide +kernel
theorem dX7_isSmall_51 : decode cX7_isSmall 51 = .ok (.if_icmp .gt 7, 3) := by decide +kernel
theorem dX7_isSmall_54 : decode cX7_isSmall 54 = .ok (.iconst 1, 1) := by decide +kernel
theorem dX7_isSmall_55 : decode cX7_isSmall 55 = .ok (.goto 4, 3) := by decide +kernel
theorem dX7_isSmall_58 : decode cX7_isSmall 58 = .ok (.iconst 0, 1) := by decide +kernel
theorem dX7_isSmall_59 : decode cX7_isSmall 59 = .ok (.ireturn, 1) := by decide +kernel
theorem dX7_fresh_0 : decode cX7_fresh 0 = .ok (.aload_n 0, 1) := by decide +kernel
theorem dX7_fresh_1 : decode cX7_fresh 1 = .ok (.getfield 281, 3) := by decide +kernel
theorem dX7_fresh_4 : decode cX7_fresh 4 = .ok (.ifnonnull 14, 3) := by decide +kernel
theorem dX7_fresh_7 : decode cX7_fresh 7 = .ok (.aload_n 0, 1) := by decide +kernel
theorem dX7_fresh_8 : decode cX7_fresh 8 = .ok (.new 8, 3) := by decide +kernel
theorem dX7_fresh_11 : decode cX7_fresh 11 = .ok (.dup, 1) := by decide +kernel
theorem dX7_fresh_12 : decode cX7_fresh 12 = .ok (.invokespecial 285, 3) := by decide +kernel
theorem dX7_fresh_15 : decode cX7_fresh 15 = .ok (.putfield 281, 3) := by decide +kernel
theorem dX7_fresh_18 : decode cX7_fresh 18 = .ok (.aload_n 0, 1) := by decide +kernel
theorem dX7_fresh_19 : decode cX7_fresh 19 = .ok (.getfield 281, 3) := by decide +kernel
theorem dX7_fresh_22 : decode cX7_fresh 22 = .ok (.aload_n 0, 1) := by decide +kernel
theorem dX7_fresh_23 : decode cX7_fresh 23 = .ok (.invokevirtual 286, 3) := by decide +kernel
theorem dX7_fresh_26 : decode cX7_fresh 26 = .ok (.aload_n 0, 1) := by decide +kernel
theorem dX7_fresh_27 : decode cX7_fresh 27 = .ok (.getfield 281, 3) := by decide +kernel
theorem dX7_fresh_30 : decode cX7_fresh 30 = .ok (.iconst 0, 1) := by decide +kernel
theorem dX7_fresh_31 : decode cX7_fresh 31 = .ok (.putfield 253, 3) := by decide +kernel
theorem dX7_fresh_34 : decode cX7_fresh 34 = .ok (.aload_n 0, 1) := by decide +kernel
theorem dX7_fresh_35 : decode cX7_fresh 35 = .ok (.getfield 281, 3) := by decide +kernel
theorem dX7_fresh_38 : decode cX7_fresh 38 = .ok (.areturn, 1) := by decide +kernel
theorem dX7_patience_0 : decode cX7_patience 0 = .ok (.aload_n 0, 1) := by decide +kernel
theorem dX7_patience_1 : decode cX7_patience 1 = .ok (.getfield 42, 3) := by decide +kernel
theorem dX7_patience_4 : decode cX7_patience 4 = .ok (.iload_n 1, 1) := by decide +kernel
theorem dX7_patience_5 : decode cX7_patience 5 = .ok (.aaload, 1) := by decide +kernel
theorem dX7_patience_6 : decode cX7_patience 6 = .ok (.iconst 0, 1) := by decide +kernel
theorem dX7_patience_7 : decode cX7_patience 7 = .ok (.iaload, 1) := by decide +kernel
theorem dX7_patience_8 : decode cX7_patience 8 = .ok (.iconst 5, 1) := by decide +kernel
theorem dX7_patience_9 : decode cX7_patience 9 = .ok (.if_icmp .ne 16, 3) := by decide +kernel
theorem dX7_patience_12 : decode cX7_patience 12 = .ok (.iconst 2, 1) := by decide +kernel
theorem dX7_patience_13 : decode cX7_patience 13 = .ok (.aload_n 0, 1) := by decide +kernel
theorem dX7_patience_14 : decode cX7_patience 14 = .ok (.getfield 42, 3) := by decide +kernel
theorem dX7_patience_17 : decode cX7_patience 17 = .ok (.iload_n 1, 1) := by decide +kernel
theorem dX7_patience_18 : decode cX7_patience 18 = .ok (.aaload, 1) := by decide +kernel
theorem dX7_patience_19 : decode cX7_patience 19 = .ok (.iconst 3, 1) := by decide +kernel
theorem dX7_patience_20 : decode cX7_patience 20 = .ok (.iaload, 1) := by decide +kernel
theorem dX7_patience_21 : decode cX7_patience 21 = .ok (.imul, 1) := by decide +kernel
theorem dX7_patience_22 : decode cX7_patience 22 = .ok (.goto 11, 3) := by decide +kernel
theorem dX7_patience_25 : decode cX7_patience 25 = .ok (.aload_n 0, 1) := by decide +kernel
theorem dX7_patience_26 : decode cX7_patience 26 = .ok (.getfield 42, 3) := by decide +kernel
theorem dX7_patience_29 : decode cX7_patience 29 = .ok (.iload_n 1, 1) := by decide +kernel
theorem dX7_patience_30 : decode cX7_patience 30 = .ok (.aaload, 1) := by decide +kernel
theorem dX7_patience_31 : decode cX7_patience 31 = .ok (.iconst 3, 1) := by decide +kernel
theorem dX7_patience_32 : decode cX7_patience 32 = .ok (.iaload, 1) := by decide +kernel
theorem dX7_patience_33 : decode cX7_patience 33 = .ok (.ireturn, 1) := by decide +kernel
theorem dX7_draw_0 : decode cX7_draw 0 = .ok (.aload_n 0, 1) := by decide +kernel
theorem dX7_draw_1 : decode cX7_draw 1 = .ok (.aload_n 0, 1) := by decide +kernel
theorem dX7_draw_2 : decode cX7_draw 2 = .ok (.getfield 55, 3) := by decide +kernel
theorem dX7_draw_5 : decode cX7_draw 5 = .ok (.ldc 247, 2) := by decide +kernel
theorem dX7_draw_7 : decode cX7_draw 7 = .ok (.imul, 1) := by decide +kernel
theorem dX7_draw_8 : decode cX7_draw 8 = .ok (.sipush 12345, 3) := by decide +kernel
theorem dX7_draw_11 : decode cX7_draw 11 = .ok (.iadd, 1) := by decide +kernel
theorem dX7_draw_12 : decode cX7_draw 12 = .ok (.putfield 55, 3) := by decide +kernel
theorem dX7_draw_15 : decode cX7_draw 15 = .ok (.aload_n 0, 1) := by decide +kernel
theorem dX7_draw_16 : decode cX7_draw 16 = .ok (.getfield 55, 3) := by decide +kernel
theorem dX7_draw_19 : decode cX7_draw 19 = .ok (.bipush 16, 2) := by decide +kernel
theorem dX7_draw_21 : decode cX7_draw 21 = .ok (.iushr, 1) := by decide +kernel
theorem dX7_draw_22 : decode cX7_draw 22 = .ok (.iload_n 1, 1) := by decide +kernel
theorem dX7_draw_23 : decode cX7_draw 23 = .ok (.irem, 1) := by decide +kernel
theorem dX7_draw_24 : decode cX7_draw 24 = .ok (.ireturn, 1) := by decide +kernel
theorem dX7_growth_0 : decode cX7_growth 0 = .ok (.aload_n 0, 1) := by decide +kernel
theorem dX7_growth_1 : decode cX7_growth 1 = .ok (.getfield 42, 3) := by decide +kernel
theorem dX7_growth_4 : decode cX7_growth 4 = .ok (.iload_n 1, 1) := by decide +kernel
theorem dX7_growth_5 : decode cX7_growth 5 = .ok (.aaload, 1) := by decide +kernel
theorem dX7_growth_6 : decode cX7_growth 6 = .ok (.iconst 2, 1) := by decide +kernel
theorem dX7_growth_7 : decode cX7_growth 7 = .ok (.iaload, 1) := by decide +kernel
theorem dX7_growth_8 : decode cX7_growth 8 = .ok (.istore_n 3, 1) := by decide +kernel
theorem dX7_growth_9 : decode cX7_growth 9 = .ok (.aload_n 0, 1) := by decide +kernel
theorem dX7_growth_10 : decode cX7_growth 10 = .ok (.getfield 42, 3) := by decide +kernel
theorem dX7_growth_13 : decode cX7_growth 13 = .ok (.iload_n 1, 1) := by decide +kernel
theorem dX7_growth_14 : decode cX7_growth 14 = .ok (.aaload, 1) := by decide +kernel
theorem dX7_growth_15 : decode cX7_growth 15 = .ok (.iconst 1, 1) := by decide +kernel
theorem dX7_growth_16 : decode cX7_growth 16 = .ok (.iaload, 1) := by decide +kernel
theorem dX7_growth_17 : decode cX7_growth 17 = .ok (.istore 4, 2) := by decide +kernel
theorem dX7_growth_19 : decode cX7_growth 19 = .ok (.aload_n 0, 1) := by decide +kernel
theorem dX7_growth_20 : decode cX7_growth 20 = .ok (.getfield 42, 3) := by decide +kernel
theorem dX7_growth_23 : decode cX7_growth 23 = .ok (.iload_n 1, 1) := by decide +kernel
theorem dX7_growth_24 : decode cX7_growth 24 = .ok (.aaload, 1) := by decide +kernel
theorem dX7_growth_25 : decode cX7_growth 25 = .ok (.iconst 0, 1) := by decide +kernel
theorem dX7_growth_26 : decode cX7_growth 26 = .ok (.iaload, 1) := by decide +kernel
theorem dX7_growth_27 : decode cX7_growth 27 = .ok (.tableswitch 97 1 5 #[33, 41, 63, 77, 95], 33) := by decide +kernel
theorem dX7_growth_60 : decode cX7_growth 60 = .ok (.iload 4, 2) := by decide +kernel
theorem dX7_growth_62 : decode cX7_growth 62 = .ok (.iload_n 3, 1) := by decide +kernel
theorem dX7_growth_63 : decode cX7_growth 63 = .ok (.imul, 1) := by decide +kernel
theorem dX7_growth_64 : decode cX7_growth 64 = .ok (.bipush 100, 2) := by decide +kernel
theorem dX7_growth_66 : decode cX7_growth 66 = .ok (.idiv, 1) := by decide +kernel
theorem dX7_growth_67 : decode cX7_growth 67 = .ok (.ireturn, 1) := by decide +kernel
theorem dX7_growth_68 : decode cX7_growth 68 = .ok (.iload_n 3, 1) := by decide +kernel
theorem dX7_growth_69 : decode cX7_growth 69 = .ok (.ifCond .le 19, 3) := by decide +kernel
theorem dX7_growth_72 : decode cX7_growth 72 = .ok (.aload_n 0, 1) := by decide +kernel
theorem dX7_growth_73 : decode cX7_growth 73 = .ok (.getfield 244, 3) := by decide +kernel
theorem dX7_growth_76 : decode cX7_growth 76 = .ok (.iconst 1, 1) := by decide +kernel
theorem dX7_growth_77 : decode cX7_growth 77 = .ok (.iadd, 1) := by decide +kernel
theorem dX7_growth_78 : decode cX7_growth 78 = .ok (.iload_n 3, 1) := by decide +kernel
theorem dX7_growth_79 : decode cX7_growth 79 = .ok (.irem, 1) := by decide +kernel
theorem dX7_growth_80 : decode cX7_growth 80 = .ok (.ifCond .ne 8, 3) := by decide +kernel
theorem dX7_growth_83 : decode cX7_growth 83 = .ok (.iload 4, 2) := by decide +kernel
theorem dX7_growth_85 : decode cX7_growth 85 = .ok (.goto 4, 3) := by decide +kernel
theorem dX7_growth_88 : decode cX7_growth 88 = .ok (.iconst 0, 1) := by decide +kernel
theorem dX7_growth_89 : decode cX7_growth 89 = .ok (.ireturn, 1) := by decide +kernel
theorem dX7_growth_90 : decode cX7_growth 90 = .ok (.aload_n 0, 1) := by decide +kernel
theorem dX7_growth_91 : decode cX7_growth 91 = .ok (.getfield 244, 3) := by decide +kernel
theorem dX7_growth_94 : decode cX7_growth 94 = .ok (.iload_n 3, 1) := by decide +kernel
theorem dX7_growth_95 : decode cX7_growth 95 = .ok (.if_icmp .lt 7, 3) := by decide +kernel
theorem dX7_growth_98 : decode cX7_growth 98 = .ok (.iconst 5, 1) := by decide +kernel
theorem dX7_growth_99 : decode cX7_growth 99 = .ok (.goto 4, 3) := by decide +kernel
theorem dX7_growth_102 : decode cX7_growth 102 = .ok (.iconst 0, 1) := by decide +kernel
theorem dX7_growth_103 : decode cX7_growth 103 = .ok (.ireturn, 1) := by decide +kernel
theorem dX7_growth_104 : decode cX7_growth 104 = .ok (.iload_n 2, 1) := by decide +kernel
theorem dX7_growth_105 : decode cX7_growth 105 = .ok (.aload_n 0, 1) := by decide +kernel
theorem dX7_growth_106 : decode cX7_growth 106 = .ok (.getfield 42, 3) := by decide +kernel
theorem dX7_growth_109 : decode cX7_growth 109 = .ok (.iload_n 1, 1) := by decide +kernel
theorem dX7_growth_110 : decode cX7_growth 110 = .ok (.aaload, 1) := by decide +kernel
theorem dX7_growth_111 : decode cX7_growth 111 = .ok (.iconst 5, 1) := by decide +kernel
theorem dX7_growth_112 : decode cX7_growth 112 = .ok (.iaload, 1) := by decide +kernel
theorem dX7_growth_113 : decode cX7_growth 113 = .ok (.if_icmp .ge 7, 3) := by decide +kernel
theorem dX7_growth_116 : decode cX7_growth 116 = .ok (.iload_n 3, 1) := by decide +kernel
theorem dX7_growth_117 : decode cX7_growth 117 = .ok (.goto 4, 3) := by decide +kernel
theorem dX7_growth_120 : decode cX7_growth 120 = .ok (.iconst 0, 1) := by decide +kernel
theorem dX7_growth_121 : decode cX7_growth 121 = .ok (.ireturn, 1) := by decide +kernel
theorem dX7_growth_122 : decode cX7_growth 122 = .ok (.iconst 0, 1) := by decide +kernel
theorem dX7_growth_123 : decode cX7_growth 123 = .ok (.ireturn, 1) := by decide +kernel
theorem dX7_growth_124 : decode cX7_growth 124 = .ok (.iload_n 3, 1) := by decide +kernel
theorem dX7_growth_125 : decode cX7_growth 125 = .ok (.ireturn, 1) := by decide +kernel
theorem dX7_goes_0 : decode cX7_goes 0 = .ok (.iconst 0, 1) := by decide +kernel
theorem dX7_goes_1 : decode cX7_goes 1 = .ok (.istore_n 2, 1) := by decide +kernel
theorem dX7_goes_2 : decode cX7_goes 2 = .ok (.aload_n 0, 1) := by decide +kernel
theorem dX7_goes_3 : decode cX7_goes 3 = .ok (.invokevirtual 117, 3) := by decide +kernel
theorem dX7_goes_6 : decode cX7_goes 6 = .ok (.istore_n 3, 1) := by decide +kernel
theorem dX7_goes_7 : decode cX7_goes 7 = .ok (.iconst 0, 1) := by decide +kernel
theorem dX7_goes_8 : decode cX7_goes 8 = .ok (.istore 4, 2) := by decide +kernel
theorem dX7_goes_10 : decode cX7_goes 10 = .ok (.iload 4, 2) := by decide +kernel
theorem dX7_goes_12 : decode cX7_goes 12 = .ok (.aload_n 0, 1) := by decide +kernel
theorem dX7_goes_13 : decode cX7_goes 13 = .ok (.getfield 80, 3) := by decide +kernel
theorem dX7_goes_16 : decode cX7_goes 16 = .ok (.if_icmp .ge 58, 3) := by decide +kernel
theorem dX7_goes_19 : decode cX7_goes 19 = .ok (.aload_n 0, 1) := by decide +kernel
theorem dX7_goes_20 : decode cX7_goes 20 = .ok (.getfield 42, 3) := by decide +kernel
theorem dX7_goes_23 : decode cX7_goes 23 = .ok (.iload 4, 2) := by decide +kernel
theorem dX7_goes_25 : decode cX7_goes 25 = .ok (.aaload, 1) := by decide +kernel
theorem dX7_goes_26 : decode cX7_goes 26 = .ok (.iconst 1, 1) := by decide +kernel
theorem dX7_goes_27 : decode cX7_goes 27 = .ok (.dup2, 1) := by decide +kernel
theorem dX7_goes_28 : decode cX7_goes 28 = .ok (.iaload, 1) := by decide +kernel
theorem dX7_goes_29 : decode cX7_goes 29 = .ok (.aload_n 0, 1) := by decide +kernel
theorem dX7_goes_30 : decode cX7_goes 30 = .ok (.getfield 64, 3) := by decide +kernel
theorem dX7_goes_33 : decode cX7_goes 33 = .ok (.iload 4, 2) := by decide +kernel
theorem dX7_goes_35 : decode cX7_goes 35 = .ok (.iaload, 1) := by decide +kernel
theorem dX7_goes_36 : decode cX7_goes 36 = .ok (.isub, 1) := by decide +kernel
theorem dX7_goes_37 : decode cX7_goes 37 = .ok (.iastore, 1) := by decide +kernel
theorem dX7_goes_38 : decode cX7_goes 38 = .ok (.aload_n 0, 1) := by decide +kernel
theorem dX7_goes_39 : decode cX7_goes 39 = .ok (.getfield 42, 3) := by decide +kernel
theorem dX7_goes_42 : decode cX7_goes 42 = .ok (.iload 4, 2) := by decide +kernel
theorem dX7_goes_44 : decode cX7_goes 44 = .ok (.aaload, 1) := by decide +kernel
theorem dX7_goes_45 : decode cX7_goes 45 = .ok (.bipush 8, 2) := by decide +kernel
theorem dX7_goes_47 : decode cX7_goes 47 = .ok (.dup2, 1) := by decide +kernel
theorem dX7_goes_48 : decode cX7_goes 48 = .ok (.iaload, 1) := by decide +kernel
theorem dX7_goes_49 : decode cX7_goes 49 = .ok (.aload_n 0, 1) := by decide +kernel
theorem dX7_goes_50 : decode cX7_goes 50 = .ok (.getfield 64, 3) := by decide +kernel
theorem dX7_goes_53 : decode cX7_goes 53 = .ok (.iload 4, 2) := by decide +kernel
theorem dX7_goes_55 : decode cX7_goes 55 = .ok (.iaload, 1) := by decide +kernel
theorem dX7_goes_56 : decode cX7_goes 56 = .ok (.iadd, 1) := by decide +kernel
theorem dX7_goes_57 : decode cX7_goes 57 = .ok (.iastore, 1) := by decide +kernel
theorem dX7_goes_58 : decode cX7_goes 58 = .ok (.iload_n 2, 1) := by decide +kernel
theorem dX7_goes_59 : decode cX7_goes 59 = .ok (.aload_n 0, 1) := by decide +kernel
theorem dX7_goes_60 : decode cX7_goes 60 = .ok (.getfield 64, 3) := by decide +kernel
theorem dX7_goes_63 : decode cX7_goes 63 = .ok (.iload 4, 2) := by decide +kernel
theorem dX7_goes_65 : decode cX7_goes 65 = .ok (.iaload, 1) := by decide +kernel
theorem dX7_goes_66 : decode cX7_goes 66 = .ok (.iadd, 1) := by decide +kernel
theorem dX7_goes_67 : decode cX7_goes 67 = .ok (.istore_n 2, 1) := by decide +kernel
theorem dX7_goes_68 : decode cX7_goes 68 = .ok (.iinc 4 1, 3) := by decide +kernel
theorem dX7_goes_71 : decode cX7_goes 71 = .ok (.goto (-61), 3) := by decide +kernel
theorem dX7_goes_74 : decode cX7_goes 74 = .ok (.aload_n 0, 1) := by decide +kernel
theorem dX7_goes_75 : decode cX7_goes 75 = .ok (.iload_n 3, 1) := by decide +kernel
theorem dX7_goes_76 : decode cX7_goes 76 = .ok (.iload_n 2, 1) := by decide +kernel
theorem dX7_goes_77 : decode cX7_goes 77 = .ok (.isub, 1) := by decide +kernel
theorem dX7_goes_78 : decode cX7_goes 78 = .ok (.sipush 9999, 3) := by decide +kernel
theorem dX7_goes_81 : decode cX7_goes 81 = .ok (.if_icmp .le 9, 3) := by decide +kernel
theorem dX7_goes_84 : decode cX7_goes 84 = .ok (.sipush 9999, 3) := by decide +kernel
theorem dX7_goes_87 : decode cX7_goes 87 = .ok (.goto 6, 3) := by decide +kernel
theorem dX7_goes_90 : decode cX7_goes 90 = .ok (.iload_n 3, 1) := by decide +kernel
theorem dX7_goes_91 : decode cX7_goes 91 = .ok (.iload_n 2, 1) := by decide +kernel
theorem dX7_goes_92 : decode cX7_goes 92 = .ok (.isub, 1) := by decide +kernel
theorem dX7_goes_93 : decode cX7_goes 93 = .ok (.putfield 154, 3) := by decide +kernel
theorem dX7_goes_96 : decode cX7_goes 96 = .ok (.iconst 0, 1) := by decide +kernel
theorem dX7_goes_97 : decode cX7_goes 97 = .ok (.istore 4, 2) := by decide +kernel
theorem dX7_goes_99 : decode cX7_goes 99 = .ok (.iload 4, 2) := by decide +kernel
theorem dX7_goes_101 : decode cX7_goes 101 = .ok (.aload_n 0, 1) := by decide +kernel
theorem dX7_goes_102 : decode cX7_goes 102 = .ok (.getfield 80, 3) := by decide +kernel
theorem dX7_goes_105 : decode cX7_goes 105 = .ok (.if_icmp .ge 219, 3) := by decide +kernel
theorem dX7_goes_108 : decode cX7_goes 108 = .ok (.aload_n 0, 1) := by decide +kernel
theorem dX7_goes_109 : decode cX7_goes 109 = .ok (.iload 4, 2) := by decide +kernel
theorem dX7_goes_111 : decode cX7_goes 111 = .ok (.invokevirtual 87, 3) := by decide +kernel
theorem dX7_goes_114 : decode cX7_goes 114 = .ok (.ifCond .eq 204, 3) := by decide +kernel
theorem dX7_goes_117 : decode cX7_goes 117 = .ok (.aload_n 0, 1) := by decide +kernel
theorem dX7_goes_118 : decode cX7_goes 118 = .ok (.getfield 42, 3) := by decide +kernel
theorem dX7_goes_121 : decode cX7_goes 121 = .ok (.iload 4, 2) := by decide +kernel
theorem dX7_goes_123 : decode cX7_goes 123 = .ok (.aaload, 1) := by decide +kernel
theorem dX7_goes_124 : decode cX7_goes 124 = .ok (.iconst 0, 1) := by decide +kernel
theorem dX7_goes_125 : decode cX7_goes 125 = .ok (.iaload, 1) := by decide +kernel
theorem dX7_goes_126 : decode cX7_goes 126 = .ok (.iconst 3, 1) := by decide +kernel
theorem dX7_goes_127 : decode cX7_goes 127 = .ok (.if_icmp .ne 23, 3) := by decide +kernel
theorem dX7_goes_130 : decode cX7_goes 130 = .ok (.aload_n 0, 1) := by decide +kernel
theorem dX7_goes_131 : decode cX7_goes 131 = .ok (.getfield 244, 3) := by decide +kernel
theorem dX7_goes_134 : decode cX7_goes 134 = .ok (.aload_n 0, 1) := by decide +kernel
theorem dX7_goes_135 : decode cX7_goes 135 = .ok (.getfield 42, 3) := by decide +kernel
theorem dX7_goes_138 : decode cX7_goes 138 = .ok (.iload 4, 2) := by decide +kernel
theorem dX7_goes_140 : decode cX7_goes 140 = .ok (.aaload, 1) := by decide +kernel
theorem dX7_goes_141 : decode cX7_goes 141 = .ok (.iconst 2, 1) := by decide +kernel
theorem dX7_goes_142 : decode cX7_goes 142 = .ok (.iaload, 1) := by decide +kernel
theorem dX7_goes_143 : decode cX7_goes 143 = .ok (.if_icmp .ge 7, 3) := by decide +kernel
theorem dX7_goes_146 : decode cX7_goes 146 = .ok (.iconst 1, 1) := by decide +kernel
theorem dX7_goes_147 : decode cX7_goes 147 = .ok (.goto 4, 3) := by decide +kernel
theorem dX7_goes_150 : decode cX7_goes 150 = .ok (.iconst 0, 1) := by decide +kernel
theorem dX7_goes_151 : decode cX7_goes 151 = .ok (.istore 5, 2) := by decide +kernel
theorem dX7_goes_153 : decode cX7_goes 153 = .ok (.aload_n 0, 1) := by decide +kernel
theorem dX7_goes_154 : decode cX7_goes 154 = .ok (.getfield 42, 3) := by decide +kernel
theorem dX7_goes_157 : decode cX7_goes 157 = .ok (.iload 4, 2) := by decide +kernel
theorem dX7_goes_159 : decode cX7_goes 159 = .ok (.aaload, 1) := by decide +kernel
theorem dX7_goes_160 : decode cX7_goes 160 = .ok (.bipush 6, 2) := by decide +kernel
theorem dX7_goes_162 : decode cX7_goes 162 = .ok (.aload_n 0, 1) := by decide +kernel
theorem dX7_goes_163 : decode cX7_goes 163 = .ok (.getfield 64, 3) := by decide +kernel
theorem dX7_goes_166 : decode cX7_goes 166 = .ok (.iload 4, 2) := by decide +kernel
theorem dX7_goes_168 : decode cX7_goes 168 = .ok (.iaload, 1) := by decide +kernel
theorem dX7_goes_169 : decode cX7_goes 169 = .ok (.aload_n 0, 1) := by decide +kernel
theorem dX7_goes_170 : decode cX7_goes 170 = .ok (.getfield 42, 3) := by decide +kernel
theorem dX7_goes_173 : decode cX7_goes 173 = .ok (.iload 4, 2) := by decide +kernel
theorem dX7_goes_175 : decode cX7_goes 175 = .ok (.aaload, 1) := by decide +kernel
theorem dX7_goes_176 : decode cX7_goes 176 = .ok (.iconst 5, 1) := by decide +kernel
theorem dX7_goes_177 : decode cX7_goes 177 = .ok (.iaload, 1) := by decide +kernel
theorem dX7_goes_178 : decode cX7_goes 178 = .ok (.if_icmp .ge 23, 3) := by decide +kernel
theorem dX7_goes_181 : decode cX7_goes 181 = .ok (.iload 5, 2) := by decide +kernel
theorem dX7_goes_183 : decode cX7_goes 183 = .ok (.ifCond .ne 18, 3) := by decide +kernel
theorem dX7_goes_186 : decode cX7_goes 186 = .ok (.aload_n 0, 1) := by decide +kernel
theorem dX7_goes_187 : decode cX7_goes 187 = .ok (.getfield 42, 3) := by decide +kernel
theorem dX7_goes_190 : decode cX7_goes 190 = .ok (.iload 4, 2) := by decide +kernel
theorem dX7_goes_192 : decode cX7_goes 192 = .ok (.aaload, 1) := by decide +kernel
theorem dX7_goes_193 : decode cX7_goes 193 = .ok (.bipush 6, 2) := by decide +kernel
theorem dX7_goes_195 : decode cX7_goes 195 = .ok (.iaload, 1) := by decide +kernel
theorem dX7_goes_196 : decode cX7_goes 196 = .ok (.iconst 1, 1) := by decide +kernel
theorem dX7_goes_197 : decode cX7_goes 197 = .ok (.iadd, 1) := by decide +kernel
theorem dX7_goes_198 : decode cX7_goes 198 = .ok (.goto 4, 3) := by decide +kernel
theorem dX7_goes_201 : decode cX7_goes 201 = .ok (.iconst 0, 1) := by decide +kernel
theorem dX7_goes_202 : decode cX7_goes 202 = .ok (.iastore, 1) := by decide +kernel
theorem dX7_goes_203 : decode cX7_goes 203 = .ok (.aload_n 0, 1) := by decide +kernel
theorem dX7_goes_204 : decode cX7_goes 204 = .ok (.getfield 42, 3) := by decide +kernel
theorem dX7_goes_207 : decode cX7_goes 207 = .ok (.iload 4, 2) := by decide +kernel
theorem dX7_goes_209 : decode cX7_goes 209 = .ok (.aaload, 1) := by decide +kernel
theorem dX7_goes_210 : decode cX7_goes 210 = .ok (.bipush 6, 2) := by decide +kernel
theorem dX7_goes_212 : decode cX7_goes 212 = .ok (.iaload, 1) := by decide +kernel
theorem dX7_goes_213 : decode cX7_goes 213 = .ok (.aload_n 0, 1) := by decide +kernel
theorem dX7_goes_214 : decode cX7_goes 214 = .ok (.iload 4, 2) := by decide +kernel
theorem dX7_goes_216 : decode cX7_goes 216 = .ok (.invokevirtual 248, 3) := by decide +kernel
theorem dX7_goes_219 : decode cX7_goes 219 = .ok (.if_icmp .lt 49, 3) := by decide +kernel
theorem dX7_goes_222 : decode cX7_goes 222 = .ok (.iload_n 1, 1) := by decide +kernel
theorem dX7_goes_223 : decode cX7_goes 223 = .ok (.ifCond .eq 16, 3) := by decide +kernel
theorem dX7_goes_226 : decode cX7_goes 226 = .ok (.aload_n 0, 1) := by decide +kernel
theorem dX7_goes_227 : decode cX7_goes 227 = .ok (.bipush 10, 2) := by decide +kernel
theorem dX7_goes_229 : decode cX7_goes 229 = .ok (.invokevirtual 250, 3) := by decide +kernel
theorem dX7_goes_232 : decode cX7_goes 232 = .ok (.aload_n 0, 1) := by decide +kernel
theorem dX7_goes_233 : decode cX7_goes 233 = .ok (.getfield 52, 3) := by decide +kernel
theorem dX7_goes_236 : decode cX7_goes 236 = .ok (.if_icmp .ge 32, 3) := by decide +kernel
theorem dX7_goes_239 : decode cX7_goes 239 = .ok (.aload_n 0, 1) := by decide +kernel
theorem dX7_goes_240 : decode cX7_goes 240 = .ok (.dup, 1) := by decide +kernel
theorem dX7_goes_241 : decode cX7_goes 241 = .ok (.getfield 253, 3) := by decide +kernel
theorem dX7_goes_244 : decode cX7_goes 244 = .ok (.aload_n 0, 1) := by decide +kernel
theorem dX7_goes_245 : decode cX7_goes 245 = .ok (.getfield 42, 3) := by decide +kernel
theorem dX7_goes_248 : decode cX7_goes 248 = .ok (.iload 4, 2) := by decide +kernel
theorem dX7_goes_250 : decode cX7_goes 250 = .ok (.aaload, 1) := by decide +kernel
theorem dX7_goes_251 : decode cX7_goes 251 = .ok (.iconst 4, 1) := by decide +kernel
theorem dX7_goes_252 : decode cX7_goes 252 = .ok (.iaload, 1) := by decide +kernel
theorem dX7_goes_253 : decode cX7_goes 253 = .ok (.iadd, 1) := by decide +kernel
theorem dX7_goes_254 : decode cX7_goes 254 = .ok (.putfield 253, 3) := by decide +kernel
theorem dX7_goes_257 : decode cX7_goes 257 = .ok (.aload_n 0, 1) := by decide +kernel
theorem dX7_goes_258 : decode cX7_goes 258 = .ok (.getfield 42, 3) := by decide +kernel
theorem dX7_goes_261 : decode cX7_goes 261 = .ok (.iload 4, 2) := by decide +kernel
theorem dX7_goes_263 : decode cX7_goes 263 = .ok (.aaload, 1) := by decide +kernel
theorem dX7_goes_264 : decode cX7_goes 264 = .ok (.bipush 6, 2) := by decide +kernel
theorem dX7_goes_266 : decode cX7_goes 266 = .ok (.iconst 0, 1) := by decide +kernel
theorem dX7_goes_267 : decode cX7_goes 267 = .ok (.iastore, 1) := by decide +kernel
theorem dX7_goes_268 : decode cX7_goes 268 = .ok (.aload_n 0, 1) := by decide +kernel
theorem dX7_goes_269 : decode cX7_goes 269 = .ok (.getfield 42, 3) := by decide +kernel
theorem dX7_goes_272 : decode cX7_goes 272 = .ok (.iload 4, 2) := by decide +kernel
theorem dX7_goes_274 : decode cX7_goes 274 = .ok (.aaload, 1) := by decide +kernel
theorem dX7_goes_275 : decode cX7_goes 275 = .ok (.iconst 1, 1) := by decide +kernel
theorem dX7_goes_276 : decode cX7_goes 276 = .ok (.iaload, 1) := by decide +kernel
theorem dX7_goes_277 : decode cX7_goes 277 = .ok (.aload_n 0, 1) := by decide +kernel
theorem dX7_goes_278 : decode cX7_goes 278 = .ok (.iload 4, 2) := by decide +kernel
theorem dX7_goes_280 : decode cX7_goes 280 = .ok (.aload_n 0, 1) := by decide +kernel
theorem dX7_goes_281 : decode cX7_goes 281 = .ok (.getfield 64, 3) := by decide +kernel
theorem dX7_goes_284 : decode cX7_goes 284 = .ok (.iload 4, 2) := by decide +kernel
theorem dX7_goes_286 : decode cX7_goes 286 = .ok (.iaload, 1) := by decide +kernel
theorem dX7_goes_287 : decode cX7_goes 287 = .ok (.invokevirtual 256, 3) := by decide +kernel
theorem dX7_goes_290 : decode cX7_goes 290 = .ok (.iadd, 1) := by decide +kernel
theorem dX7_goes_291 : decode cX7_goes 291 = .ok (.istore 6, 2) := by decide +kernel
theorem dX7_goes_293 : decode cX7_goes 293 = .ok (.aload_n 0, 1) := by decide +kernel
theorem dX7_goes_294 : decode cX7_goes 294 = .ok (.getfield 42, 3) := by decide +kernel
theorem dX7_goes_297 : decode cX7_goes 297 = .ok (.iload 4, 2) := by decide +kernel
theorem dX7_goes_299 : decode cX7_goes 299 = .ok (.aaload, 1) := by decide +kernel
theorem dX7_goes_300 : decode cX7_goes 300 = .ok (.iconst 1, 1) := by decide +kernel
theorem dX7_goes_301 : decode cX7_goes 301 = .ok (.iload 6, 2) := by decide +kernel
theorem dX7_goes_303 : decode cX7_goes 303 = .ok (.sipush 9999, 3) := by decide +kernel
theorem dX7_goes_306 : decode cX7_goes 306 = .ok (.if_icmp .le 9, 3) := by decide +kernel
theorem dX7_goes_309 : decode cX7_goes 309 = .ok (.sipush 9999, 3) := by decide +kernel
theorem dX7_goes_312 : decode cX7_goes 312 = .ok (.goto 5, 3) := by decide +kernel
theorem dX7_goes_315 : decode cX7_goes 315 = .ok (.iload 6, 2) := by decide +kernel
theorem dX7_goes_317 : decode cX7_goes 317 = .ok (.iastore, 1) := by decide +kernel
theorem dX7_goes_318 : decode cX7_goes 318 = .ok (.iinc 4 1, 3) := by decide +kernel
theorem dX7_goes_321 : decode cX7_goes 321 = .ok (.goto (-222), 3) := by decide +kernel
theorem dX7_goes_324 : decode cX7_goes 324 = .ok (.aload_n 0, 1) := by decide +kernel
theorem dX7_goes_325 : decode cX7_goes 325 = .ok (.dup, 1) := by decide +kernel
theorem dX7_goes_326 : decode cX7_goes 326 = .ok (.getfield 244, 3) := by decide +kernel
theorem dX7_goes_329 : decode cX7_goes 329 = .ok (.iconst 1, 1) := by decide +kernel
theorem dX7_goes_330 : decode cX7_goes 330 = .ok (.iadd, 1) := by decide +kernel
theorem dX7_goes_331 : decode cX7_goes 331 = .ok (.putfield 244, 3) := by decide +kernel
theorem dX7_goes_334 : decode cX7_goes 334 = .ok (.iload_n 2, 1) := by decide +kernel
theorem dX7_goes_335 : decode cX7_goes 335 = .ok (.ireturn, 1) := by decide +kernel
theorem dX7_tryWeek_0 : decode cX7_tryWeek 0 = .ok (.aload_n 0, 1) := by decide +kernel
theorem dX7_tryWeek_1 : decode cX7_tryWeek 1 = .ok (.getfield 70, 3) := by decide +kernel
theorem dX7_tryWeek_4 : decode cX7_tryWeek 4 = .ok (.iload_n 2, 1) := by decide +kernel
theorem dX7_tryWeek_5 : decode cX7_tryWeek 5 = .ok (.aaload, 1) := by decide +kernel
theorem dX7_tryWeek_6 : decode cX7_tryWeek 6 = .ok (.ifnonnull 16, 3) := by decide +kernel
theorem dX7_tryWeek_9 : decode cX7_tryWeek 9 = .ok (.aload_n 0, 1) := by decide +kernel
theorem dX7_tryWeek_10 : decode cX7_tryWeek 10 = .ok (.getfield 70, 3) := by decide +kernel
theorem dX7_tryWeek_13 : decode cX7_tryWeek 13 = .ok (.iload_n 2, 1) := by decide +kernel
theorem dX7_tryWeek_14 : decode cX7_tryWeek 14 = .ok (.new 8, 3) := by decide +kernel
theorem dX7_tryWeek_17 : decode cX7_tryWeek 17 = .ok (.dup, 1) := by decide +kernel
theorem dX7_tryWeek_18 : decode cX7_tryWeek 18 = .ok (.invokespecial 285, 3) := by decide +kernel
theorem dX7_tryWeek_21 : decode cX7_tryWeek 21 = .ok (.aastore, 1) := by decide +kernel
theorem dX7_tryWeek_22 : decode cX7_tryWeek 22 = .ok (.aload_n 0, 1) := by decide +kernel
theorem dX7_tryWeek_23 : decode cX7_tryWeek 23 = .ok (.getfield 70, 3) := by decide +kernel
theorem dX7_tryWeek_26 : decode cX7_tryWeek 26 = .ok (.iload_n 2, 1) := by decide +kernel
theorem dX7_tryWeek_27 : decode cX7_tryWeek 27 = .ok (.aaload, 1) := by decide +kernel
theorem dX7_tryWeek_28 : decode cX7_tryWeek 28 = .ok (.astore 4, 2) := by decide +kernel
theorem dX7_tryWeek_30 : decode cX7_tryWeek 30 = .ok (.aload 4, 2) := by decide +kernel
theorem dX7_tryWeek_32 : decode cX7_tryWeek 32 = .ok (.aload_n 1, 1) := by decide +kernel
theorem dX7_tryWeek_33 : decode cX7_tryWeek 33 = .ok (.invokevirtual 286, 3) := by decide +kernel
theorem dX7_tryWeek_36 : decode cX7_tryWeek 36 = .ok (.aload_n 1, 1) := by decide +kernel
theorem dX7_tryWeek_37 : decode cX7_tryWeek 37 = .ok (.getfield 64, 3) := by decide +kernel
theorem dX7_tryWeek_40 : decode cX7_tryWeek 40 = .ok (.aload 4, 2) := by decide +kernel
theorem dX7_tryWeek_42 : decode cX7_tryWeek 42 = .ok (.getfield 64, 3) := by decide +kernel
theorem dX7_tryWeek_45 : decode cX7_tryWeek 45 = .ok (.invokestatic 237, 3) := by decide +kernel
theorem dX7_tryWeek_48 : decode cX7_tryWeek 48 = .ok (.aload 4, 2) := by decide +kernel
theorem dX7_tryWeek_50 : decode cX7_tryWeek 50 = .ok (.iconst 0, 1) := by decide +kernel
theorem dX7_tryWeek_51 : decode cX7_tryWeek 51 = .ok (.invokevirtual 271, 3) := by decide +kernel
theorem dX7_tryWeek_54 : decode cX7_tryWeek 54 = .ok (.pop, 1) := by decide +kernel
theorem dX7_tryWeek_55 : decode cX7_tryWeek 55 = .ok (.iload_n 2, 1) := by decide +kernel
theorem dX7_tryWeek_56 : decode cX7_tryWeek 56 = .ok (.iconst 1, 1) := by decide +kernel
theorem dX7_tryWeek_57 : decode cX7_tryWeek 57 = .ok (.iadd, 1) := by decide +kernel
theorem dX7_tryWeek_58 : decode cX7_tryWeek 58 = .ok (.iload_n 3, 1) := by decide +kernel
theorem dX7_tryWeek_59 : decode cX7_tryWeek 59 = .ok (.if_icmp .ge 20, 3) := by decide +kernel
theorem dX7_tryWeek_62 : decode cX7_tryWeek 62 = .ok (.aload_n 0, 1) := by decide +kernel
theorem dX7_tryWeek_63 : decode cX7_tryWeek 63 = .ok (.aload 4, 2) := by decide +kernel
theorem dX7_tryWeek_65 : decode cX7_tryWeek 65 = .ok (.iload_n 2, 1) := by decide +kernel
theorem dX7_tryWeek_66 : decode cX7_tryWeek 66 = .ok (.iconst 1, 1) := by decide +kernel
theorem dX7_tryWeek_67 : decode cX7_tryWeek 67 = .ok (.iadd, 1) := by decide +kernel
theorem dX7_tryWeek_68 : decode cX7_tryWeek 68 = .ok (.iload_n 3, 1) := by decide +kernel
theorem dX7_tryWeek_69 : decode cX7_tryWeek 69 = .ok (.iconst 0, 1) := by decide +kernel
theorem dX7_tryWeek_70 : decode cX7_tryWeek 70 = .ok (.aload 4, 2) := by decide +kernel
theorem dX7_tryWeek_72 : decode cX7_tryWeek 72 = .ok (.invokevirtual 117, 3) := by decide +kernel
theorem dX7_tryWeek_75 : decode cX7_tryWeek 75 = .ok (.invokevirtual 319, 3) := by decide +kernel
theorem dX7_tryWeek_78 : decode cX7_tryWeek 78 = .ok (.return_, 1) := by decide +kernel
theorem dX7_tryWeek_79 : decode cX7_tryWeek 79 = .ok (.aload 4, 2) := by decide +kernel
theorem dX7_tryWeek_81 : decode cX7_tryWeek 81 = .ok (.getfield 253, 3) := by decide +kernel
theorem dX7_tryWeek_84 : decode cX7_tryWeek 84 = .ok (.aload 4, 2) := by decide +kernel
theorem dX7_tryWeek_86 : decode cX7_tryWeek 86 = .ok (.invokevirtual 296, 3) := by decide +kernel
theorem dX7_tryWeek_89 : decode cX7_tryWeek 89 = .ok (.iadd, 1) := by decide +kernel
theorem dX7_tryWeek_90 : decode cX7_tryWeek 90 = .ok (.istore 5, 2) := by decide +kernel
theorem dX7_tryWeek_92 : decode cX7_tryWeek 92 = .ok (.aload_n 0, 1) := by decide +kernel
theorem dX7_tryWeek_93 : decode cX7_tryWeek 93 = .ok (.getfield 323, 3) := by decide +kernel
theorem dX7_tryWeek_96 : decode cX7_tryWeek 96 = .ok (.iconst (-1), 1) := by decide +kernel
theorem dX7_tryWeek_97 : decode cX7_tryWeek 97 = .ok (.if_icmp .eq 12, 3) := by decide +kernel
theorem dX7_tryWeek_100 : decode cX7_tryWeek 100 = .ok (.iload 5, 2) := by decide +kernel
theorem dX7_tryWeek_102 : decode cX7_tryWeek 102 = .ok (.aload_n 0, 1) := by decide +kernel
theorem dX7_tryWeek_103 : decode cX7_tryWeek 103 = .ok (.getfield 323, 3) := by decide +kernel
theorem dX7_tryWeek_106 : decode cX7_tryWeek 106 = .ok (.if_icmp .ge 20, 3) := by decide +kernel
theorem dX7_tryWeek_109 : decode cX7_tryWeek 109 = .ok (.aload_n 0, 1) := by decide +kernel
theorem dX7_tryWeek_110 : decode cX7_tryWeek 110 = .ok (.iload 5, 2) := by decide +kernel
theorem dX7_tryWeek_112 : decode cX7_tryWeek 112 = .ok (.putfield 323, 3) := by decide +kernel
theorem dX7_tryWeek_115 : decode cX7_tryWeek 115 = .ok (.aload_n 0, 1) := by decide +kernel
theorem dX7_tryWeek_116 : decode cX7_tryWeek 116 = .ok (.getfield 74, 3) := by decide +kernel
theorem dX7_tryWeek_119 : decode cX7_tryWeek 119 = .ok (.aload_n 0, 1) := by decide +kernel
theorem dX7_tryWeek_120 : decode cX7_tryWeek 120 = .ok (.getfield 77, 3) := by decide +kernel
theorem dX7_tryWeek_123 : decode cX7_tryWeek 123 = .ok (.invokestatic 237, 3) := by decide +kernel
theorem dX7_tryWeek_126 : decode cX7_tryWeek 126 = .ok (.return_, 1) := by decide +kernel
theorem dX7_tryPays_0 : decode cX7_tryPays 0 = .ok (.iload 4, 2) := by decide +kernel
theorem dX7_tryPays_2 : decode cX7_tryPays 2 = .ok (.aload_n 0, 1) := by decide +kernel
theorem dX7_tryPays_3 : decode cX7_tryPays 3 = .ok (.getfield 80, 3) := by decide +kernel
theorem dX7_tryPays_6 : decode cX7_tryPays 6 = .ok (.if_icmp .ne 26, 3) := by decide +kernel
theorem dX7_tryPays_9 : decode cX7_tryPays 9 = .ok (.iload_n 2, 1) := by decide +kernel
theorem dX7_tryPays_10 : decode cX7_tryPays 10 = .ok (.ifCond .ne 14, 3) := by decide +kernel
theorem dX7_tryPays_13 : decode cX7_tryPays 13 = .ok (.aload_n 1, 1) := by decide +kernel
theorem dX7_tryPays_14 : decode cX7_tryPays 14 = .ok (.getfield 64, 3) := by decide +kernel
theorem dX7_tryPays_17 : decode cX7_tryPays 17 = .ok (.aload_n 0, 1) := by decide +kernel
theorem dX7_tryPays_18 : decode cX7_tryPays 18 = .ok (.getfield 74, 3) := by decide +kernel
theorem dX7_tryPays_21 : decode cX7_tryPays 21 = .ok (.invokestatic 237, 3) := by decide +kernel
theorem dX7_tryPays_24 : decode cX7_tryPays 24 = .ok (.aload_n 0, 1) := by decide +kernel
theorem dX7_tryPays_25 : decode cX7_tryPays 25 = .ok (.aload_n 1, 1) := by decide +kernel
theorem dX7_tryPays_26 : decode cX7_tryPays 26 = .ok (.iload_n 2, 1) := by decide +kernel
theorem dX7_tryPays_27 : decode cX7_tryPays 27 = .ok (.iload_n 3, 1) := by decide +kernel
theorem dX7_tryPays_28 : decode cX7_tryPays 28 = .ok (.invokevirtual 315, 3) := by decide +kernel
theorem dX7_tryPays_31 : decode cX7_tryPays 31 = .ok (.return_, 1) := by decide +kernel
theorem dX7_tryPays_32 : decode cX7_tryPays 32 = .ok (.aload_n 1, 1) := by decide +kernel
theorem dX7_tryPays_33 : decode cX7_tryPays 33 = .ok (.getfield 42, 3) := by decide +kernel
theorem dX7_tryPays_36 : decode cX7_tryPays 36 = .ok (.iload 4, 2) := by decide +kernel
theorem dX7_tryPays_38 : decode cX7_tryPays 38 = .ok (.aaload, 1) := by decide +kernel
theorem dX7_tryPays_39 : decode cX7_tryPays 39 = .ok (.iconst 1, 1) := by decide +kernel
theorem dX7_tryPays_40 : decode cX7_tryPays 40 = .ok (.iaload, 1) := by decide +kernel
theorem dX7_tryPays_41 : decode cX7_tryPays 41 = .ok (.istore 6, 2) := by decide +kernel
theorem dX7_tryPays_43 : decode cX7_tryPays 43 = .ok (.iconst 0, 1) := by decide +kernel
theorem dX7_tryPays_44 : decode cX7_tryPays 44 = .ok (.istore 7, 2) := by decide +kernel
theorem dX7_tryPays_46 : decode cX7_tryPays 46 = .ok (.iload 7, 2) := by decide +kernel
theorem dX7_tryPays_48 : decode cX7_tryPays 48 = .ok (.iload 5, 2) := by decide +kernel
theorem dX7_tryPays_50 : decode cX7_tryPays 50 = .ok (.if_icmp .gt 82, 3) := by decide +kernel
theorem dX7_tryPays_53 : decode cX7_tryPays 53 = .ok (.iload 7, 2) := by decide +kernel
theorem dX7_tryPays_55 : decode cX7_tryPays 55 = .ok (.iload 6, 2) := by decide +kernel
theorem dX7_tryPays_57 : decode cX7_tryPays 57 = .ok (.if_icmp .gt 75, 3) := by decide +kernel
theorem dX7_tryPays_60 : decode cX7_tryPays 60 = .ok (.aload_n 1, 1) := by decide +kernel
theorem dX7_tryPays_61 : decode cX7_tryPays 61 = .ok (.getfield 64, 3) := by decide +kernel
theorem dX7_tryPays_64 : decode cX7_tryPays 64 = .ok (.iload 4, 2) := by decide +kernel
theorem dX7_tryPays_66 : decode cX7_tryPays 66 = .ok (.iload 7, 2) := by decide +kernel
theorem dX7_tryPays_68 : decode cX7_tryPays 68 = .ok (.iastore, 1) := by decide +kernel
theorem dX7_tryPays_69 : decode cX7_tryPays 69 = .ok (.aload_n 0, 1) := by decide +kernel
theorem dX7_tryPays_70 : decode cX7_tryPays 70 = .ok (.aload_n 1, 1) := by decide +kernel
theorem dX7_tryPays_71 : decode cX7_tryPays 71 = .ok (.iload_n 2, 1) := by decide +kernel
theorem dX7_tryPays_72 : decode cX7_tryPays 72 = .ok (.iload_n 3, 1) := by decide +kernel
theorem dX7_tryPays_73 : decode cX7_tryPays 73 = .ok (.iload 4, 2) := by decide +kernel
theorem dX7_tryPays_75 : decode cX7_tryPays 75 = .ok (.iconst 1, 1) := by decide +kernel
theorem dX7_tryPays_76 : decode cX7_tryPays 76 = .ok (.iadd, 1) := by decide +kernel
theorem dX7_tryPays_77 : decode cX7_tryPays 77 = .ok (.iload 5, 2) := by decide +kernel
theorem dX7_tryPays_79 : decode cX7_tryPays 79 = .ok (.iload 7, 2) := by decide +kernel
theorem dX7_tryPays_81 : decode cX7_tryPays 81 = .ok (.isub, 1) := by decide +kernel
theorem dX7_tryPays_82 : decode cX7_tryPays 82 = .ok (.invokevirtual 319, 3) := by decide +kernel
theorem dX7_tryPays_85 : decode cX7_tryPays 85 = .ok (.iload 7, 2) := by decide +kernel
theorem dX7_tryPays_87 : decode cX7_tryPays 87 = .ok (.iload 6, 2) := by decide +kernel
theorem dX7_tryPays_89 : decode cX7_tryPays 89 = .ok (.if_icmp .ne 10, 3) := by decide +kernel
theorem dX7_tryPays_92 : decode cX7_tryPays 92 = .ok (.iload 6, 2) := by decide +kernel
theorem dX7_tryPays_94 : decode cX7_tryPays 94 = .ok (.iconst 1, 1) := by decide +kernel
theorem dX7_tryPays_95 : decode cX7_tryPays 95 = .ok (.iadd, 1) := by decide +kernel
theorem dX7_tryPays_96 : decode cX7_tryPays 96 = .ok (.goto 27, 3) := by decide +kernel
theorem dX7_tryPays_99 : decode cX7_tryPays 99 = .ok (.iload 7, 2) := by decide +kernel
theorem dX7_tryPays_101 : decode cX7_tryPays 101 = .ok (.aload_n 0, 1) := by decide +kernel
theorem dX7_tryPays_102 : decode cX7_tryPays 102 = .ok (.getfield 48, 3) := by decide +kernel
theorem dX7_tryPays_105 : decode cX7_tryPays 105 = .ok (.iadd, 1) := by decide +kernel
theorem dX7_tryPays_106 : decode cX7_tryPays 106 = .ok (.iload 6, 2) := by decide +kernel
theorem dX7_tryPays_108 : decode cX7_tryPays 108 = .ok (.if_icmp .ge 13, 3) := by decide +kernel
theorem dX7_tryPays_111 : decode cX7_tryPays 111 = .ok (.iload 7, 2) := by decide +kernel
theorem dX7_tryPays_113 : decode cX7_tryPays 113 = .ok (.aload_n 0, 1) := by decide +kernel
theorem dX7_tryPays_114 : decode cX7_tryPays 114 = .ok (.getfield 48, 3) := by decide +kernel
theorem dX7_tryPays_117 : decode cX7_tryPays 117 = .ok (.iadd, 1) := by decide +kernel
theorem dX7_tryPays_118 : decode cX7_tryPays 118 = .ok (.goto 5, 3) := by decide +kernel
theorem dX7_tryPays_121 : decode cX7_tryPays 121 = .ok (.iload 6, 2) := by decide +kernel
theorem dX7_tryPays_123 : decode cX7_tryPays 123 = .ok (.istore 8, 2) := by decide +kernel
theorem dX7_tryPays_125 : decode cX7_tryPays 125 = .ok (.iload 8, 2) := by decide +kernel
theorem dX7_tryPays_127 : decode cX7_tryPays 127 = .ok (.istore 7, 2) := by decide +kernel
theorem dX7_tryPays_129 : decode cX7_tryPays 129 = .ok (.goto (-83), 3) := by decide +kernel
theorem dX7_tryPays_132 : decode cX7_tryPays 132 = .ok (.return_, 1) := by decide +kernel
theorem dX7_findBest_0 : decode cX7_findBest 0 = .ok (.aload_n 0, 1) := by decide +kernel
theorem dX7_findBest_1 : decode cX7_findBest 1 = .ok (.iconst (-1), 1) := by decide +kernel
theorem dX7_findBest_2 : decode cX7_findBest 2 = .ok (.putfield 323, 3) := by decide +kernel
theorem dX7_findBest_5 : decode cX7_findBest 5 = .ok (.aload_n 0, 1) := by decide +kernel
theorem dX7_findBest_6 : decode cX7_findBest 6 = .ok (.invokevirtual 299, 3) := by decide +kernel
theorem dX7_findBest_9 : decode cX7_findBest 9 = .ok (.astore_n 2, 1) := by decide +kernel
theorem dX7_findBest_10 : decode cX7_findBest 10 = .ok (.aload_n 0, 1) := by decide +kernel
theorem dX7_findBest_11 : decode cX7_findBest 11 = .ok (.aload_n 2, 1) := by decide +kernel
theorem dX7_findBest_12 : decode cX7_findBest 12 = .ok (.iconst 0, 1) := by decide +kernel
theorem dX7_findBest_13 : decode cX7_findBest 13 = .ok (.iload_n 1, 1) := by decide +kernel
theorem dX7_findBest_14 : decode cX7_findBest 14 = .ok (.iconst 0, 1) := by decide +kernel
theorem dX7_findBest_15 : decode cX7_findBest 15 = .ok (.aload_n 2, 1) := by decide +kernel
theorem dX7_findBest_16 : decode cX7_findBest 16 = .ok (.invokevirtual 117, 3) := by decide +kernel
theorem dX7_findBest_19 : decode cX7_findBest 19 = .ok (.invokevirtual 319, 3) := by decide +kernel
theorem dX7_findBest_22 : decode cX7_findBest 22 = .ok (.return_, 1) := by decide +kernel
theorem dX7_best_0 : decode cX7_best 0 = .ok (.iload_n 1, 1) := by decide +kernel
theorem dX7_best_1 : decode cX7_best 1 = .ok (.i2l, 1) := by decide +kernel
theorem dX7_best_2 : decode cX7_best 2 = .ok (.lconst 1, 1) := by decide +kernel
theorem dX7_best_3 : decode cX7_best 3 = .ok (.ldc2_w 144, 3) := by decide +kernel
theorem dX7_best_6 : decode cX7_best 6 = .ok (.invokestatic 83, 3) := by decide +kernel
theorem dX7_best_9 : decode cX7_best 9 = .ok (.ifCond .eq 21, 3) := by decide +kernel
theorem dX7_best_12 : decode cX7_best 12 = .ok (.iload_n 2, 1) := by decide +kernel
theorem dX7_best_13 : decode cX7_best 13 = .ok (.i2l, 1) := by decide +kernel
theorem dX7_best_14 : decode cX7_best 14 = .ok (.ldc2_w 326, 3) := by decide +kernel
theorem dX7_best_17 : decode cX7_best 17 = .ok (.aload_n 0, 1) := by decide +kernel
theorem dX7_best_18 : decode cX7_best 18 = .ok (.getfield 80, 3) := by decide +kernel
theorem dX7_best_21 : decode cX7_best 21 = .ok (.iconst 1, 1) := by decide +kernel
theorem dX7_best_22 : decode cX7_best 22 = .ok (.isub, 1) := by decide +kernel
theorem dX7_best_23 : decode cX7_best 23 = .ok (.i2l, 1) := by decide +kernel
theorem dX7_best_24 : decode cX7_best 24 = .ok (.invokestatic 83, 3) := by decide +kernel
theorem dX7_best_27 : decode cX7_best 27 = .ok (.ifCond .ne 10, 3) := by decide +kernel
theorem dX7_best_30 : decode cX7_best 30 = .ok (.aload_n 0, 1) := by decide +kernel
theorem dX7_best_31 : decode cX7_best 31 = .ok (.bipush (-2), 2) := by decide +kernel
theorem dX7_best_33 : decode cX7_best 33 = .ok (.invokevirtual 97, 3) := by decide +kernel
theorem dX7_best_36 : decode cX7_best 36 = .ok (.ireturn, 1) := by decide +kernel
theorem dX7_best_37 : decode cX7_best 37 = .ok (.aload_n 0, 1) := by decide +kernel
theorem dX7_best_38 : decode cX7_best 38 = .ok (.iload_n 1, 1) := by decide +kernel
theorem dX7_best_39 : decode cX7_best 39 = .ok (.invokevirtual 328, 3) := by decide +kernel
theorem dX7_best_42 : decode cX7_best 42 = .ok (.ifCond .ne 10, 3) := by decide +kernel
theorem dX7_best_45 : decode cX7_best 45 = .ok (.aload_n 0, 1) := by decide +kernel
theorem dX7_best_46 : decode cX7_best 46 = .ok (.bipush (-5), 2) := by decide +kernel
theorem dX7_best_48 : decode cX7_best 48 = .ok (.invokevirtual 97, 3) := by decide +kernel
theorem dX7_best_51 : decode cX7_best 51 = .ok (.ireturn, 1) := by decide +kernel
theorem dX7_best_52 : decode cX7_best 52 = .ok (.aload_n 0, 1) := by decide +kernel
theorem dX7_best_53 : decode cX7_best 53 = .ok (.iload_n 1, 1) := by decide +kernel
theorem dX7_best_54 : decode cX7_best 54 = .ok (.invokevirtual 331, 3) := by decide +kernel
theorem dX7_best_57 : decode cX7_best 57 = .ok (.iload_n 2, 1) := by decide +kernel
theorem dX7_best_58 : decode cX7_best 58 = .ok (.iconst (-1), 1) := by decide +kernel
theorem dX7_best_59 : decode cX7_best 59 = .ok (.if_icmp .ne 10, 3) := by decide +kernel
theorem dX7_best_62 : decode cX7_best 62 = .ok (.aload_n 0, 1) := by decide +kernel
theorem dX7_best_63 : decode cX7_best 63 = .ok (.getfield 323, 3) := by decide +kernel
theorem dX7_best_66 : decode cX7_best 66 = .ok (.goto 9, 3) := by decide +kernel
theorem dX7_best_69 : decode cX7_best 69 = .ok (.aload_n 0, 1) := by decide +kernel
theorem dX7_best_70 : decode cX7_best 70 = .ok (.getfield 77, 3) := by decide +kernel
theorem dX7_best_73 : decode cX7_best 73 = .ok (.iload_n 2, 1) := by decide +kernel
theorem dX7_best_74 : decode cX7_best 74 = .ok (.iaload, 1) := by decide +kernel
theorem dX7_best_75 : decode cX7_best 75 = .ok (.ireturn, 1) := by decide +kernel
theorem dX7_bites_0 : decode cX7_bites 0 = .ok (.aload_n 0, 1) := by decide +kernel
theorem dX7_bites_1 : decode cX7_bites 1 = .ok (.iload_n 1, 1) := by decide +kernel
theorem dX7_bites_2 : decode cX7_bites 2 = .ok (.invokevirtual 139, 3) := by decide +kernel
theorem dX7_bites_5 : decode cX7_bites 5 = .ok (.ifCond .ne 10, 3) := by decide +kernel
theorem dX7_bites_8 : decode cX7_bites 8 = .ok (.aload_n 0, 1) := by decide +kernel
theorem dX7_bites_9 : decode cX7_bites 9 = .ok (.bipush (-2), 2) := by decide +kernel
theorem dX7_bites_11 : decode cX7_bites 11 = .ok (.invokevirtual 97, 3) := by decide +kernel
theorem dX7_bites_14 : decode cX7_bites 14 = .ok (.ireturn, 1) := by decide +kernel
theorem dX7_bites_15 : decode cX7_bites 15 = .ok (.aload_n 0, 1) := by decide +kernel
theorem dX7_bites_16 : decode cX7_bites 16 = .ok (.iload_n 1, 1) := by decide +kernel
theorem dX7_bites_17 : decode cX7_bites 17 = .ok (.invokevirtual 87, 3) := by decide +kernel
theorem dX7_bites_20 : decode cX7_bites 20 = .ok (.ifCond .ne 5, 3) := by decide +kernel
theorem dX7_bites_23 : decode cX7_bites 23 = .ok (.iconst (-1), 1) := by decide +kernel
theorem dX7_bites_24 : decode cX7_bites 24 = .ok (.ireturn, 1) := by decide +kernel
theorem dX7_bites_25 : decode cX7_bites 25 = .ok (.aload_n 0, 1) := by decide +kernel
theorem dX7_bites_26 : decode cX7_bites 26 = .ok (.getfield 42, 3) := by decide +kernel
theorem dX7_bites_29 : decode cX7_bites 29 = .ok (.iload_n 1, 1) := by decide +kernel
theorem dX7_bites_30 : decode cX7_bites 30 = .ok (.aaload, 1) := by decide +kernel
theorem dX7_bites_31 : decode cX7_bites 31 = .ok (.bipush 6, 2) := by decide +kernel
theorem dX7_bites_33 : decode cX7_bites 33 = .ok (.iaload, 1) := by decide +kernel
theorem dX7_bites_34 : decode cX7_bites 34 = .ok (.istore_n 2, 1) := by decide +kernel
theorem dX7_bites_35 : decode cX7_bites 35 = .ok (.iconst 1, 1) := by decide +kernel
theorem dX7_bites_36 : decode cX7_bites 36 = .ok (.istore_n 3, 1) := by decide +kernel
theorem dX7_bites_37 : decode cX7_bites 37 = .ok (.aload_n 0, 1) := by decide +kernel
theorem dX7_bites_38 : decode cX7_bites 38 = .ok (.getfield 42, 3) := by decide +kernel
theorem dX7_bites_41 : decode cX7_bites 41 = .ok (.iload_n 1, 1) := by decide +kernel
theorem dX7_bites_42 : decode cX7_bites 42 = .ok (.aaload, 1) := by decide +kernel
theorem dX7_bites_43 : decode cX7_bites 43 = .ok (.iconst 0, 1) := by decide +kernel
theorem dX7_bites_44 : decode cX7_bites 44 = .ok (.iaload, 1) := by decide +kernel
theorem dX7_bites_45 : decode cX7_bites 45 = .ok (.iconst 3, 1) := by decide +kernel
theorem dX7_bites_46 : decode cX7_bites 46 = .ok (.if_icmp .ne 26, 3) := by decide +kernel
theorem dX7_bites_49 : decode cX7_bites 49 = .ok (.aload_n 0, 1) := by decide +kernel
theorem dX7_bites_50 : decode cX7_bites 50 = .ok (.getfield 244, 3) := by decide +kernel
theorem dX7_bites_53 : decode cX7_bites 53 = .ok (.iload_n 3, 1) := by decide +kernel
theorem dX7_bites_54 : decode cX7_bites 54 = .ok (.iadd, 1) := by decide +kernel
theorem dX7_bites_55 : decode cX7_bites 55 = .ok (.iconst 1, 1) := by decide +kernel
theorem dX7_bites_56 : decode cX7_bites 56 = .ok (.isub, 1) := by decide +kernel
theorem dX7_bites_57 : decode cX7_bites 57 = .ok (.aload_n 0, 1) := by decide +kernel
theorem dX7_bites_58 : decode cX7_bites 58 = .ok (.getfield 42, 3) := by decide +kernel
theorem dX7_bites_61 : decode cX7_bites 61 = .ok (.iload_n 1, 1) := by decide +kernel
theorem dX7_bites_62 : decode cX7_bites 62 = .ok (.aaload, 1) := by decide +kernel
theorem dX7_bites_63 : decode cX7_bites 63 = .ok (.iconst 2, 1) := by decide +kernel
theorem dX7_bites_64 : decode cX7_bites 64 = .ok (.iaload, 1) := by decide +kernel
theorem dX7_bites_65 : decode cX7_bites 65 = .ok (.if_icmp .ge 7, 3) := by decide +kernel
theorem dX7_bites_68 : decode cX7_bites 68 = .ok (.iconst 1, 1) := by decide +kernel
theorem dX7_bites_69 : decode cX7_bites 69 = .ok (.goto 4, 3) := by decide +kernel
theorem dX7_bites_72 : decode cX7_bites 72 = .ok (.iconst 0, 1) := by decide +kernel
theorem dX7_bites_73 : decode cX7_bites 73 = .ok (.istore 4, 2) := by decide +kernel
theorem dX7_bites_75 : decode cX7_bites 75 = .ok (.iload 4, 2) := by decide +kernel
theorem dX7_bites_77 : decode cX7_bites 77 = .ok (.ifCond .eq 7, 3) := by decide +kernel
theorem dX7_bites_80 : decode cX7_bites 80 = .ok (.iconst 0, 1) := by decide +kernel
theorem dX7_bites_81 : decode cX7_bites 81 = .ok (.goto 6, 3) := by decide +kernel
theorem dX7_bites_84 : decode cX7_bites 84 = .ok (.iload_n 2, 1) := by decide +kernel
theorem dX7_bites_85 : decode cX7_bites 85 = .ok (.iconst 1, 1) := by decide +kernel
theorem dX7_bites_86 : decode cX7_bites 86 = .ok (.iadd, 1) := by decide +kernel
theorem dX7_bites_87 : decode cX7_bites 87 = .ok (.istore_n 2, 1) := by decide +kernel
theorem dX7_bites_88 : decode cX7_bites 88 = .ok (.iload_n 2, 1) := by decide +kernel
theorem dX7_bites_89 : decode cX7_bites 89 = .ok (.aload_n 0, 1) := by decide +kernel
theorem dX7_bites_90 : decode cX7_bites 90 = .ok (.iload_n 1, 1) := by decide +kernel
theorem dX7_bites_91 : decode cX7_bites 91 = .ok (.invokevirtual 248, 3) := by decide +kernel
theorem dX7_bites_94 : decode cX7_bites 94 = .ok (.if_icmp .lt 5, 3) := by decide +kernel
theorem dX7_bites_97 : decode cX7_bites 97 = .ok (.iload_n 3, 1) := by decide +kernel
theorem dX7_bites_98 : decode cX7_bites 98 = .ok (.ireturn, 1) := by decide +kernel
theorem dX7_bites_99 : decode cX7_bites 99 = .ok (.iinc 3 1, 3) := by decide +kernel
theorem dX7_bites_102 : decode cX7_bites 102 = .ok (.goto (-65), 3) := by decide +kernel
theorem dX7_copy_0 : decode cX7_copy 0 = .ok (.iload_n 1, 1) := by decide +kernel
theorem dX7_copy_1 : decode cX7_copy 1 = .ok (.i2l, 1) := by decide +kernel
theorem dX7_copy_2 : decode cX7_copy 2 = .ok (.lconst 0, 1) := by decide +kernel
theorem dX7_copy_3 : decode cX7_copy 3 = .ok (.ldc2_w 91, 3) := by decide +kernel
theorem dX7_copy_6 : decode cX7_copy 6 = .ok (.invokestatic 83, 3) := by decide +kernel
theorem dX7_copy_9 : decode cX7_copy 9 = .ok (.ifCond .eq 15, 3) := by decide +kernel
theorem dX7_copy_12 : decode cX7_copy 12 = .ok (.iload_n 2, 1) := by decide +kernel
theorem dX7_copy_13 : decode cX7_copy 13 = .ok (.i2l, 1) := by decide +kernel
theorem dX7_copy_14 : decode cX7_copy 14 = .ok (.lconst 0, 1) := by decide +kernel
theorem dX7_copy_15 : decode cX7_copy 15 = .ok (.ldc2_w 91, 3) := by decide +kernel
theorem dX7_copy_18 : decode cX7_copy 18 = .ok (.invokestatic 83, 3) := by decide +kernel
theorem dX7_copy_21 : decode cX7_copy 21 = .ok (.ifCond .ne 10, 3) := by decide +kernel
theorem dX7_copy_24 : decode cX7_copy 24 = .ok (.aload_n 0, 1) := by decide +kernel
theorem dX7_copy_25 : decode cX7_copy 25 = .ok (.bipush (-2), 2) := by decide +kernel
theorem dX7_copy_27 : decode cX7_copy 27 = .ok (.invokevirtual 97, 3) := by decide +kernel
theorem dX7_copy_30 : decode cX7_copy 30 = .ok (.ireturn, 1) := by decide +kernel
theorem dX7_copy_31 : decode cX7_copy 31 = .ok (.aload_n 0, 1) := by decide +kernel
theorem dX7_copy_32 : decode cX7_copy 32 = .ok (.getfield 7, 3) := by decide +kernel
theorem dX7_copy_35 : decode cX7_copy 35 = .ok (.iload_n 1, 1) := by decide +kernel
theorem dX7_copy_36 : decode cX7_copy 36 = .ok (.iaload, 1) := by decide +kernel
theorem dX7_copy_37 : decode cX7_copy 37 = .ok (.iconst 2, 1) := by decide +kernel
theorem dX7_copy_38 : decode cX7_copy 38 = .ok (.if_icmp .eq 48, 3) := by decide +kernel
theorem dX7_copy_41 : decode cX7_copy 41 = .ok (.aload_n 0, 1) := by decide +kernel
theorem dX7_copy_42 : decode cX7_copy 42 = .ok (.getfield 7, 3) := by decide +kernel
theorem dX7_copy_45 : decode cX7_copy 45 = .ok (.iload_n 2, 1) := by decide +kernel
theorem dX7_copy_46 : decode cX7_copy 46 = .ok (.iaload, 1) := by decide +kernel
theorem dX7_copy_47 : decode cX7_copy 47 = .ok (.iconst 2, 1) := by decide +kernel
theorem dX7_copy_48 : decode cX7_copy 48 = .ok (.if_icmp .eq 38, 3) := by decide +kernel
theorem dX7_copy_51 : decode cX7_copy 51 = .ok (.aload_n 0, 1) := by decide +kernel
theorem dX7_copy_52 : decode cX7_copy 52 = .ok (.getfield 7, 3) := by decide +kernel
theorem dX7_copy_55 : decode cX7_copy 55 = .ok (.iload_n 1, 1) := by decide +kernel
theorem dX7_copy_56 : decode cX7_copy 56 = .ok (.iaload, 1) := by decide +kernel
theorem dX7_copy_57 : decode cX7_copy 57 = .ok (.iconst 1, 1) := by decide +kernel
theorem dX7_copy_58 : decode cX7_copy 58 = .ok (.if_icmp .ne 35, 3) := by decide +kernel
theorem dX7_copy_61 : decode cX7_copy 61 = .ok (.aload_n 0, 1) := by decide +kernel
theorem dX7_copy_62 : decode cX7_copy 62 = .ok (.getfield 7, 3) := by decide +kernel
theorem dX7_copy_65 : decode cX7_copy 65 = .ok (.iload_n 2, 1) := by decide +kernel
theorem dX7_copy_66 : decode cX7_copy 66 = .ok (.iaload, 1) := by decide +kernel
theorem dX7_copy_67 : decode cX7_copy 67 = .ok (.iconst 1, 1) := by decide +kernel
theorem dX7_copy_68 : decode cX7_copy 68 = .ok (.if_icmp .ne 25, 3) := by decide +kernel
theorem dX7_copy_71 : decode cX7_copy 71 = .ok (.aload_n 0, 1) := by decide +kernel
theorem dX7_copy_72 : decode cX7_copy 72 = .ok (.getfield 13, 3) := by decide +kernel
theorem dX7_copy_75 : decode cX7_copy 75 = .ok (.iload_n 1, 1) := by decide +kernel
theorem dX7_copy_76 : decode cX7_copy 76 = .ok (.iaload, 1) := by decide +kernel
theorem dX7_copy_77 : decode cX7_copy 77 = .ok (.aload_n 0, 1) := by decide +kernel
theorem dX7_copy_78 : decode cX7_copy 78 = .ok (.getfield 13, 3) := by decide +kernel
theorem dX7_copy_81 : decode cX7_copy 81 = .ok (.iload_n 2, 1) := by decide +kernel
theorem dX7_copy_82 : decode cX7_copy 82 = .ok (.iaload, 1) := by decide +kernel
theorem dX7_copy_83 : decode cX7_copy 83 = .ok (.if_icmp .eq 10, 3) := by decide +kernel
theorem dX7_copy_86 : decode cX7_copy 86 = .ok (.aload_n 0, 1) := by decide +kernel
theorem dX7_copy_87 : decode cX7_copy 87 = .ok (.bipush (-3), 2) := by decide +kernel
theorem dX7_copy_89 : decode cX7_copy 89 = .ok (.invokevirtual 97, 3) := by decide +kernel
theorem dX7_copy_92 : decode cX7_copy 92 = .ok (.ireturn, 1) := by decide +kernel
theorem dX7_copy_93 : decode cX7_copy 93 = .ok (.aload_n 0, 1) := by decide +kernel
theorem dX7_copy_94 : decode cX7_copy 94 = .ok (.getfield 7, 3) := by decide +kernel
theorem dX7_copy_97 : decode cX7_copy 97 = .ok (.iload_n 1, 1) := by decide +kernel
theorem dX7_copy_98 : decode cX7_copy 98 = .ok (.iaload, 1) := by decide +kernel
theorem dX7_copy_99 : decode cX7_copy 99 = .ok (.ifCond .eq 12, 3) := by decide +kernel
theorem dX7_copy_102 : decode cX7_copy 102 = .ok (.aload_n 0, 1) := by decide +kernel
theorem dX7_copy_103 : decode cX7_copy 103 = .ok (.getfield 7, 3) := by decide +kernel
theorem dX7_copy_106 : decode cX7_copy 106 = .ok (.iload_n 2, 1) := by decide +kernel
theorem dX7_copy_107 : decode cX7_copy 107 = .ok (.iaload, 1) := by decide +kernel
theorem dX7_copy_108 : decode cX7_copy 108 = .ok (.ifCond .ne 10, 3) := by decide +kernel
theorem dX7_copy_111 : decode cX7_copy 111 = .ok (.aload_n 0, 1) := by decide +kernel
theorem dX7_copy_112 : decode cX7_copy 112 = .ok (.bipush (-4), 2) := by decide +kernel
theorem dX7_copy_114 : decode cX7_copy 114 = .ok (.invokevirtual 97, 3) := by decide +kernel
theorem dX7_copy_117 : decode cX7_copy 117 = .ok (.ireturn, 1) := by decide +kernel
theorem dX7_copy_118 : decode cX7_copy 118 = .ok (.iload 5, 2) := by decide +kernel
theorem dX7_copy_120 : decode cX7_copy 120 = .ok (.ifCond .lt 61, 3) := by decide +kernel
theorem dX7_copy_123 : decode cX7_copy 123 = .ok (.iload_n 3, 1) := by decide +kernel
theorem dX7_copy_124 : decode cX7_copy 124 = .ok (.ifCond .lt 57, 3) := by decide +kernel
theorem dX7_copy_127 : decode cX7_copy 127 = .ok (.iload 4, 2) := by decide +kernel
theorem dX7_copy_129 : decode cX7_copy 129 = .ok (.ifCond .lt 52, 3) := by decide +kernel
theorem dX7_copy_132 : decode cX7_copy 132 = .ok (.iload 5, 2) := by decide +kernel
theorem dX7_copy_134 : decode cX7_copy 134 = .ok (.aload_n 0, 1) := by decide +kernel
theorem dX7_copy_135 : decode cX7_copy 135 = .ok (.getfield 16, 3) := by decide +kernel
theorem dX7_copy_138 : decode cX7_copy 138 = .ok (.iload_n 1, 1) := by decide +kernel
theorem dX7_copy_139 : decode cX7_copy 139 = .ok (.iaload, 1) := by decide +kernel
theorem dX7_copy_140 : decode cX7_copy 140 = .ok (.if_icmp .gt 41, 3) := by decide +kernel
theorem dX7_copy_143 : decode cX7_copy 143 = .ok (.iload 5, 2) := by decide +kernel
theorem dX7_copy_145 : decode cX7_copy 145 = .ok (.aload_n 0, 1) := by decide +kernel
theorem dX7_copy_146 : decode cX7_copy 146 = .ok (.getfield 16, 3) := by decide +kernel
theorem dX7_copy_149 : decode cX7_copy 149 = .ok (.iload_n 2, 1) := by decide +kernel
theorem dX7_copy_150 : decode cX7_copy 150 = .ok (.iaload, 1) := by decide +kernel
theorem dX7_copy_151 : decode cX7_copy 151 = .ok (.if_icmp .gt 30, 3) := by decide +kernel
theorem dX7_copy_154 : decode cX7_copy 154 = .ok (.iload_n 3, 1) := by decide +kernel
theorem dX7_copy_155 : decode cX7_copy 155 = .ok (.aload_n 0, 1) := by decide +kernel
theorem dX7_copy_156 : decode cX7_copy 156 = .ok (.getfield 16, 3) := by decide +kernel
theorem dX7_copy_159 : decode cX7_copy 159 = .ok (.iload_n 1, 1) := by decide +kernel
theorem dX7_copy_160 : decode cX7_copy 160 = .ok (.iaload, 1) := by decide +kernel
theorem dX7_copy_161 : decode cX7_copy 161 = .ok (.iload 5, 2) := by decide +kernel
theorem dX7_copy_163 : decode cX7_copy 163 = .ok (.isub, 1) := by decide +kernel
theorem dX7_copy_164 : decode cX7_copy 164 = .ok (.if_icmp .gt 17, 3) := by decide +kernel
theorem dX7_copy_167 : decode cX7_copy 167 = .ok (.iload 4, 2) := by decide +kernel
theorem dX7_copy_169 : decode cX7_copy 169 = .ok (.aload_n 0, 1) := by decide +kernel
theorem dX7_copy_170 : decode cX7_copy 170 = .ok (.getfield 16, 3) := by decide +kernel
theorem dX7_copy_173 : decode cX7_copy 173 = .ok (.iload_n 2, 1) := by decide +kernel
theorem dX7_copy_174 : decode cX7_copy 174 = .ok (.iaload, 1) := by decide +kernel
theorem dX7_copy_175 : decode cX7_copy 175 = .ok (.iload 5, 2) := by decide +kernel
theorem dX7_copy_177 : decode cX7_copy 177 = .ok (.isub, 1) := by decide +kernel
theorem dX7_copy_178 : decode cX7_copy 178 = .ok (.if_icmp .le 10, 3) := by decide +kernel
theorem dX7_copy_181 : decode cX7_copy 181 = .ok (.aload_n 0, 1) := by decide +kernel
theorem dX7_copy_182 : decode cX7_copy 182 = .ok (.bipush (-2), 2) := by decide +kernel
theorem dX7_copy_184 : decode cX7_copy 184 = .ok (.invokevirtual 97, 3) := by decide +kernel
theorem dX7_copy_187 : decode cX7_copy 187 = .ok (.ireturn, 1) := by decide +kernel
theorem dX7_copy_188 : decode cX7_copy 188 = .ok (.iconst 0, 1) := by decide +kernel
theorem dX7_copy_189 : decode cX7_copy 189 = .ok (.istore 6, 2) := by decide +kernel
theorem dX7_copy_191 : decode cX7_copy 191 = .ok (.iload 6, 2) := by decide +kernel
theorem dX7_copy_193 : decode cX7_copy 193 = .ok (.iload 5, 2) := by decide +kernel
theorem dX7_copy_195 : decode cX7_copy 195 = .ok (.if_icmp .ge 27, 3) := by decide +kernel
theorem dX7_copy_198 : decode cX7_copy 198 = .ok (.aload_n 0, 1) := by decide +kernel
theorem dX7_copy_199 : decode cX7_copy 199 = .ok (.getfield 24, 3) := by decide +kernel
theorem dX7_copy_202 : decode cX7_copy 202 = .ok (.iload 6, 2) := by decide +kernel
theorem dX7_copy_204 : decode cX7_copy 204 = .ok (.aload_n 0, 1) := by decide +kernel
theorem dX7_copy_205 : decode cX7_copy 205 = .ok (.getfield 21, 3) := by decide +kernel
theorem dX7_copy_208 : decode cX7_copy 208 = .ok (.iload_n 1, 1) := by decide +kernel
theorem dX7_copy_209 : decode cX7_copy 209 = .ok (.aaload, 1) := by decide +kernel
theorem dX7_copy_210 : decode cX7_copy 210 = .ok (.iload_n 3, 1) := by decide +kernel
theorem dX7_copy_211 : decode cX7_copy 211 = .ok (.iload 6, 2) := by decide +kernel
theorem dX7_copy_213 : decode cX7_copy 213 = .ok (.iadd, 1) := by decide +kernel
theorem dX7_copy_214 : decode cX7_copy 214 = .ok (.laload, 1) := by decide +kernel
theorem dX7_copy_215 : decode cX7_copy 215 = .ok (.lastore, 1) := by decide +kernel
theorem dX7_copy_216 : decode cX7_copy 216 = .ok (.iinc 6 1, 3) := by decide +kernel
theorem dX7_copy_219 : decode cX7_copy 219 = .ok (.goto (-28), 3) := by decide +kernel
theorem dX7_copy_222 : decode cX7_copy 222 = .ok (.iconst 0, 1) := by decide +kernel
theorem dX7_copy_223 : decode cX7_copy 223 = .ok (.istore 6, 2) := by decide +kernel
theorem dX7_copy_225 : decode cX7_copy 225 = .ok (.iload 6, 2) := by decide +kernel
theorem dX7_copy_227 : decode cX7_copy 227 = .ok (.iload 5, 2) := by decide +kernel
theorem dX7_copy_229 : decode cX7_copy 229 = .ok (.if_icmp .ge 28, 3) := by decide +kernel
theorem dX7_copy_232 : decode cX7_copy 232 = .ok (.aload_n 0, 1) := by decide +kernel
theorem dX7_copy_233 : decode cX7_copy 233 = .ok (.getfield 21, 3) := by decide +kernel
theorem dX7_copy_236 : decode cX7_copy 236 = .ok (.iload_n 2, 1) := by decide +kernel
theorem dX7_copy_237 : decode cX7_copy 237 = .ok (.aaload, 1) := by decide +kernel
theorem dX7_copy_238 : decode cX7_copy 238 = .ok (.iload 4, 2) := by decide +kernel
theorem dX7_copy_240 : decode cX7_copy 240 = .ok (.iload 6, 2) := by decide +kernel
theorem dX7_copy_242 : decode cX7_copy 242 = .ok (.iadd, 1) := by decide +kernel
theorem dX7_copy_243 : decode cX7_copy 243 = .ok (.aload_n 0, 1) := by decide +kernel
theorem dX7_copy_244 : decode cX7_copy 244 = .ok (.getfield 24, 3) := by decide +kernel
theorem dX7_copy_247 : decode cX7_copy 247 = .ok (.iload 6, 2) := by decide +kernel
theorem dX7_copy_249 : decode cX7_copy 249 = .ok (.laload, 1) := by decide +kernel
theorem dX7_copy_250 : decode cX7_copy 250 = .ok (.lastore, 1) := by decide +kernel
theorem dX7_copy_251 : decode cX7_copy 251 = .ok (.iinc 6 1, 3) := by decide +kernel
theorem dX7_copy_254 : decode cX7_copy 254 = .ok (.goto (-29), 3) := by decide +kernel
theorem dX7_copy_257 : decode cX7_copy 257 = .ok (.iload 5, 2) := by decide +kernel
theorem dX7_copy_259 : decode cX7_copy 259 = .ok (.ireturn, 1) := by decide +kernel
theorem dX7_debt_0 : decode cX7_debt 0 = .ok (.iload_n 1, 1) := by decide +kernel
theorem dX7_debt_1 : decode cX7_debt 1 = .ok (.i2l, 1) := by decide +kernel
theorem dX7_debt_2 : decode cX7_debt 2 = .ok (.lconst 0, 1) := by decide +kernel
theorem dX7_debt_3 : decode cX7_debt 3 = .ok (.ldc2_w 128, 3) := by decide +kernel
theorem dX7_debt_6 : decode cX7_debt 6 = .ok (.invokestatic 83, 3) := by decide +kernel
theorem dX7_debt_9 : decode cX7_debt 9 = .ok (.ifCond .eq 36, 3) := by decide +kernel
theorem dX7_debt_12 : decode cX7_debt 12 = .ok (.iload_n 2, 1) := by decide +kernel
theorem dX7_debt_13 : decode cX7_debt 13 = .ok (.i2l, 1) := by decide +kernel
theorem dX7_debt_14 : decode cX7_debt 14 = .ok (.lconst 1, 1) := by decide +kernel
theorem dX7_debt_15 : decode cX7_debt 15 = .ok (.ldc2_w 130, 3) := by decide +kernel
theorem dX7_debt_18 : decode cX7_debt 18 = .ok (.invokestatic 83, 3) := by decide +kernel
theorem dX7_debt_21 : decode cX7_debt 21 = .ok (.ifCond .eq 24, 3) := by decide +kernel
theorem dX7_debt_24 : decode cX7_debt 24 = .ok (.iconst 0, 1) := by decide +kernel
theorem dX7_debt_25 : decode cX7_debt 25 = .ok (.iload_n 3, 1) := by decide +kernel
theorem dX7_debt_26 : decode cX7_debt 26 = .ok (.invokestatic 132, 3) := by decide +kernel
theorem dX7_debt_29 : decode cX7_debt 29 = .ok (.ifCond .eq 16, 3) := by decide +kernel
theorem dX7_debt_32 : decode cX7_debt 32 = .ok (.iconst 1, 1) := by decide +kernel
theorem dX7_debt_33 : decode cX7_debt 33 = .ok (.iload 4, 2) := by decide +kernel
theorem dX7_debt_35 : decode cX7_debt 35 = .ok (.invokestatic 132, 3) := by decide +kernel
theorem dX7_debt_38 : decode cX7_debt 38 = .ok (.ifCond .eq 7, 3) := by decide +kernel
theorem dX7_debt_41 : decode cX7_debt 41 = .ok (.iconst 1, 1) := by decide +kernel
theorem dX7_debt_42 : decode cX7_debt 42 = .ok (.goto 4, 3) := by decide +kernel
theorem dX7_debt_45 : decode cX7_debt 45 = .ok (.iconst 0, 1) := by decide +kernel
theorem dX7_debt_46 : decode cX7_debt 46 = .ok (.istore 7, 2) := by decide +kernel
theorem dX7_debt_48 : decode cX7_debt 48 = .ok (.iload 7, 2) := by decide +kernel
theorem dX7_debt_50 : decode cX7_debt 50 = .ok (.ifCond .eq 21, 3) := by decide +kernel
theorem dX7_debt_53 : decode cX7_debt 53 = .ok (.iconst 2, 1) := by decide +kernel
theorem dX7_debt_54 : decode cX7_debt 54 = .ok (.iload 5, 2) := by decide +kernel
theorem dX7_debt_56 : decode cX7_debt 56 = .ok (.invokestatic 132, 3) := by decide +kernel
theorem dX7_debt_59 : decode cX7_debt 59 = .ok (.ifCond .eq 12, 3) := by decide +kernel
theorem dX7_debt_62 : decode cX7_debt 62 = .ok (.iconst 3, 1) := by decide +kernel
theorem dX7_debt_63 : decode cX7_debt 63 = .ok (.iload 6, 2) := by decide +kernel
theorem dX7_debt_65 : decode cX7_debt 65 = .ok (.invokestatic 132, 3) := by decide +kernel
theorem dX7_debt_68 : decode cX7_debt 68 = .ok (.ifCond .ne 10, 3) := by decide +kernel
theorem dX7_debt_71 : decode cX7_debt 71 = .ok (.aload_n 0, 1) := by decide +kernel
theorem dX7_debt_72 : decode cX7_debt 72 = .ok (.bipush (-2), 2) := by decide +kernel
theorem dX7_debt_74 : decode cX7_debt 74 = .ok (.invokevirtual 97, 3) := by decide +kernel
theorem dX7_debt_77 : decode cX7_debt 77 = .ok (.ireturn, 1) := by decide +kernel
theorem dX7_debt_78 : decode cX7_debt 78 = .ok (.aload_n 0, 1) := by decide +kernel
theorem dX7_debt_79 : decode cX7_debt 79 = .ok (.getfield 80, 3) := by decide +kernel
theorem dX7_debt_82 : decode cX7_debt 82 = .ok (.bipush 9, 2) := by decide +kernel
theorem dX7_debt_84 : decode cX7_debt 84 = .ok (.if_icmp .ne 10, 3) := by decide +kernel
theorem dX7_debt_87 : decode cX7_debt 87 = .ok (.aload_n 0, 1) := by decide +kernel
theorem dX7_debt_88 : decode cX7_debt 88 = .ok (.bipush (-6), 2) := by decide +kernel
theorem dX7_debt_90 : decode cX7_debt 90 = .ok (.invokevirtual 97, 3) := by decide +kernel
theorem dX7_debt_93 : decode cX7_debt 93 = .ok (.ireturn, 1) := by decide +kernel
theorem dX7_debt_94 : decode cX7_debt 94 = .ok (.aload_n 0, 1) := by decide +kernel
theorem dX7_debt_95 : decode cX7_debt 95 = .ok (.iload_n 1, 1) := by decide +kernel
theorem dX7_debt_96 : decode cX7_debt 96 = .ok (.iload_n 2, 1) := by decide +kernel
theorem dX7_debt_97 : decode cX7_debt 97 = .ok (.invokevirtual 135, 3) := by decide +kernel
theorem dX7_debt_100 : decode cX7_debt 100 = .ok (.aload_n 0, 1) := by decide +kernel
theorem dX7_debt_101 : decode cX7_debt 101 = .ok (.getfield 42, 3) := by decide +kernel
theorem dX7_debt_104 : decode cX7_debt 104 = .ok (.aload_n 0, 1) := by decide +kernel
theorem dX7_debt_105 : decode cX7_debt 105 = .ok (.getfield 80, 3) := by decide +kernel
theorem dX7_debt_108 : decode cX7_debt 108 = .ok (.aaload, 1) := by decide +kernel
theorem dX7_debt_109 : decode cX7_debt 109 = .ok (.iconst 2, 1) := by decide +kernel
theorem dX7_debt_110 : decode cX7_debt 110 = .ok (.iload_n 3, 1) := by decide +kernel
theorem dX7_debt_111 : decode cX7_debt 111 = .ok (.iastore, 1) := by decide +kernel
theorem dX7_debt_112 : decode cX7_debt 112 = .ok (.aload_n 0, 1) := by decide +kernel
theorem dX7_debt_113 : decode cX7_debt 113 = .ok (.getfield 42, 3) := by decide +kernel
theorem dX7_debt_116 : decode cX7_debt 116 = .ok (.aload_n 0, 1) := by decide +kernel
theorem dX7_debt_117 : decode cX7_debt 117 = .ok (.getfield 80, 3) := by decide +kernel
theorem dX7_debt_120 : decode cX7_debt 120 = .ok (.aaload, 1) := by decide +kernel
theorem dX7_debt_121 : decode cX7_debt 121 = .ok (.iconst 3, 1) := by decide +kernel
theorem dX7_debt_122 : decode cX7_debt 122 = .ok (.iload 4, 2) := by decide +kernel
theorem dX7_debt_124 : decode cX7_debt 124 = .ok (.iastore, 1) := by decide +kernel
theorem dX7_debt_125 : decode cX7_debt 125 = .ok (.aload_n 0, 1) := by decide +kernel
theorem dX7_debt_126 : decode cX7_debt 126 = .ok (.getfield 42, 3) := by decide +kernel
theorem dX7_debt_129 : decode cX7_debt 129 = .ok (.aload_n 0, 1) := by decide +kernel
theorem dX7_debt_130 : decode cX7_debt 130 = .ok (.getfield 80, 3) := by decide +kernel
theorem dX7_debt_133 : decode cX7_debt 133 = .ok (.aaload, 1) := by decide +kernel
theorem dX7_debt_134 : decode cX7_debt 134 = .ok (.iconst 4, 1) := by decide +kernel
theorem dX7_debt_135 : decode cX7_debt 135 = .ok (.iload 5, 2) := by decide +kernel
theorem dX7_debt_137 : decode cX7_debt 137 = .ok (.iastore, 1) := by decide +kernel
theorem dX7_debt_138 : decode cX7_debt 138 = .ok (.aload_n 0, 1) := by decide +kernel
theorem dX7_debt_139 : decode cX7_debt 139 = .ok (.getfield 42, 3) := by decide +kernel
theorem dX7_debt_142 : decode cX7_debt 142 = .ok (.aload_n 0, 1) := by decide +kernel
theorem dX7_debt_143 : decode cX7_debt 143 = .ok (.getfield 80, 3) := by decide +kernel
theorem dX7_debt_146 : decode cX7_debt 146 = .ok (.aaload, 1) := by decide +kernel
theorem dX7_debt_147 : decode cX7_debt 147 = .ok (.iconst 5, 1) := by decide +kernel
theorem dX7_debt_148 : decode cX7_debt 148 = .ok (.iload 6, 2) := by decide +kernel
theorem dX7_debt_150 : decode cX7_debt 150 = .ok (.iastore, 1) := by decide +kernel
theorem dX7_debt_151 : decode cX7_debt 151 = .ok (.aload_n 0, 1) := by decide +kernel
theorem dX7_debt_152 : decode cX7_debt 152 = .ok (.dup, 1) := by decide +kernel
theorem dX7_debt_153 : decode cX7_debt 153 = .ok (.getfield 80, 3) := by decide +kernel
theorem dX7_debt_156 : decode cX7_debt 156 = .ok (.dup_x1, 1) := by decide +kernel
theorem dX7_debt_157 : decode cX7_debt 157 = .ok (.iconst 1, 1) := by decide +kernel
theorem dX7_debt_158 : decode cX7_debt 158 = .ok (.iadd, 1) := by decide +kernel
theorem dX7_debt_159 : decode cX7_debt 159 = .ok (.putfield 80, 3) := by decide +kernel
theorem dX7_debt_162 : decode cX7_debt 162 = .ok (.ireturn, 1) := by decide +kernel
theorem dX7_debtOf_0 : decode cX7_debtOf 0 = .ok (.aload_n 0, 1) := by decide +kernel
theorem dX7_debtOf_1 : decode cX7_debtOf 1 = .ok (.iload_n 1, 1) := by decide +kernel
theorem dX7_debtOf_2 : decode cX7_debtOf 2 = .ok (.invokevirtual 139, 3) := by decide +kernel
theorem dX7_debtOf_5 : decode cX7_debtOf 5 = .ok (.ifCond .eq 26, 3) := by decide +kernel
theorem dX7_debtOf_8 : decode cX7_debtOf 8 = .ok (.iload_n 2, 1) := by decide +kernel
theorem dX7_debtOf_9 : decode cX7_debtOf 9 = .ok (.i2l, 1) := by decide +kernel
theorem dX7_debtOf_10 : decode cX7_debtOf 10 = .ok (.lconst 0, 1) := by decide +kernel
theorem dX7_debtOf_11 : decode cX7_debtOf 11 = .ok (.ldc2_w 142, 3) := by decide +kernel
theorem dX7_debtOf_14 : decode cX7_debtOf 14 = .ok (.invokestatic 83, 3) := by decide +kernel
theorem dX7_debtOf_17 : decode cX7_debtOf 17 = .ok (.ifCond .eq 14, 3) := by decide +kernel
theorem dX7_debtOf_20 : decode cX7_debtOf 20 = .ok (.aload_n 0, 1) := by decide +kernel
theorem dX7_debtOf_21 : decode cX7_debtOf 21 = .ok (.getfield 42, 3) := by decide +kernel
theorem dX7_debtOf_24 : decode cX7_debtOf 24 = .ok (.iload_n 1, 1) := by decide +kernel
theorem dX7_debtOf_25 : decode cX7_debtOf 25 = .ok (.aaload, 1) := by decide +kernel
theorem dX7_debtOf_26 : decode cX7_debtOf 26 = .ok (.iload_n 2, 1) := by decide +kernel
theorem dX7_debtOf_27 : decode cX7_debtOf 27 = .ok (.iaload, 1) := by decide +kernel
theorem dX7_debtOf_28 : decode cX7_debtOf 28 = .ok (.goto 9, 3) := by decide +kernel
theorem dX7_debtOf_31 : decode cX7_debtOf 31 = .ok (.aload_n 0, 1) := by decide +kernel
theorem dX7_debtOf_32 : decode cX7_debtOf 32 = .ok (.bipush (-2), 2) := by decide +kernel
theorem dX7_debtOf_34 : decode cX7_debtOf 34 = .ok (.invokevirtual 97, 3) := by decide +kernel
theorem dX7_debtOf_37 : decode cX7_debtOf 37 = .ok (.ireturn, 1) := by decide +kernel
theorem dX7_element_0 : decode cX7_element 0 = .ok (.iload_n 1, 1) := by decide +kernel
theorem dX7_element_1 : decode cX7_element 1 = .ok (.i2l, 1) := by decide +kernel
theorem dX7_element_2 : decode cX7_element 2 = .ok (.lconst 0, 1) := by decide +kernel
theorem dX7_element_3 : decode cX7_element 3 = .ok (.ldc2_w 91, 3) := by decide +kernel
theorem dX7_element_6 : decode cX7_element 6 = .ok (.invokestatic 83, 3) := by decide +kernel
theorem dX7_element_9 : decode cX7_element 9 = .ok (.ifCond .eq 42, 3) := by decide +kernel
theorem dX7_element_12 : decode cX7_element 12 = .ok (.aload_n 0, 1) := by decide +kernel
theorem dX7_element_13 : decode cX7_element 13 = .ok (.getfield 7, 3) := by decide +kernel
theorem dX7_element_16 : decode cX7_element 16 = .ok (.iload_n 1, 1) := by decide +kernel
theorem dX7_element_17 : decode cX7_element 17 = .ok (.iaload, 1) := by decide +kernel
theorem dX7_element_18 : decode cX7_element 18 = .ok (.iconst 1, 1) := by decide +kernel
theorem dX7_element_19 : decode cX7_element 19 = .ok (.if_icmp .ne 32, 3) := by decide +kernel
theorem dX7_element_22 : decode cX7_element 22 = .ok (.iload_n 2, 1) := by decide +kernel
theorem dX7_element_23 : decode cX7_element 23 = .ok (.i2l, 1) := by decide +kernel
theorem dX7_element_24 : decode cX7_element 24 = .ok (.lconst 0, 1) := by decide +kernel
theorem dX7_element_25 : decode cX7_element 25 = .ok (.aload_n 0, 1) := by decide +kernel
theorem dX7_element_26 : decode cX7_element 26 = .ok (.getfield 16, 3) := by decide +kernel
theorem dX7_element_29 : decode cX7_element 29 = .ok (.iload_n 1, 1) := by decide +kernel
theorem dX7_element_30 : decode cX7_element 30 = .ok (.iaload, 1) := by decide +kernel
theorem dX7_element_31 : decode cX7_element 31 = .ok (.iconst 1, 1) := by decide +kernel
theorem dX7_element_32 : decode cX7_element 32 = .ok (.isub, 1) := by decide +kernel
theorem dX7_element_33 : decode cX7_element 33 = .ok (.i2l, 1) := by decide +kernel
theorem dX7_element_34 : decode cX7_element 34 = .ok (.invokestatic 83, 3) := by decide +kernel
theorem dX7_element_37 : decode cX7_element 37 = .ok (.ifCond .eq 14, 3) := by decide +kernel
theorem dX7_element_40 : decode cX7_element 40 = .ok (.aload_n 0, 1) := by decide +kernel
theorem dX7_element_41 : decode cX7_element 41 = .ok (.getfield 21, 3) := by decide +kernel
theorem dX7_element_44 : decode cX7_element 44 = .ok (.iload_n 1, 1) := by decide +kernel
theorem dX7_element_45 : decode cX7_element 45 = .ok (.aaload, 1) := by decide +kernel
theorem dX7_element_46 : decode cX7_element 46 = .ok (.iload_n 2, 1) := by decide +kernel
theorem dX7_element_47 : decode cX7_element 47 = .ok (.laload, 1) := by decide +kernel
theorem dX7_element_48 : decode cX7_element 48 = .ok (.goto 4, 3) := by decide +kernel
theorem dX7_element_51 : decode cX7_element 51 = .ok (.lconst 0, 1) := by decide +kernel
theorem dX7_element_52 : decode cX7_element 52 = .ok (.lreturn, 1) := by decide +kernel
theorem dX7_noRule_0 : decode cX7_noRule 0 = .ok (.aload_n 0, 1) := by decide +kernel
theorem dX7_noRule_1 : decode cX7_noRule 1 = .ok (.getfield 7, 3) := by decide +kernel
theorem dX7_noRule_4 : decode cX7_noRule 4 = .ok (.iload_n 1, 1) := by decide +kernel
theorem dX7_noRule_5 : decode cX7_noRule 5 = .ok (.iaload, 1) := by decide +kernel
theorem dX7_noRule_6 : decode cX7_noRule 6 = .ok (.iconst 1, 1) := by decide +kernel
theorem dX7_noRule_7 : decode cX7_noRule 7 = .ok (.if_icmp .ne 10, 3) := by decide +kernel
theorem dX7_noRule_10 : decode cX7_noRule 10 = .ok (.aload_n 0, 1) := by decide +kernel
theorem dX7_noRule_11 : decode cX7_noRule 11 = .ok (.bipush (-3), 2) := by decide +kernel
theorem dX7_noRule_13 : decode cX7_noRule 13 = .ok (.invokevirtual 97, 3) := by decide +kernel
theorem dX7_noRule_16 : decode cX7_noRule 16 = .ok (.ireturn, 1) := by decide +kernel
theorem dX7_noRule_17 : decode cX7_noRule 17 = .ok (.aload_n 0, 1) := by decide +kernel
theorem dX7_noRule_18 : decode cX7_noRule 18 = .ok (.getfield 7, 3) := by decide +kernel
theorem dX7_noRule_21 : decode cX7_noRule 21 = .ok (.iload_n 1, 1) := by decide +kernel
theorem dX7_noRule_22 : decode cX7_noRule 22 = .ok (.iaload, 1) := by decide +kernel
theorem dX7_noRule_23 : decode cX7_noRule 23 = .ok (.ifCond .ne 12, 3) := by decide +kernel
theorem dX7_noRule_26 : decode cX7_noRule 26 = .ok (.aload_n 0, 1) := by decide +kernel
theorem dX7_noRule_27 : decode cX7_noRule 27 = .ok (.bipush (-4), 2) := by decide +kernel
theorem dX7_noRule_29 : decode cX7_noRule 29 = .ok (.invokevirtual 97, 3) := by decide +kernel
theorem dX7_noRule_32 : decode cX7_noRule 32 = .ok (.goto 4, 3) := by decide +kernel
theorem dX7_noRule_35 : decode cX7_noRule 35 = .ok (.iconst 0, 1) := by decide +kernel
theorem dX7_noRule_36 : decode cX7_noRule 36 = .ok (.ireturn, 1) := by decide +kernel
theorem dX7_noRun_0 : decode cX7_noRun 0 = .ok (.iload_n 1, 1) := by decide +kernel
theorem dX7_noRun_1 : decode cX7_noRun 1 = .ok (.i2l, 1) := by decide +kernel
theorem dX7_noRun_2 : decode cX7_noRun 2 = .ok (.lconst 0, 1) := by decide +kernel
theorem dX7_noRun_3 : decode cX7_noRun 3 = .ok (.ldc2_w 91, 3) := by decide +kernel
theorem dX7_noRun_6 : decode cX7_noRun 6 = .ok (.invokestatic 83, 3) := by decide +kernel
theorem dX7_noRun_9 : decode cX7_noRun 9 = .ok (.ifCond .eq 15, 3) := by decide +kernel
theorem dX7_noRun_12 : decode cX7_noRun 12 = .ok (.iload_n 2, 1) := by decide +kernel
theorem dX7_noRun_13 : decode cX7_noRun 13 = .ok (.i2l, 1) := by decide +kernel
theorem dX7_noRun_14 : decode cX7_noRun 14 = .ok (.lconst 1, 1) := by decide +kernel
theorem dX7_noRun_15 : decode cX7_noRun 15 = .ok (.ldc2_w 307, 3) := by decide +kernel
theorem dX7_noRun_18 : decode cX7_noRun 18 = .ok (.invokestatic 83, 3) := by decide +kernel
theorem dX7_noRun_21 : decode cX7_noRun 21 = .ok (.ifCond .ne 10, 3) := by decide +kernel
theorem dX7_noRun_24 : decode cX7_noRun 24 = .ok (.aload_n 0, 1) := by decide +kernel
theorem dX7_noRun_25 : decode cX7_noRun 25 = .ok (.bipush (-2), 2) := by decide +kernel
theorem dX7_noRun_27 : decode cX7_noRun 27 = .ok (.invokevirtual 97, 3) := by decide +kernel
theorem dX7_noRun_30 : decode cX7_noRun 30 = .ok (.ireturn, 1) := by decide +kernel
theorem dX7_noRun_31 : decode cX7_noRun 31 = .ok (.aload_n 0, 1) := by decide +kernel
theorem dX7_noRun_32 : decode cX7_noRun 32 = .ok (.iload_n 1, 1) := by decide +kernel
theorem dX7_noRun_33 : decode cX7_noRun 33 = .ok (.invokevirtual 263, 3) := by decide +kernel
theorem dX7_noRun_36 : decode cX7_noRun 36 = .ok (.ireturn, 1) := by decide +kernel
theorem dX7_isAhead_0 : decode cX7_isAhead 0 = .ok (.iload_n 1, 1) := by decide +kernel
theorem dX7_isAhead_1 : decode cX7_isAhead 1 = .ok (.iconst 2, 1) := by decide +kernel
theorem dX7_isAhead_2 : decode cX7_isAhead 2 = .ok (.if_icmp .eq 14, 3) := by decide +kernel
theorem dX7_isAhead_5 : decode cX7_isAhead 5 = .ok (.iload_n 1, 1) := by decide +kernel
theorem dX7_isAhead_6 : decode cX7_isAhead 6 = .ok (.bipush 6, 2) := by decide +kernel
theorem dX7_isAhead_8 : decode cX7_isAhead 8 = .ok (.if_icmp .eq 8, 3) := by decide +kernel
theorem dX7_isAhead_11 : decode cX7_isAhead 11 = .ok (.iload_n 1, 1) := by decide +kernel
theorem dX7_isAhead_12 : decode cX7_isAhead 12 = .ok (.iconst 5, 1) := by decide +kernel
theorem dX7_isAhead_13 : decode cX7_isAhead 13 = .ok (.if_icmp .ne 28, 3) := by decide +kernel
theorem dX7_isAhead_16 : decode cX7_isAhead 16 = .ok (.aload_n 0, 1) := by decide +kernel
theorem dX7_isAhead_17 : decode cX7_isAhead 17 = .ok (.getfield 42, 3) := by decide +kernel
theorem dX7_isAhead_20 : decode cX7_isAhead 20 = .ok (.iload_n 2, 1) := by decide +kernel
theorem dX7_isAhead_21 : decode cX7_isAhead 21 = .ok (.aaload, 1) := by decide +kernel
theorem dX7_isAhead_22 : decode cX7_isAhead 22 = .ok (.iconst 1, 1) := by decide +kernel
theorem dX7_isAhead_23 : decode cX7_isAhead 23 = .ok (.iaload, 1) := by decide +kernel
theorem dX7_isAhead_24 : decode cX7_isAhead 24 = .ok (.aload_n 0, 1) := by decide +kernel
theorem dX7_isAhead_25 : decode cX7_isAhead 25 = .ok (.getfield 42, 3) := by decide +kernel
theorem dX7_isAhead_28 : decode cX7_isAhead 28 = .ok (.iload_n 3, 1) := by decide +kernel
theorem dX7_isAhead_29 : decode cX7_isAhead 29 = .ok (.aaload, 1) := by decide +kernel
theorem dX7_isAhead_30 : decode cX7_isAhead 30 = .ok (.iconst 1, 1) := by decide +kernel
theorem dX7_isAhead_31 : decode cX7_isAhead 31 = .ok (.iaload, 1) := by decide +kernel
theorem dX7_isAhead_32 : decode cX7_isAhead 32 = .ok (.if_icmp .ge 7, 3) := by decide +kernel
theorem dX7_isAhead_35 : decode cX7_isAhead 35 = .ok (.iconst 1, 1) := by decide +kernel
theorem dX7_isAhead_36 : decode cX7_isAhead 36 = .ok (.goto 4, 3) := by decide +kernel
theorem dX7_isAhead_39 : decode cX7_isAhead 39 = .ok (.iconst 0, 1) := by decide +kernel
theorem dX7_isAhead_40 : decode cX7_isAhead 40 = .ok (.ireturn, 1) := by decide +kernel
theorem dX7_isAhead_41 : decode cX7_isAhead 41 = .ok (.iload_n 1, 1) := by decide +kernel
theorem dX7_isAhead_42 : decode cX7_isAhead 42 = .ok (.iconst 3, 1) := by decide +kernel
theorem dX7_isAhead_43 : decode cX7_isAhead 43 = .ok (.if_icmp .ne 57, 3) := by decide +kernel
theorem dX7_isAhead_46 : decode cX7_isAhead 46 = .ok (.aload_n 0, 1) := by decide +kernel
theorem dX7_isAhead_47 : decode cX7_isAhead 47 = .ok (.iload_n 2, 1) := by decide +kernel
theorem dX7_isAhead_48 : decode cX7_isAhead 48 = .ok (.invokevirtual 248, 3) := by decide +kernel
theorem dX7_isAhead_51 : decode cX7_isAhead 51 = .ok (.aload_n 0, 1) := by decide +kernel
theorem dX7_isAhead_52 : decode cX7_isAhead 52 = .ok (.getfield 42, 3) := by decide +kernel
theorem dX7_isAhead_55 : decode cX7_isAhead 55 = .ok (.iload_n 2, 1) := by decide +kernel
theorem dX7_isAhead_56 : decode cX7_isAhead 56 = .ok (.aaload, 1) := by decide +kernel
theorem dX7_isAhead_57 : decode cX7_isAhead 57 = .ok (.bipush 6, 2) := by decide +kernel
theorem dX7_isAhead_59 : decode cX7_isAhead 59 = .ok (.iaload, 1) := by decide +kernel
theorem dX7_isAhead_60 : decode cX7_isAhead 60 = .ok (.isub, 1) := by decide +kernel
theorem dX7_isAhead_61 : decode cX7_isAhead 61 = .ok (.istore 4, 2) := by decide +kernel
theorem dX7_isAhead_63 : decode cX7_isAhead 63 = .ok (.aload_n 0, 1) := by decide +kernel
theorem dX7_isAhead_64 : decode cX7_isAhead 64 = .ok (.iload_n 3, 1) := by decide +kernel
theorem dX7_isAhead_65 : decode cX7_isAhead 65 = .ok (.invokevirtual 248, 3) := by decide +kernel
theorem dX7_isAhead_68 : decode cX7_isAhead 68 = .ok (.aload_n 0, 1) := by decide +kernel
theorem dX7_isAhead_69 : decode cX7_isAhead 69 = .ok (.getfield 42, 3) := by decide +kernel
theorem dX7_isAhead_72 : decode cX7_isAhead 72 = .ok (.iload_n 3, 1) := by decide +kernel
theorem dX7_isAhead_73 : decode cX7_isAhead 73 = .ok (.aaload, 1) := by decide +kernel
theorem dX7_isAhead_74 : decode cX7_isAhead 74 = .ok (.bipush 6, 2) := by decide +kernel
theorem dX7_isAhead_76 : decode cX7_isAhead 76 = .ok (.iaload, 1) := by decide +kernel
theorem dX7_isAhead_77 : decode cX7_isAhead 77 = .ok (.isub, 1) := by decide +kernel
theorem dX7_isAhead_78 : decode cX7_isAhead 78 = .ok (.istore 5, 2) := by decide +kernel
theorem dX7_isAhead_80 : decode cX7_isAhead 80 = .ok (.iload 4, 2) := by decide +kernel
theorem dX7_isAhead_82 : decode cX7_isAhead 82 = .ok (.iload 5, 2) := by decide +kernel
theorem dX7_isAhead_84 : decode cX7_isAhead 84 = .ok (.if_icmp .eq 16, 3) := by decide +kernel
theorem dX7_isAhead_87 : decode cX7_isAhead 87 = .ok (.iload 4, 2) := by decide +kernel
theorem dX7_isAhead_89 : decode cX7_isAhead 89 = .ok (.iload 5, 2) := by decide +kernel
theorem dX7_isAhead_91 : decode cX7_isAhead 91 = .ok (.if_icmp .ge 7, 3) := by decide +kernel
theorem dX7_isAhead_94 : decode cX7_isAhead 94 = .ok (.iconst 1, 1) := by decide +kernel
theorem dX7_isAhead_95 : decode cX7_isAhead 95 = .ok (.goto 4, 3) := by decide +kernel
theorem dX7_isAhead_98 : decode cX7_isAhead 98 = .ok (.iconst 0, 1) := by decide +kernel
theorem dX7_isAhead_99 : decode cX7_isAhead 99 = .ok (.ireturn, 1) := by decide +kernel
theorem dX7_isAhead_100 : decode cX7_isAhead 100 = .ok (.aload_n 0, 1) := by decide +kernel
theorem dX7_isAhead_101 : decode cX7_isAhead 101 = .ok (.iload_n 2, 1) := by decide +kernel
theorem dX7_isAhead_102 : decode cX7_isAhead 102 = .ok (.iconst 0, 1) := by decide +kernel
theorem dX7_isAhead_103 : decode cX7_isAhead 103 = .ok (.invokevirtual 256, 3) := by decide +kernel
theorem dX7_isAhead_106 : decode cX7_isAhead 106 = .ok (.aload_n 0, 1) := by decide +kernel
theorem dX7_isAhead_107 : decode cX7_isAhead 107 = .ok (.iload_n 3, 1) := by decide +kernel
theorem dX7_isAhead_108 : decode cX7_isAhead 108 = .ok (.iconst 0, 1) := by decide +kernel
theorem dX7_isAhead_109 : decode cX7_isAhead 109 = .ok (.invokevirtual 256, 3) := by decide +kernel
theorem dX7_isAhead_112 : decode cX7_isAhead 112 = .ok (.if_icmp .le 7, 3) := by decide +kernel
theorem dX7_isAhead_115 : decode cX7_isAhead 115 = .ok (.iconst 1, 1) := by decide +kernel
theorem dX7_isAhead_116 : decode cX7_isAhead 116 = .ok (.goto 4, 3) := by decide +kernel
theorem dX7_isAhead_119 : decode cX7_isAhead 119 = .ok (.iconst 0, 1) := by decide +kernel
theorem dX7_isAhead_120 : decode cX7_isAhead 120 = .ok (.ireturn, 1) := by decide +kernel
theorem dX7_firstBy_0 : decode cX7_firstBy 0 = .ok (.iconst (-1), 1) := by decide +kernel
theorem dX7_firstBy_1 : decode cX7_firstBy 1 = .ok (.istore_n 3, 1) := by decide +kernel
theorem dX7_firstBy_2 : decode cX7_firstBy 2 = .ok (.iconst 0, 1) := by decide +kernel
theorem dX7_firstBy_3 : decode cX7_firstBy 3 = .ok (.istore 4, 2) := by decide +kernel
theorem dX7_firstBy_5 : decode cX7_firstBy 5 = .ok (.iload 4, 2) := by decide +kernel
theorem dX7_firstBy_7 : decode cX7_firstBy 7 = .ok (.aload_n 0, 1) := by decide +kernel
theorem dX7_firstBy_8 : decode cX7_firstBy 8 = .ok (.getfield 80, 3) := by decide +kernel
theorem dX7_firstBy_11 : decode cX7_firstBy 11 = .ok (.if_icmp .ge 46, 3) := by decide +kernel
theorem dX7_firstBy_14 : decode cX7_firstBy 14 = .ok (.aload_n 0, 1) := by decide +kernel
theorem dX7_firstBy_15 : decode cX7_firstBy 15 = .ok (.iload 4, 2) := by decide +kernel
theorem dX7_firstBy_17 : decode cX7_firstBy 17 = .ok (.invokevirtual 87, 3) := by decide +kernel
theorem dX7_firstBy_20 : decode cX7_firstBy 20 = .ok (.ifCond .eq 31, 3) := by decide +kernel
theorem dX7_firstBy_23 : decode cX7_firstBy 23 = .ok (.iload_n 2, 1) := by decide +kernel
theorem dX7_firstBy_24 : decode cX7_firstBy 24 = .ok (.iload 4, 2) := by decide +kernel
theorem dX7_firstBy_26 : decode cX7_firstBy 26 = .ok (.ishr, 1) := by decide +kernel
theorem dX7_firstBy_27 : decode cX7_firstBy 27 = .ok (.iconst 1, 1) := by decide +kernel
theorem dX7_firstBy_28 : decode cX7_firstBy 28 = .ok (.iand, 1) := by decide +kernel
theorem dX7_firstBy_29 : decode cX7_firstBy 29 = .ok (.ifCond .ne 22, 3) := by decide +kernel
theorem dX7_firstBy_32 : decode cX7_firstBy 32 = .ok (.iload_n 3, 1) := by decide +kernel
theorem dX7_firstBy_33 : decode cX7_firstBy 33 = .ok (.iconst (-1), 1) := by decide +kernel
theorem dX7_firstBy_34 : decode cX7_firstBy 34 = .ok (.if_icmp .eq 14, 3) := by decide +kernel
theorem dX7_firstBy_37 : decode cX7_firstBy 37 = .ok (.aload_n 0, 1) := by decide +kernel
theorem dX7_firstBy_38 : decode cX7_firstBy 38 = .ok (.iload_n 1, 1) := by decide +kernel
theorem dX7_firstBy_39 : decode cX7_firstBy 39 = .ok (.iload 4, 2) := by decide +kernel
theorem dX7_firstBy_41 : decode cX7_firstBy 41 = .ok (.iload_n 3, 1) := by decide +kernel
theorem dX7_firstBy_42 : decode cX7_firstBy 42 = .ok (.invokevirtual 259, 3) := by decide +kernel
theorem dX7_firstBy_45 : decode cX7_firstBy 45 = .ok (.ifCond .eq 6, 3) := by decide +kernel
theorem dX7_firstBy_48 : decode cX7_firstBy 48 = .ok (.iload 4, 2) := by decide +kernel
theorem dX7_firstBy_50 : decode cX7_firstBy 50 = .ok (.istore_n 3, 1) := by decide +kernel
theorem dX7_firstBy_51 : decode cX7_firstBy 51 = .ok (.iinc 4 1, 3) := by decide +kernel
theorem dX7_firstBy_54 : decode cX7_firstBy 54 = .ok (.goto (-49), 3) := by decide +kernel
theorem dX7_firstBy_57 : decode cX7_firstBy 57 = .ok (.iload_n 3, 1) := by decide +kernel
theorem dX7_firstBy_58 : decode cX7_firstBy 58 = .ok (.ireturn, 1) := by decide +kernel
theorem dX7_findPays_0 : decode cX7_findPays 0 = .ok (.aload_n 0, 1) := by decide +kernel
theorem dX7_findPays_1 : decode cX7_findPays 1 = .ok (.invokevirtual 117, 3) := by decide +kernel
theorem dX7_findPays_4 : decode cX7_findPays 4 = .ok (.istore_n 3, 1) := by decide +kernel
theorem dX7_findPays_5 : decode cX7_findPays 5 = .ok (.aload_n 0, 1) := by decide +kernel
theorem dX7_findPays_6 : decode cX7_findPays 6 = .ok (.invokevirtual 113, 3) := by decide +kernel
theorem dX7_findPays_9 : decode cX7_findPays 9 = .ok (.istore 4, 2) := by decide +kernel
theorem dX7_findPays_11 : decode cX7_findPays 11 = .ok (.iload 4, 2) := by decide +kernel
theorem dX7_findPays_13 : decode cX7_findPays 13 = .ok (.ifCond .ne 7, 3) := by decide +kernel
theorem dX7_findPays_16 : decode cX7_findPays 16 = .ok (.iconst 0, 1) := by decide +kernel
theorem dX7_findPays_17 : decode cX7_findPays 17 = .ok (.goto 7, 3) := by decide +kernel
theorem dX7_findPays_20 : decode cX7_findPays 20 = .ok (.iload_n 3, 1) := by decide +kernel
theorem dX7_findPays_21 : decode cX7_findPays 21 = .ok (.iload 4, 2) := by decide +kernel
theorem dX7_findPays_23 : decode cX7_findPays 23 = .ok (.idiv, 1) := by decide +kernel
theorem dX7_findPays_24 : decode cX7_findPays 24 = .ok (.istore 5, 2) := by decide +kernel
theorem dX7_findPays_26 : decode cX7_findPays 26 = .ok (.iconst 0, 1) := by decide +kernel
theorem dX7_findPays_27 : decode cX7_findPays 27 = .ok (.istore 6, 2) := by decide +kernel
theorem dX7_findPays_29 : decode cX7_findPays 29 = .ok (.iload 6, 2) := by decide +kernel
theorem dX7_findPays_31 : decode cX7_findPays 31 = .ok (.aload_n 0, 1) := by decide +kernel
theorem dX7_findPays_32 : decode cX7_findPays 32 = .ok (.getfield 80, 3) := by decide +kernel
theorem dX7_findPays_35 : decode cX7_findPays 35 = .ok (.if_icmp .ge 143, 3) := by decide +kernel
theorem dX7_findPays_38 : decode cX7_findPays 38 = .ok (.aload_n 0, 1) := by decide +kernel
theorem dX7_findPays_39 : decode cX7_findPays 39 = .ok (.getfield 64, 3) := by decide +kernel
theorem dX7_findPays_42 : decode cX7_findPays 42 = .ok (.iload 6, 2) := by decide +kernel
theorem dX7_findPays_44 : decode cX7_findPays 44 = .ok (.iconst 0, 1) := by decide +kernel
theorem dX7_findPays_45 : decode cX7_findPays 45 = .ok (.iastore, 1) := by decide +kernel
theorem dX7_findPays_46 : decode cX7_findPays 46 = .ok (.iload_n 1, 1) := by decide +kernel
theorem dX7_findPays_47 : decode cX7_findPays 47 = .ok (.iconst 4, 1) := by decide +kernel
theorem dX7_findPays_48 : decode cX7_findPays 48 = .ok (.if_icmp .ne 38, 3) := by decide +kernel
theorem dX7_findPays_51 : decode cX7_findPays 51 = .ok (.aload_n 0, 1) := by decide +kernel
theorem dX7_findPays_52 : decode cX7_findPays 52 = .ok (.getfield 64, 3) := by decide +kernel
theorem dX7_findPays_55 : decode cX7_findPays 55 = .ok (.iload 6, 2) := by decide +kernel
theorem dX7_findPays_57 : decode cX7_findPays 57 = .ok (.iload 5, 2) := by decide +kernel
theorem dX7_findPays_59 : decode cX7_findPays 59 = .ok (.aload_n 0, 1) := by decide +kernel
theorem dX7_findPays_60 : decode cX7_findPays 60 = .ok (.getfield 42, 3) := by decide +kernel
theorem dX7_findPays_63 : decode cX7_findPays 63 = .ok (.iload 6, 2) := by decide +kernel
theorem dX7_findPays_65 : decode cX7_findPays 65 = .ok (.aaload, 1) := by decide +kernel
theorem dX7_findPays_66 : decode cX7_findPays 66 = .ok (.iconst 1, 1) := by decide +kernel
theorem dX7_findPays_67 : decode cX7_findPays 67 = .ok (.iaload, 1) := by decide +kernel
theorem dX7_findPays_68 : decode cX7_findPays 68 = .ok (.if_icmp .ge 8, 3) := by decide +kernel
theorem dX7_findPays_71 : decode cX7_findPays 71 = .ok (.iload 5, 2) := by decide +kernel
theorem dX7_findPays_73 : decode cX7_findPays 73 = .ok (.goto 12, 3) := by decide +kernel
theorem dX7_findPays_76 : decode cX7_findPays 76 = .ok (.aload_n 0, 1) := by decide +kernel
theorem dX7_findPays_77 : decode cX7_findPays 77 = .ok (.getfield 42, 3) := by decide +kernel
theorem dX7_findPays_80 : decode cX7_findPays 80 = .ok (.iload 6, 2) := by decide +kernel
theorem dX7_findPays_82 : decode cX7_findPays 82 = .ok (.aaload, 1) := by decide +kernel
theorem dX7_findPays_83 : decode cX7_findPays 83 = .ok (.iconst 1, 1) := by decide +kernel
theorem dX7_findPays_84 : decode cX7_findPays 84 = .ok (.iaload, 1) := by decide +kernel
theorem dX7_findPays_85 : decode cX7_findPays 85 = .ok (.iastore, 1) := by decide +kernel
theorem dX7_findPays_86 : decode cX7_findPays 86 = .ok (.iload_n 1, 1) := by decide +kernel
theorem dX7_findPays_87 : decode cX7_findPays 87 = .ok (.iconst 5, 1) := by decide +kernel
theorem dX7_findPays_88 : decode cX7_findPays 88 = .ok (.if_icmp .ne 84, 3) := by decide +kernel
theorem dX7_findPays_91 : decode cX7_findPays 91 = .ok (.aload_n 0, 1) := by decide +kernel
theorem dX7_findPays_92 : decode cX7_findPays 92 = .ok (.iload 6, 2) := by decide +kernel
theorem dX7_findPays_94 : decode cX7_findPays 94 = .ok (.invokevirtual 87, 3) := by decide +kernel
theorem dX7_findPays_97 : decode cX7_findPays 97 = .ok (.ifCond .eq 75, 3) := by decide +kernel
theorem dX7_findPays_100 : decode cX7_findPays 100 = .ok (.aload_n 0, 1) := by decide +kernel
theorem dX7_findPays_101 : decode cX7_findPays 101 = .ok (.getfield 42, 3) := by decide +kernel
theorem dX7_findPays_104 : decode cX7_findPays 104 = .ok (.iload 6, 2) := by decide +kernel
theorem dX7_findPays_106 : decode cX7_findPays 106 = .ok (.aaload, 1) := by decide +kernel
theorem dX7_findPays_107 : decode cX7_findPays 107 = .ok (.iconst 5, 1) := by decide +kernel
theorem dX7_findPays_108 : decode cX7_findPays 108 = .ok (.iaload, 1) := by decide +kernel
theorem dX7_findPays_109 : decode cX7_findPays 109 = .ok (.aload_n 0, 1) := by decide +kernel
theorem dX7_findPays_110 : decode cX7_findPays 110 = .ok (.getfield 42, 3) := by decide +kernel
theorem dX7_findPays_113 : decode cX7_findPays 113 = .ok (.iload 6, 2) := by decide +kernel
theorem dX7_findPays_115 : decode cX7_findPays 115 = .ok (.aaload, 1) := by decide +kernel
theorem dX7_findPays_116 : decode cX7_findPays 116 = .ok (.iconst 1, 1) := by decide +kernel
theorem dX7_findPays_117 : decode cX7_findPays 117 = .ok (.iaload, 1) := by decide +kernel
theorem dX7_findPays_118 : decode cX7_findPays 118 = .ok (.if_icmp .ge 15, 3) := by decide +kernel
theorem dX7_findPays_121 : decode cX7_findPays 121 = .ok (.aload_n 0, 1) := by decide +kernel
theorem dX7_findPays_122 : decode cX7_findPays 122 = .ok (.getfield 42, 3) := by decide +kernel
theorem dX7_findPays_125 : decode cX7_findPays 125 = .ok (.iload 6, 2) := by decide +kernel
theorem dX7_findPays_127 : decode cX7_findPays 127 = .ok (.aaload, 1) := by decide +kernel
theorem dX7_findPays_128 : decode cX7_findPays 128 = .ok (.iconst 5, 1) := by decide +kernel
theorem dX7_findPays_129 : decode cX7_findPays 129 = .ok (.iaload, 1) := by decide +kernel
theorem dX7_findPays_130 : decode cX7_findPays 130 = .ok (.goto 12, 3) := by decide +kernel
theorem dX7_findPays_133 : decode cX7_findPays 133 = .ok (.aload_n 0, 1) := by decide +kernel
theorem dX7_findPays_134 : decode cX7_findPays 134 = .ok (.getfield 42, 3) := by decide +kernel
theorem dX7_findPays_137 : decode cX7_findPays 137 = .ok (.iload 6, 2) := by decide +kernel
theorem dX7_findPays_139 : decode cX7_findPays 139 = .ok (.aaload, 1) := by decide +kernel
theorem dX7_findPays_140 : decode cX7_findPays 140 = .ok (.iconst 1, 1) := by decide +kernel
theorem dX7_findPays_141 : decode cX7_findPays 141 = .ok (.iaload, 1) := by decide +kernel
theorem dX7_findPays_142 : decode cX7_findPays 142 = .ok (.istore 7, 2) := by decide +kernel
theorem dX7_findPays_144 : decode cX7_findPays 144 = .ok (.iload 7, 2) := by decide +kernel
theorem dX7_findPays_146 : decode cX7_findPays 146 = .ok (.iload_n 3, 1) := by decide +kernel
theorem dX7_findPays_147 : decode cX7_findPays 147 = .ok (.if_icmp .ge 8, 3) := by decide +kernel
theorem dX7_findPays_150 : decode cX7_findPays 150 = .ok (.iload 7, 2) := by decide +kernel
theorem dX7_findPays_152 : decode cX7_findPays 152 = .ok (.goto 4, 3) := by decide +kernel
theorem dX7_findPays_155 : decode cX7_findPays 155 = .ok (.iload_n 3, 1) := by decide +kernel
theorem dX7_findPays_156 : decode cX7_findPays 156 = .ok (.istore 7, 2) := by decide +kernel
theorem dX7_findPays_158 : decode cX7_findPays 158 = .ok (.aload_n 0, 1) := by decide +kernel
theorem dX7_findPays_159 : decode cX7_findPays 159 = .ok (.getfield 64, 3) := by decide +kernel
theorem dX7_findPays_162 : decode cX7_findPays 162 = .ok (.iload 6, 2) := by decide +kernel
theorem dX7_findPays_164 : decode cX7_findPays 164 = .ok (.iload 7, 2) := by decide +kernel
theorem dX7_findPays_166 : decode cX7_findPays 166 = .ok (.iastore, 1) := by decide +kernel
theorem dX7_findPays_167 : decode cX7_findPays 167 = .ok (.iload_n 3, 1) := by decide +kernel
theorem dX7_findPays_168 : decode cX7_findPays 168 = .ok (.iload 7, 2) := by decide +kernel
theorem dX7_findPays_170 : decode cX7_findPays 170 = .ok (.isub, 1) := by decide +kernel
theorem dX7_findPays_171 : decode cX7_findPays 171 = .ok (.istore_n 3, 1) := by decide +kernel
theorem dX7_findPays_172 : decode cX7_findPays 172 = .ok (.iinc 6 1, 3) := by decide +kernel
theorem dX7_findPays_175 : decode cX7_findPays 175 = .ok (.goto (-146), 3) := by decide +kernel
theorem dX7_findPays_178 : decode cX7_findPays 178 = .ok (.iload_n 1, 1) := by decide +kernel
theorem dX7_findPays_179 : decode cX7_findPays 179 = .ok (.iconst 4, 1) := by decide +kernel
theorem dX7_findPays_180 : decode cX7_findPays 180 = .ok (.if_icmp .ne 4, 3) := by decide +kernel
theorem dX7_findPays_183 : decode cX7_findPays 183 = .ok (.return_, 1) := by decide +kernel
theorem dX7_findPays_184 : decode cX7_findPays 184 = .ok (.iload_n 1, 1) := by decide +kernel
theorem dX7_findPays_185 : decode cX7_findPays 185 = .ok (.bipush 6, 2) := by decide +kernel
theorem dX7_findPays_187 : decode cX7_findPays 187 = .ok (.if_icmp .ne 18, 3) := by decide +kernel
theorem dX7_findPays_190 : decode cX7_findPays 190 = .ok (.iload_n 3, 1) := by decide +kernel
theorem dX7_findPays_191 : decode cX7_findPays 191 = .ok (.iload_n 2, 1) := by decide +kernel
theorem dX7_findPays_192 : decode cX7_findPays 192 = .ok (.if_icmp .le 9, 3) := by decide +kernel
theorem dX7_findPays_195 : decode cX7_findPays 195 = .ok (.iload_n 3, 1) := by decide +kernel
theorem dX7_findPays_196 : decode cX7_findPays 196 = .ok (.iload_n 2, 1) := by decide +kernel
theorem dX7_findPays_197 : decode cX7_findPays 197 = .ok (.isub, 1) := by decide +kernel
theorem dX7_findPays_198 : decode cX7_findPays 198 = .ok (.goto 8, 3) := by decide +kernel
theorem dX7_findPays_201 : decode cX7_findPays 201 = .ok (.iconst 0, 1) := by decide +kernel
theorem dX7_findPays_202 : decode cX7_findPays 202 = .ok (.goto 4, 3) := by decide +kernel
theorem dX7_findPays_205 : decode cX7_findPays 205 = .ok (.iload_n 3, 1) := by decide +kernel
theorem dX7_findPays_206 : decode cX7_findPays 206 = .ok (.istore_n 3, 1) := by decide +kernel
theorem dX7_findPays_207 : decode cX7_findPays 207 = .ok (.iconst 0, 1) := by decide +kernel
theorem dX7_findPays_208 : decode cX7_findPays 208 = .ok (.istore 6, 2) := by decide +kernel
theorem dX7_findPays_210 : decode cX7_findPays 210 = .ok (.iconst 0, 1) := by decide +kernel
theorem dX7_findPays_211 : decode cX7_findPays 211 = .ok (.istore 7, 2) := by decide +kernel
theorem dX7_findPays_213 : decode cX7_findPays 213 = .ok (.iload 7, 2) := by decide +kernel
theorem dX7_findPays_215 : decode cX7_findPays 215 = .ok (.iload 4, 2) := by decide +kernel
theorem dX7_findPays_217 : decode cX7_findPays 217 = .ok (.if_icmp .ge 77, 3) := by decide +kernel
theorem dX7_findPays_220 : decode cX7_findPays 220 = .ok (.aload_n 0, 1) := by decide +kernel
theorem dX7_findPays_221 : decode cX7_findPays 221 = .ok (.iload_n 1, 1) := by decide +kernel
theorem dX7_findPays_222 : decode cX7_findPays 222 = .ok (.iload 6, 2) := by decide +kernel
theorem dX7_findPays_224 : decode cX7_findPays 224 = .ok (.invokevirtual 120, 3) := by decide +kernel
theorem dX7_findPays_227 : decode cX7_findPays 227 = .ok (.istore 8, 2) := by decide +kernel
theorem dX7_findPays_229 : decode cX7_findPays 229 = .ok (.iload 6, 2) := by decide +kernel
theorem dX7_findPays_231 : decode cX7_findPays 231 = .ok (.iconst 1, 1) := by decide +kernel
theorem dX7_findPays_232 : decode cX7_findPays 232 = .ok (.iload 8, 2) := by decide +kernel
theorem dX7_findPays_234 : decode cX7_findPays 234 = .ok (.ishl, 1) := by decide +kernel
theorem dX7_findPays_235 : decode cX7_findPays 235 = .ok (.ior, 1) := by decide +kernel
theorem dX7_findPays_236 : decode cX7_findPays 236 = .ok (.istore 6, 2) := by decide +kernel
theorem dX7_findPays_238 : decode cX7_findPays 238 = .ok (.aload_n 0, 1) := by decide +kernel
theorem dX7_findPays_239 : decode cX7_findPays 239 = .ok (.getfield 42, 3) := by decide +kernel
theorem dX7_findPays_242 : decode cX7_findPays 242 = .ok (.iload 8, 2) := by decide +kernel
theorem dX7_findPays_244 : decode cX7_findPays 244 = .ok (.aaload, 1) := by decide +kernel
theorem dX7_findPays_245 : decode cX7_findPays 245 = .ok (.iconst 1, 1) := by decide +kernel
theorem dX7_findPays_246 : decode cX7_findPays 246 = .ok (.iaload, 1) := by decide +kernel
theorem dX7_findPays_247 : decode cX7_findPays 247 = .ok (.aload_n 0, 1) := by decide +kernel
theorem dX7_findPays_248 : decode cX7_findPays 248 = .ok (.getfield 64, 3) := by decide +kernel
theorem dX7_findPays_251 : decode cX7_findPays 251 = .ok (.iload 8, 2) := by decide +kernel
theorem dX7_findPays_253 : decode cX7_findPays 253 = .ok (.iaload, 1) := by decide +kernel
theorem dX7_findPays_254 : decode cX7_findPays 254 = .ok (.isub, 1) := by decide +kernel
theorem dX7_findPays_255 : decode cX7_findPays 255 = .ok (.istore 9, 2) := by decide +kernel
theorem dX7_findPays_257 : decode cX7_findPays 257 = .ok (.iload 9, 2) := by decide +kernel
theorem dX7_findPays_259 : decode cX7_findPays 259 = .ok (.iload_n 3, 1) := by decide +kernel
theorem dX7_findPays_260 : decode cX7_findPays 260 = .ok (.if_icmp .ge 8, 3) := by decide +kernel
theorem dX7_findPays_263 : decode cX7_findPays 263 = .ok (.iload 9, 2) := by decide +kernel
theorem dX7_findPays_265 : decode cX7_findPays 265 = .ok (.goto 4, 3) := by decide +kernel
theorem dX7_findPays_268 : decode cX7_findPays 268 = .ok (.iload_n 3, 1) := by decide +kernel
theorem dX7_findPays_269 : decode cX7_findPays 269 = .ok (.istore 9, 2) := by decide +kernel
theorem dX7_findPays_271 : decode cX7_findPays 271 = .ok (.aload_n 0, 1) := by decide +kernel
theorem dX7_findPays_272 : decode cX7_findPays 272 = .ok (.getfield 64, 3) := by decide +kernel
theorem dX7_findPays_275 : decode cX7_findPays 275 = .ok (.iload 8, 2) := by decide +kernel
theorem dX7_findPays_277 : decode cX7_findPays 277 = .ok (.dup2, 1) := by decide +kernel
theorem dX7_findPays_278 : decode cX7_findPays 278 = .ok (.iaload, 1) := by decide +kernel
theorem dX7_findPays_279 : decode cX7_findPays 279 = .ok (.iload 9, 2) := by decide +kernel
theorem dX7_findPays_281 : decode cX7_findPays 281 = .ok (.iadd, 1) := by decide +kernel
theorem dX7_findPays_282 : decode cX7_findPays 282 = .ok (.iastore, 1) := by decide +kernel
theorem dX7_findPays_283 : decode cX7_findPays 283 = .ok (.iload_n 3, 1) := by decide +kernel
theorem dX7_findPays_284 : decode cX7_findPays 284 = .ok (.iload 9, 2) := by decide +kernel
theorem dX7_findPays_286 : decode cX7_findPays 286 = .ok (.isub, 1) := by decide +kernel
theorem dX7_findPays_287 : decode cX7_findPays 287 = .ok (.istore_n 3, 1) := by decide +kernel
theorem dX7_findPays_288 : decode cX7_findPays 288 = .ok (.iinc 7 1, 3) := by decide +kernel
theorem dX7_findPays_291 : decode cX7_findPays 291 = .ok (.goto (-78), 3) := by decide +kernel
theorem dX7_findPays_294 : decode cX7_findPays 294 = .ok (.return_, 1) := by decide +kernel
theorem dX7_runs_0 : decode cX7_runs 0 = .ok (.aload_n 0, 1) := by decide +kernel
theorem dX7_runs_1 : decode cX7_runs 1 = .ok (.iconst 0, 1) := by decide +kernel
theorem dX7_runs_2 : decode cX7_runs 2 = .ok (.putfield 290, 3) := by decide +kernel
theorem dX7_runs_5 : decode cX7_runs 5 = .ok (.aload_n 0, 1) := by decide +kernel
theorem dX7_runs_6 : decode cX7_runs 6 = .ok (.aload_n 0, 1) := by decide +kernel
theorem dX7_runs_7 : decode cX7_runs 7 = .ok (.invokevirtual 113, 3) := by decide +kernel
theorem dX7_runs_10 : decode cX7_runs 10 = .ok (.ifCond .ne 7, 3) := by decide +kernel
theorem dX7_runs_13 : decode cX7_runs 13 = .ok (.iconst 0, 1) := by decide +kernel
theorem dX7_runs_14 : decode cX7_runs 14 = .ok (.goto 4, 3) := by decide +kernel
theorem dX7_runs_17 : decode cX7_runs 17 = .ok (.iconst (-1), 1) := by decide +kernel
theorem dX7_runs_18 : decode cX7_runs 18 = .ok (.putfield 293, 3) := by decide +kernel
theorem dX7_runs_21 : decode cX7_runs 21 = .ok (.iconst 0, 1) := by decide +kernel
theorem dX7_runs_22 : decode cX7_runs 22 = .ok (.istore 4, 2) := by decide +kernel
theorem dX7_runs_24 : decode cX7_runs 24 = .ok (.iload 4, 2) := by decide +kernel
theorem dX7_runs_26 : decode cX7_runs 26 = .ok (.aload_n 0, 1) := by decide +kernel
theorem dX7_runs_27 : decode cX7_runs 27 = .ok (.getfield 80, 3) := by decide +kernel
theorem dX7_runs_30 : decode cX7_runs 30 = .ok (.if_icmp .ge 17, 3) := by decide +kernel
theorem dX7_runs_33 : decode cX7_runs 33 = .ok (.aload_n 0, 1) := by decide +kernel
theorem dX7_runs_34 : decode cX7_runs 34 = .ok (.getfield 67, 3) := by decide +kernel
theorem dX7_runs_37 : decode cX7_runs 37 = .ok (.iload 4, 2) := by decide +kernel
theorem dX7_runs_39 : decode cX7_runs 39 = .ok (.iconst 0, 1) := by decide +kernel
theorem dX7_runs_40 : decode cX7_runs 40 = .ok (.iastore, 1) := by decide +kernel
theorem dX7_runs_41 : decode cX7_runs 41 = .ok (.iinc 4 1, 3) := by decide +kernel
theorem dX7_runs_44 : decode cX7_runs 44 = .ok (.goto (-20), 3) := by decide +kernel
theorem dX7_runs_47 : decode cX7_runs 47 = .ok (.iconst 1, 1) := by decide +kernel
theorem dX7_runs_48 : decode cX7_runs 48 = .ok (.istore 4, 2) := by decide +kernel
theorem dX7_runs_50 : decode cX7_runs 50 = .ok (.iload 4, 2) := by decide +kernel
theorem dX7_runs_52 : decode cX7_runs 52 = .ok (.iload_n 3, 1) := by decide +kernel
theorem dX7_runs_53 : decode cX7_runs 53 = .ok (.if_icmp .gt 92, 3) := by decide +kernel
theorem dX7_runs_56 : decode cX7_runs 56 = .ok (.aload_n 0, 1) := by decide +kernel
theorem dX7_runs_57 : decode cX7_runs 57 = .ok (.iload_n 1, 1) := by decide +kernel
theorem dX7_runs_58 : decode cX7_runs 58 = .ok (.iload_n 2, 1) := by decide +kernel
theorem dX7_runs_59 : decode cX7_runs 59 = .ok (.invokevirtual 266, 3) := by decide +kernel
theorem dX7_runs_62 : decode cX7_runs 62 = .ok (.iconst 0, 1) := by decide +kernel
theorem dX7_runs_63 : decode cX7_runs 63 = .ok (.istore 5, 2) := by decide +kernel
theorem dX7_runs_65 : decode cX7_runs 65 = .ok (.iload 5, 2) := by decide +kernel
theorem dX7_runs_67 : decode cX7_runs 67 = .ok (.aload_n 0, 1) := by decide +kernel
theorem dX7_runs_68 : decode cX7_runs 68 = .ok (.getfield 80, 3) := by decide +kernel
theorem dX7_runs_71 : decode cX7_runs 71 = .ok (.if_icmp .ge 26, 3) := by decide +kernel
theorem dX7_runs_74 : decode cX7_runs 74 = .ok (.aload_n 0, 1) := by decide +kernel
theorem dX7_runs_75 : decode cX7_runs 75 = .ok (.getfield 67, 3) := by decide +kernel
theorem dX7_runs_78 : decode cX7_runs 78 = .ok (.iload 5, 2) := by decide +kernel
theorem dX7_runs_80 : decode cX7_runs 80 = .ok (.dup2, 1) := by decide +kernel
theorem dX7_runs_81 : decode cX7_runs 81 = .ok (.iaload, 1) := by decide +kernel
theorem dX7_runs_82 : decode cX7_runs 82 = .ok (.aload_n 0, 1) := by decide +kernel
theorem dX7_runs_83 : decode cX7_runs 83 = .ok (.getfield 64, 3) := by decide +kernel
theorem dX7_runs_86 : decode cX7_runs 86 = .ok (.iload 5, 2) := by decide +kernel
theorem dX7_runs_88 : decode cX7_runs 88 = .ok (.iaload, 1) := by decide +kernel
theorem dX7_runs_89 : decode cX7_runs 89 = .ok (.iadd, 1) := by decide +kernel
theorem dX7_runs_90 : decode cX7_runs 90 = .ok (.iastore, 1) := by decide +kernel
theorem dX7_runs_91 : decode cX7_runs 91 = .ok (.iinc 5 1, 3) := by decide +kernel
theorem dX7_runs_94 : decode cX7_runs 94 = .ok (.goto (-29), 3) := by decide +kernel
theorem dX7_runs_97 : decode cX7_runs 97 = .ok (.aload_n 0, 1) := by decide +kernel
theorem dX7_runs_98 : decode cX7_runs 98 = .ok (.dup, 1) := by decide +kernel
theorem dX7_runs_99 : decode cX7_runs 99 = .ok (.getfield 290, 3) := by decide +kernel
theorem dX7_runs_102 : decode cX7_runs 102 = .ok (.aload_n 0, 1) := by decide +kernel
theorem dX7_runs_103 : decode cX7_runs 103 = .ok (.iconst 0, 1) := by decide +kernel
theorem dX7_runs_104 : decode cX7_runs 104 = .ok (.invokevirtual 271, 3) := by decide +kernel
theorem dX7_runs_107 : decode cX7_runs 107 = .ok (.iadd, 1) := by decide +kernel
theorem dX7_runs_108 : decode cX7_runs 108 = .ok (.putfield 290, 3) := by decide +kernel
theorem dX7_runs_111 : decode cX7_runs 111 = .ok (.aload_n 0, 1) := by decide +kernel
theorem dX7_runs_112 : decode cX7_runs 112 = .ok (.aload_n 0, 1) := by decide +kernel
theorem dX7_runs_113 : decode cX7_runs 113 = .ok (.getfield 293, 3) := by decide +kernel
theorem dX7_runs_116 : decode cX7_runs 116 = .ok (.iconst (-1), 1) := by decide +kernel
theorem dX7_runs_117 : decode cX7_runs 117 = .ok (.if_icmp .ne 15, 3) := by decide +kernel
theorem dX7_runs_120 : decode cX7_runs 120 = .ok (.aload_n 0, 1) := by decide +kernel
theorem dX7_runs_121 : decode cX7_runs 121 = .ok (.invokevirtual 113, 3) := by decide +kernel
theorem dX7_runs_124 : decode cX7_runs 124 = .ok (.ifCond .ne 8, 3) := by decide +kernel
theorem dX7_runs_127 : decode cX7_runs 127 = .ok (.iload 4, 2) := by decide +kernel
theorem dX7_runs_129 : decode cX7_runs 129 = .ok (.goto 7, 3) := by decide +kernel
theorem dX7_runs_132 : decode cX7_runs 132 = .ok (.aload_n 0, 1) := by decide +kernel
theorem dX7_runs_133 : decode cX7_runs 133 = .ok (.getfield 293, 3) := by decide +kernel
theorem dX7_runs_136 : decode cX7_runs 136 = .ok (.putfield 293, 3) := by decide +kernel
theorem dX7_runs_139 : decode cX7_runs 139 = .ok (.iinc 4 1, 3) := by decide +kernel
theorem dX7_runs_142 : decode cX7_runs 142 = .ok (.goto (-92), 3) := by decide +kernel
theorem dX7_runs_145 : decode cX7_runs 145 = .ok (.aload_n 0, 1) := by decide +kernel
theorem dX7_runs_146 : decode cX7_runs 146 = .ok (.getfield 253, 3) := by decide +kernel
theorem dX7_runs_149 : decode cX7_runs 149 = .ok (.aload_n 0, 1) := by decide +kernel
theorem dX7_runs_150 : decode cX7_runs 150 = .ok (.invokevirtual 296, 3) := by decide +kernel
theorem dX7_runs_153 : decode cX7_runs 153 = .ok (.iadd, 1) := by decide +kernel
theorem dX7_runs_154 : decode cX7_runs 154 = .ok (.ireturn, 1) := by decide +kernel
theorem dX7_enough_0 : decode cX7_enough 0 = .ok (.aload_n 0, 1) := by decide +kernel
theorem dX7_enough_1 : decode cX7_enough 1 = .ok (.iload_n 1, 1) := by decide +kernel
theorem dX7_enough_2 : decode cX7_enough 2 = .ok (.iload_n 2, 1) := by decide +kernel
theorem dX7_enough_3 : decode cX7_enough 3 = .ok (.invokevirtual 309, 3) := by decide +kernel
theorem dX7_enough_6 : decode cX7_enough 6 = .ok (.istore_n 3, 1) := by decide +kernel
theorem dX7_enough_7 : decode cX7_enough 7 = .ok (.iload_n 3, 1) := by decide +kernel
theorem dX7_enough_8 : decode cX7_enough 8 = .ok (.ifCond .eq 5, 3) := by decide +kernel
theorem dX7_enough_11 : decode cX7_enough 11 = .ok (.iload_n 3, 1) := by decide +kernel
theorem dX7_enough_12 : decode cX7_enough 12 = .ok (.ireturn, 1) := by decide +kernel
theorem dX7_enough_13 : decode cX7_enough 13 = .ok (.iconst 0, 1) := by decide +kernel
theorem dX7_enough_14 : decode cX7_enough 14 = .ok (.istore 4, 2) := by decide +kernel
theorem dX7_enough_16 : decode cX7_enough 16 = .ok (.iload 4, 2) := by decide +kernel
theorem dX7_enough_18 : decode cX7_enough 18 = .ok (.bipush 99, 2) := by decide +kernel
theorem dX7_enough_20 : decode cX7_enough 20 = .ok (.if_icmp .gt 76, 3) := by decide +kernel
theorem dX7_enough_23 : decode cX7_enough 23 = .ok (.aload_n 0, 1) := by decide +kernel
theorem dX7_enough_24 : decode cX7_enough 24 = .ok (.invokevirtual 299, 3) := by decide +kernel
theorem dX7_enough_27 : decode cX7_enough 27 = .ok (.pop, 1) := by decide +kernel
theorem dX7_enough_28 : decode cX7_enough 28 = .ok (.iconst 0, 1) := by decide +kernel
theorem dX7_enough_29 : decode cX7_enough 29 = .ok (.istore 5, 2) := by decide +kernel
theorem dX7_enough_31 : decode cX7_enough 31 = .ok (.iload 5, 2) := by decide +kernel
theorem dX7_enough_33 : decode cX7_enough 33 = .ok (.bipush 12, 2) := by decide +kernel
theorem dX7_enough_35 : decode cX7_enough 35 = .ok (.if_icmp .ge 21, 3) := by decide +kernel
theorem dX7_enough_38 : decode cX7_enough 38 = .ok (.aload_n 0, 1) := by decide +kernel
theorem dX7_enough_39 : decode cX7_enough 39 = .ok (.getfield 281, 3) := by decide +kernel
theorem dX7_enough_42 : decode cX7_enough 42 = .ok (.getfield 45, 3) := by decide +kernel
theorem dX7_enough_45 : decode cX7_enough 45 = .ok (.iload 5, 2) := by decide +kernel
theorem dX7_enough_47 : decode cX7_enough 47 = .ok (.iload 4, 2) := by decide +kernel
theorem dX7_enough_49 : decode cX7_enough 49 = .ok (.iastore, 1) := by decide +kernel
theorem dX7_enough_50 : decode cX7_enough 50 = .ok (.iinc 5 1, 3) := by decide +kernel
theorem dX7_enough_53 : decode cX7_enough 53 = .ok (.goto (-22), 3) := by decide +kernel
theorem dX7_enough_56 : decode cX7_enough 56 = .ok (.aload_n 0, 1) := by decide +kernel
theorem dX7_enough_57 : decode cX7_enough 57 = .ok (.getfield 281, 3) := by decide +kernel
theorem dX7_enough_60 : decode cX7_enough 60 = .ok (.aload_n 0, 1) := by decide +kernel
theorem dX7_enough_61 : decode cX7_enough 61 = .ok (.getfield 28, 3) := by decide +kernel
theorem dX7_enough_64 : decode cX7_enough 64 = .ok (.iload_n 1, 1) := by decide +kernel
theorem dX7_enough_65 : decode cX7_enough 65 = .ok (.iaload, 1) := by decide +kernel
theorem dX7_enough_66 : decode cX7_enough 66 = .ok (.aload_n 0, 1) := by decide +kernel
theorem dX7_enough_67 : decode cX7_enough 67 = .ok (.getfield 31, 3) := by decide +kernel
theorem dX7_enough_70 : decode cX7_enough 70 = .ok (.iload_n 1, 1) := by decide +kernel
theorem dX7_enough_71 : decode cX7_enough 71 = .ok (.iaload, 1) := by decide +kernel
theorem dX7_enough_72 : decode cX7_enough 72 = .ok (.iload_n 2, 1) := by decide +kernel
theorem dX7_enough_73 : decode cX7_enough 73 = .ok (.invokevirtual 303, 3) := by decide +kernel
theorem dX7_enough_76 : decode cX7_enough 76 = .ok (.pop, 1) := by decide +kernel
theorem dX7_enough_77 : decode cX7_enough 77 = .ok (.aload_n 0, 1) := by decide +kernel
theorem dX7_enough_78 : decode cX7_enough 78 = .ok (.getfield 281, 3) := by decide +kernel
theorem dX7_enough_81 : decode cX7_enough 81 = .ok (.invokevirtual 113, 3) := by decide +kernel
theorem dX7_enough_84 : decode cX7_enough 84 = .ok (.ifCond .ne 6, 3) := by decide +kernel
theorem dX7_enough_87 : decode cX7_enough 87 = .ok (.iload 4, 2) := by decide +kernel
theorem dX7_enough_89 : decode cX7_enough 89 = .ok (.ireturn, 1) := by decide +kernel
theorem dX7_enough_90 : decode cX7_enough 90 = .ok (.iinc 4 1, 3) := by decide +kernel
theorem dX7_enough_93 : decode cX7_enough 93 = .ok (.goto (-77), 3) := by decide +kernel
theorem dX7_enough_96 : decode cX7_enough 96 = .ok (.iconst (-1), 1) := by decide +kernel
theorem dX7_enough_97 : decode cX7_enough 97 = .ok (.ireturn, 1) := by decide +kernel
theorem dX7_feed_0 : decode cX7_feed 0 = .ok (.iload_n 2, 1) := by decide +kernel
theorem dX7_feed_1 : decode cX7_feed 1 = .ok (.i2l, 1) := by decide +kernel
theorem dX7_feed_2 : decode cX7_feed 2 = .ok (.lconst 1, 1) := by decide +kernel
theorem dX7_feed_3 : decode cX7_feed 3 = .ok (.ldc2_w 93, 3) := by decide +kernel
theorem dX7_feed_6 : decode cX7_feed 6 = .ok (.invokestatic 83, 3) := by decide +kernel
theorem dX7_feed_9 : decode cX7_feed 9 = .ok (.ifCond .ne 10, 3) := by decide +kernel
theorem dX7_feed_12 : decode cX7_feed 12 = .ok (.aload_n 0, 1) := by decide +kernel
theorem dX7_feed_13 : decode cX7_feed 13 = .ok (.bipush (-2), 2) := by decide +kernel
theorem dX7_feed_15 : decode cX7_feed 15 = .ok (.invokevirtual 97, 3) := by decide +kernel
theorem dX7_feed_18 : decode cX7_feed 18 = .ok (.ireturn, 1) := by decide +kernel
theorem dX7_feed_19 : decode cX7_feed 19 = .ok (.iload_n 2, 1) := by decide +kernel
theorem dX7_feed_20 : decode cX7_feed 20 = .ok (.sipush 250, 3) := by decide +kernel
theorem dX7_feed_23 : decode cX7_feed 23 = .ok (.aload_n 0, 1) := by decide +kernel
theorem dX7_feed_24 : decode cX7_feed 24 = .ok (.getfield 157, 3) := by decide +kernel
theorem dX7_feed_27 : decode cX7_feed 27 = .ok (.isub, 1) := by decide +kernel
theorem dX7_feed_28 : decode cX7_feed 28 = .ok (.if_icmp .le 10, 3) := by decide +kernel
theorem dX7_feed_31 : decode cX7_feed 31 = .ok (.aload_n 0, 1) := by decide +kernel
theorem dX7_feed_32 : decode cX7_feed 32 = .ok (.bipush (-6), 2) := by decide +kernel
theorem dX7_feed_34 : decode cX7_feed 34 = .ok (.invokevirtual 97, 3) := by decide +kernel
theorem dX7_feed_37 : decode cX7_feed 37 = .ok (.ireturn, 1) := by decide +kernel
theorem dX7_feed_38 : decode cX7_feed 38 = .ok (.iload_n 2, 1) := by decide +kernel
theorem dX7_feed_39 : decode cX7_feed 39 = .ok (.iconst 1, 1) := by decide +kernel
theorem dX7_feed_40 : decode cX7_feed 40 = .ok (.isub, 1) := by decide +kernel
theorem dX7_feed_41 : decode cX7_feed 41 = .ok (.istore_n 3, 1) := by decide +kernel
theorem dX7_feed_42 : decode cX7_feed 42 = .ok (.iload_n 3, 1) := by decide +kernel
theorem dX7_feed_43 : decode cX7_feed 43 = .ok (.ifCond .lt 35, 3) := by decide +kernel
theorem dX7_feed_46 : decode cX7_feed 46 = .ok (.aload_n 0, 1) := by decide +kernel
theorem dX7_feed_47 : decode cX7_feed 47 = .ok (.getfield 34, 3) := by decide +kernel
theorem dX7_feed_50 : decode cX7_feed 50 = .ok (.aload_n 0, 1) := by decide +kernel
theorem dX7_feed_51 : decode cX7_feed 51 = .ok (.dup, 1) := by decide +kernel
theorem dX7_feed_52 : decode cX7_feed 52 = .ok (.getfield 157, 3) := by decide +kernel
theorem dX7_feed_55 : decode cX7_feed 55 = .ok (.dup_x1, 1) := by decide +kernel
theorem dX7_feed_56 : decode cX7_feed 56 = .ok (.iconst 1, 1) := by decide +kernel
theorem dX7_feed_57 : decode cX7_feed 57 = .ok (.iadd, 1) := by decide +kernel
theorem dX7_feed_58 : decode cX7_feed 58 = .ok (.putfield 157, 3) := by decide +kernel
theorem dX7_feed_61 : decode cX7_feed 61 = .ok (.iload_n 1, 1) := by decide +kernel
theorem dX7_feed_62 : decode cX7_feed 62 = .ok (.bipush 8, 2) := by decide +kernel
theorem dX7_feed_64 : decode cX7_feed 64 = .ok (.iload_n 3, 1) := by decide +kernel
theorem dX7_feed_65 : decode cX7_feed 65 = .ok (.imul, 1) := by decide +kernel
theorem dX7_feed_66 : decode cX7_feed 66 = .ok (.ishr, 1) := by decide +kernel
theorem dX7_feed_67 : decode cX7_feed 67 = .ok (.sipush 255, 3) := by decide +kernel
theorem dX7_feed_70 : decode cX7_feed 70 = .ok (.iand, 1) := by decide +kernel
theorem dX7_feed_71 : decode cX7_feed 71 = .ok (.iastore, 1) := by decide +kernel
theorem dX7_feed_72 : decode cX7_feed 72 = .ok (.iinc 3 (-1), 3) := by decide +kernel
theorem dX7_feed_75 : decode cX7_feed 75 = .ok (.goto (-33), 3) := by decide +kernel
theorem dX7_feed_78 : decode cX7_feed 78 = .ok (.aload_n 0, 1) := by decide +kernel
theorem dX7_feed_79 : decode cX7_feed 79 = .ok (.getfield 157, 3) := by decide +kernel
theorem dX7_feed_82 : decode cX7_feed 82 = .ok (.ireturn, 1) := by decide +kernel
theorem dX7_firstWrong_0 : decode cX7_firstWrong 0 = .ok (.lconst 0, 1) := by decide +kernel
theorem dX7_firstWrong_1 : decode cX7_firstWrong 1 = .ok (.lstore_n 2, 1) := by decide +kernel
theorem dX7_firstWrong_2 : decode cX7_firstWrong 2 = .ok (.iconst 0, 1) := by decide +kernel
theorem dX7_firstWrong_3 : decode cX7_firstWrong 3 = .ok (.istore 4, 2) := by decide +kernel
theorem dX7_firstWrong_5 : decode cX7_firstWrong 5 = .ok (.iload 4, 2) := by decide +kernel
theorem dX7_firstWrong_7 : decode cX7_firstWrong 7 = .ok (.aload_n 0, 1) := by decide +kernel
theorem dX7_firstWrong_8 : decode cX7_firstWrong 8 = .ok (.getfield 80, 3) := by decide +kernel
theorem dX7_firstWrong_11 : decode cX7_firstWrong 11 = .ok (.if_icmp .ge 72, 3) := by decide +kernel
theorem dX7_firstWrong_14 : decode cX7_firstWrong 14 = .ok (.iload 4, 2) := by decide +kernel
theorem dX7_firstWrong_16 : decode cX7_firstWrong 16 = .ok (.aload_n 0, 1) := by decide +kernel
theorem dX7_firstWrong_17 : decode cX7_firstWrong 17 = .ok (.getfield 16, 3) := by decide +kernel
theorem dX7_firstWrong_20 : decode cX7_firstWrong 20 = .ok (.iload_n 1, 1) := by decide +kernel
theorem dX7_firstWrong_21 : decode cX7_firstWrong 21 = .ok (.iaload, 1) := by decide +kernel
theorem dX7_firstWrong_22 : decode cX7_firstWrong 22 = .ok (.if_icmp .ge 15, 3) := by decide +kernel
theorem dX7_firstWrong_25 : decode cX7_firstWrong 25 = .ok (.aload_n 0, 1) := by decide +kernel
theorem dX7_firstWrong_26 : decode cX7_firstWrong 26 = .ok (.getfield 21, 3) := by decide +kernel
theorem dX7_firstWrong_29 : decode cX7_firstWrong 29 = .ok (.iload_n 1, 1) := by decide +kernel
theorem dX7_firstWrong_30 : decode cX7_firstWrong 30 = .ok (.aaload, 1) := by decide +kernel
theorem dX7_firstWrong_31 : decode cX7_firstWrong 31 = .ok (.iload 4, 2) := by decide +kernel
theorem dX7_firstWrong_33 : decode cX7_firstWrong 33 = .ok (.laload, 1) := by decide +kernel
theorem dX7_firstWrong_34 : decode cX7_firstWrong 34 = .ok (.goto 4, 3) := by decide +kernel
theorem dX7_firstWrong_37 : decode cX7_firstWrong 37 = .ok (.lconst 0, 1) := by decide +kernel
theorem dX7_firstWrong_38 : decode cX7_firstWrong 38 = .ok (.lstore 5, 2) := by decide +kernel
theorem dX7_firstWrong_40 : decode cX7_firstWrong 40 = .ok (.lload 5, 2) := by decide +kernel
theorem dX7_firstWrong_42 : decode cX7_firstWrong 42 = .ok (.lconst 0, 1) := by decide +kernel
theorem dX7_firstWrong_43 : decode cX7_firstWrong 43 = .ok (.aload_n 0, 1) := by decide +kernel
theorem dX7_firstWrong_44 : decode cX7_firstWrong 44 = .ok (.getfield 42, 3) := by decide +kernel
theorem dX7_firstWrong_47 : decode cX7_firstWrong 47 = .ok (.iload 4, 2) := by decide +kernel
theorem dX7_firstWrong_49 : decode cX7_firstWrong 49 = .ok (.aaload, 1) := by decide +kernel
theorem dX7_firstWrong_50 : decode cX7_firstWrong 50 = .ok (.iconst 1, 1) := by decide +kernel
theorem dX7_firstWrong_51 : decode cX7_firstWrong 51 = .ok (.iaload, 1) := by decide +kernel
theorem dX7_firstWrong_52 : decode cX7_firstWrong 52 = .ok (.i2l, 1) := by decide +kernel
theorem dX7_firstWrong_53 : decode cX7_firstWrong 53 = .ok (.invokestatic 83, 3) := by decide +kernel
theorem dX7_firstWrong_56 : decode cX7_firstWrong 56 = .ok (.ifCond .ne 6, 3) := by decide +kernel
theorem dX7_firstWrong_59 : decode cX7_firstWrong 59 = .ok (.iload 4, 2) := by decide +kernel
theorem dX7_firstWrong_61 : decode cX7_firstWrong 61 = .ok (.ireturn, 1) := by decide +kernel
theorem dX7_firstWrong_62 : decode cX7_firstWrong 62 = .ok (.aload_n 0, 1) := by decide +kernel
theorem dX7_firstWrong_63 : decode cX7_firstWrong 63 = .ok (.getfield 64, 3) := by decide +kernel
theorem dX7_firstWrong_66 : decode cX7_firstWrong 66 = .ok (.iload 4, 2) := by decide +kernel
theorem dX7_firstWrong_68 : decode cX7_firstWrong 68 = .ok (.lload 5, 2) := by decide +kernel
theorem dX7_firstWrong_70 : decode cX7_firstWrong 70 = .ok (.l2i, 1) := by decide +kernel
theorem dX7_firstWrong_71 : decode cX7_firstWrong 71 = .ok (.iastore, 1) := by decide +kernel
theorem dX7_firstWrong_72 : decode cX7_firstWrong 72 = .ok (.lload_n 2, 1) := by decide +kernel
theorem dX7_firstWrong_73 : decode cX7_firstWrong 73 = .ok (.lload 5, 2) := by decide +kernel
theorem dX7_firstWrong_75 : decode cX7_firstWrong 75 = .ok (.ladd, 1) := by decide +kernel
theorem dX7_firstWrong_76 : decode cX7_firstWrong 76 = .ok (.lstore_n 2, 1) := by decide +kernel
theorem dX7_firstWrong_77 : decode cX7_firstWrong 77 = .ok (.iinc 4 1, 3) := by decide +kernel
theorem dX7_firstWrong_80 : decode cX7_firstWrong 80 = .ok (.goto (-75), 3) := by decide +kernel
theorem dX7_firstWrong_83 : decode cX7_firstWrong 83 = .ok (.lload_n 2, 1) := by decide +kernel
theorem dX7_firstWrong_84 : decode cX7_firstWrong 84 = .ok (.aload_n 0, 1) := by decide +kernel
theorem dX7_firstWrong_85 : decode cX7_firstWrong 85 = .ok (.invokevirtual 117, 3) := by decide +kernel
theorem dX7_firstWrong_88 : decode cX7_firstWrong 88 = .ok (.i2l, 1) := by decide +kernel
theorem dX7_firstWrong_89 : decode cX7_firstWrong 89 = .ok (.lcmp, 1) := by decide +kernel
theorem dX7_firstWrong_90 : decode cX7_firstWrong 90 = .ok (.ifCond .le 8, 3) := by decide +kernel
theorem dX7_firstWrong_93 : decode cX7_firstWrong 93 = .ok (.bipush 9, 2) := by decide +kernel
theorem dX7_firstWrong_95 : decode cX7_firstWrong 95 = .ok (.goto 4, 3) := by decide +kernel
theorem dX7_firstWrong_98 : decode cX7_firstWrong 98 = .ok (.iconst (-1), 1) := by decide +kernel
theorem dX7_firstWrong_99 : decode cX7_firstWrong 99 = .ok (.ireturn, 1) := by decide +kernel
theorem dX7_fit_0 : decode cX7_fit 0 = .ok (.iload_n 0, 1) := by decide +kernel
theorem dX7_fit_1 : decode cX7_fit 1 = .ok (.tableswitch 47 0 3 #[31, 36, 41, 45], 31) := by decide +kernel
theorem dX7_fit_32 : decode cX7_fit 32 = .ok (.lload_n 1, 1) := by decide +kernel
theorem dX7_fit_33 : decode cX7_fit 33 = .ok (.l2i, 1) := by decide +kernel
theorem dX7_fit_34 : decode cX7_fit 34 = .ok (.i2b, 1) := by decide +kernel
theorem dX7_fit_35 : decode cX7_fit 35 = .ok (.i2l, 1) := by decide +kernel
theorem dX7_fit_36 : decode cX7_fit 36 = .ok (.lreturn, 1) := by decide +kernel
theorem dX7_fit_37 : decode cX7_fit 37 = .ok (.lload_n 1, 1) := by decide +kernel
theorem dX7_fit_38 : decode cX7_fit 38 = .ok (.l2i, 1) := by decide +kernel
theorem dX7_fit_39 : decode cX7_fit 39 = .ok (.i2s, 1) := by decide +kernel
theorem dX7_fit_40 : decode cX7_fit 40 = .ok (.i2l, 1) := by decide +kernel
theorem dX7_fit_41 : decode cX7_fit 41 = .ok (.lreturn, 1) := by decide +kernel
theorem dX7_fit_42 : decode cX7_fit 42 = .ok (.lload_n 1, 1) := by decide +kernel
theorem dX7_fit_43 : decode cX7_fit 43 = .ok (.l2i, 1) := by decide +kernel
theorem dX7_fit_44 : decode cX7_fit 44 = .ok (.i2l, 1) := by decide +kernel
theorem dX7_fit_45 : decode cX7_fit 45 = .ok (.lreturn, 1) := by decide +kernel
theorem dX7_fit_46 : decode cX7_fit 46 = .ok (.lload_n 1, 1) := by decide +kernel
theorem dX7_fit_47 : decode cX7_fit 47 = .ok (.lreturn, 1) := by decide +kernel
theorem dX7_fit_48 : decode cX7_fit 48 = .ok (.lload_n 1, 1) := by decide +kernel
theorem dX7_fit_49 : decode cX7_fit 49 = .ok (.lconst 0, 1) := by decide +kernel
theorem dX7_fit_50 : decode cX7_fit 50 = .ok (.lcmp, 1) := by decide +kernel
theorem dX7_fit_51 : decode cX7_fit 51 = .ok (.ifCond .eq 7, 3) := by decide +kernel
theorem dX7_fit_54 : decode cX7_fit 54 = .ok (.lconst 1, 1) := by decide +kernel
theorem dX7_fit_55 : decode cX7_fit 55 = .ok (.goto 4, 3) := by decide +kernel
theorem dX7_fit_58 : decode cX7_fit 58 = .ok (.lconst 0, 1) := by decide +kernel
theorem dX7_fit_59 : decode cX7_fit 59 = .ok (.lreturn, 1) := by decide +kernel
theorem dX7_grows_0 : decode cX7_grows 0 = .ok (.aload_n 0, 1) := by decide +kernel
theorem dX7_grows_1 : decode cX7_grows 1 = .ok (.iload_n 1, 1) := by decide +kernel
theorem dX7_grows_2 : decode cX7_grows 2 = .ok (.invokevirtual 139, 3) := by decide +kernel
theorem dX7_grows_5 : decode cX7_grows 5 = .ok (.ifCond .ne 10, 3) := by decide +kernel
theorem dX7_grows_8 : decode cX7_grows 8 = .ok (.aload_n 0, 1) := by decide +kernel
theorem dX7_grows_9 : decode cX7_grows 9 = .ok (.bipush (-2), 2) := by decide +kernel
theorem dX7_grows_11 : decode cX7_grows 11 = .ok (.invokevirtual 97, 3) := by decide +kernel
theorem dX7_grows_14 : decode cX7_grows 14 = .ok (.ireturn, 1) := by decide +kernel
theorem dX7_grows_15 : decode cX7_grows 15 = .ok (.aload_n 0, 1) := by decide +kernel
theorem dX7_grows_16 : decode cX7_grows 16 = .ok (.iload_n 1, 1) := by decide +kernel
theorem dX7_grows_17 : decode cX7_grows 17 = .ok (.invokevirtual 87, 3) := by decide +kernel
theorem dX7_grows_20 : decode cX7_grows 20 = .ok (.ifCond .eq 12, 3) := by decide +kernel
theorem dX7_grows_23 : decode cX7_grows 23 = .ok (.aload_n 0, 1) := by decide +kernel
theorem dX7_grows_24 : decode cX7_grows 24 = .ok (.iload_n 1, 1) := by decide +kernel
theorem dX7_grows_25 : decode cX7_grows 25 = .ok (.iconst 0, 1) := by decide +kernel
theorem dX7_grows_26 : decode cX7_grows 26 = .ok (.invokevirtual 256, 3) := by decide +kernel
theorem dX7_grows_29 : decode cX7_grows 29 = .ok (.goto 4, 3) := by decide +kernel
theorem dX7_grows_32 : decode cX7_grows 32 = .ok (.iconst 0, 1) := by decide +kernel
theorem dX7_grows_33 : decode cX7_grows 33 = .ok (.ireturn, 1) := by decide +kernel
theorem dX7_hangs_0 : decode cX7_hangs 0 = .ok (.aload_n 0, 1) := by decide +kernel
theorem dX7_hangs_1 : decode cX7_hangs 1 = .ok (.iload_n 1, 1) := by decide +kernel
theorem dX7_hangs_2 : decode cX7_hangs 2 = .ok (.iload_n 2, 1) := by decide +kernel
theorem dX7_hangs_3 : decode cX7_hangs 3 = .ok (.invokevirtual 309, 3) := by decide +kernel
theorem dX7_hangs_6 : decode cX7_hangs 6 = .ok (.istore_n 3, 1) := by decide +kernel
theorem dX7_hangs_7 : decode cX7_hangs 7 = .ok (.iload_n 3, 1) := by decide +kernel
theorem dX7_hangs_8 : decode cX7_hangs 8 = .ok (.ifCond .eq 5, 3) := by decide +kernel
theorem dX7_hangs_11 : decode cX7_hangs 11 = .ok (.iload_n 3, 1) := by decide +kernel
theorem dX7_hangs_12 : decode cX7_hangs 12 = .ok (.ireturn, 1) := by decide +kernel
theorem dX7_hangs_13 : decode cX7_hangs 13 = .ok (.iconst (-1), 1) := by decide +kernel
theorem dX7_hangs_14 : decode cX7_hangs 14 = .ok (.istore 4, 2) := by decide +kernel
theorem dX7_hangs_16 : decode cX7_hangs 16 = .ok (.iconst 0, 1) := by decide +kernel
theorem dX7_hangs_17 : decode cX7_hangs 17 = .ok (.istore 5, 2) := by decide +kernel
theorem dX7_hangs_19 : decode cX7_hangs 19 = .ok (.iconst 0, 1) := by decide +kernel
theorem dX7_hangs_20 : decode cX7_hangs 20 = .ok (.istore 6, 2) := by decide +kernel
theorem dX7_hangs_22 : decode cX7_hangs 22 = .ok (.iload 6, 2) := by decide +kernel
theorem dX7_hangs_24 : decode cX7_hangs 24 = .ok (.aload_n 0, 1) := by decide +kernel
theorem dX7_hangs_25 : decode cX7_hangs 25 = .ok (.getfield 80, 3) := by decide +kernel
theorem dX7_hangs_28 : decode cX7_hangs 28 = .ok (.if_icmp .ge 74, 3) := by decide +kernel
theorem dX7_hangs_31 : decode cX7_hangs 31 = .ok (.aload_n 0, 1) := by decide +kernel
theorem dX7_hangs_32 : decode cX7_hangs 32 = .ok (.iload 6, 2) := by decide +kernel
theorem dX7_hangs_34 : decode cX7_hangs 34 = .ok (.invokevirtual 87, 3) := by decide +kernel
theorem dX7_hangs_37 : decode cX7_hangs 37 = .ok (.ifCond .eq 59, 3) := by decide +kernel
theorem dX7_hangs_40 : decode cX7_hangs 40 = .ok (.aload_n 0, 1) := by decide +kernel
theorem dX7_hangs_41 : decode cX7_hangs 41 = .ok (.invokevirtual 299, 3) := by decide +kernel
theorem dX7_hangs_44 : decode cX7_hangs 44 = .ok (.getfield 42, 3) := by decide +kernel
theorem dX7_hangs_47 : decode cX7_hangs 47 = .ok (.iload 6, 2) := by decide +kernel
theorem dX7_hangs_49 : decode cX7_hangs 49 = .ok (.aaload, 1) := by decide +kernel
theorem dX7_hangs_50 : decode cX7_hangs 50 = .ok (.iconst 1, 1) := by decide +kernel
theorem dX7_hangs_51 : decode cX7_hangs 51 = .ok (.iconst 0, 1) := by decide +kernel
theorem dX7_hangs_52 : decode cX7_hangs 52 = .ok (.iastore, 1) := by decide +kernel
theorem dX7_hangs_53 : decode cX7_hangs 53 = .ok (.aload_n 0, 1) := by decide +kernel
theorem dX7_hangs_54 : decode cX7_hangs 54 = .ok (.getfield 281, 3) := by decide +kernel
theorem dX7_hangs_57 : decode cX7_hangs 57 = .ok (.aload_n 0, 1) := by decide +kernel
theorem dX7_hangs_58 : decode cX7_hangs 58 = .ok (.getfield 28, 3) := by decide +kernel
theorem dX7_hangs_61 : decode cX7_hangs 61 = .ok (.iload_n 1, 1) := by decide +kernel
theorem dX7_hangs_62 : decode cX7_hangs 62 = .ok (.iaload, 1) := by decide +kernel
theorem dX7_hangs_63 : decode cX7_hangs 63 = .ok (.aload_n 0, 1) := by decide +kernel
theorem dX7_hangs_64 : decode cX7_hangs 64 = .ok (.getfield 31, 3) := by decide +kernel
theorem dX7_hangs_67 : decode cX7_hangs 67 = .ok (.iload_n 1, 1) := by decide +kernel
theorem dX7_hangs_68 : decode cX7_hangs 68 = .ok (.iaload, 1) := by decide +kernel
theorem dX7_hangs_69 : decode cX7_hangs 69 = .ok (.iload_n 2, 1) := by decide +kernel
theorem dX7_hangs_70 : decode cX7_hangs 70 = .ok (.invokevirtual 303, 3) := by decide +kernel
theorem dX7_hangs_73 : decode cX7_hangs 73 = .ok (.istore 7, 2) := by decide +kernel
theorem dX7_hangs_75 : decode cX7_hangs 75 = .ok (.iload 4, 2) := by decide +kernel
theorem dX7_hangs_77 : decode cX7_hangs 77 = .ok (.iconst (-1), 1) := by decide +kernel
theorem dX7_hangs_78 : decode cX7_hangs 78 = .ok (.if_icmp .eq 10, 3) := by decide +kernel
theorem dX7_hangs_81 : decode cX7_hangs 81 = .ok (.iload 7, 2) := by decide +kernel
theorem dX7_hangs_83 : decode cX7_hangs 83 = .ok (.iload 5, 2) := by decide +kernel
theorem dX7_hangs_85 : decode cX7_hangs 85 = .ok (.if_icmp .ge 11, 3) := by decide +kernel
theorem dX7_hangs_88 : decode cX7_hangs 88 = .ok (.iload 6, 2) := by decide +kernel
theorem dX7_hangs_90 : decode cX7_hangs 90 = .ok (.istore 4, 2) := by decide +kernel
theorem dX7_hangs_92 : decode cX7_hangs 92 = .ok (.iload 7, 2) := by decide +kernel
theorem dX7_hangs_94 : decode cX7_hangs 94 = .ok (.istore 5, 2) := by decide +kernel
theorem dX7_hangs_96 : decode cX7_hangs 96 = .ok (.iinc 6 1, 3) := by decide +kernel
theorem dX7_hangs_99 : decode cX7_hangs 99 = .ok (.goto (-77), 3) := by decide +kernel
theorem dX7_hangs_102 : decode cX7_hangs 102 = .ok (.iload 4, 2) := by decide +kernel
theorem dX7_hangs_104 : decode cX7_hangs 104 = .ok (.iconst (-1), 1) := by decide +kernel
theorem dX7_hangs_105 : decode cX7_hangs 105 = .ok (.if_icmp .ne 12, 3) := by decide +kernel
theorem dX7_hangs_108 : decode cX7_hangs 108 = .ok (.aload_n 0, 1) := by decide +kernel
theorem dX7_hangs_109 : decode cX7_hangs 109 = .ok (.bipush (-5), 2) := by decide +kernel
theorem dX7_hangs_111 : decode cX7_hangs 111 = .ok (.invokevirtual 97, 3) := by decide +kernel
theorem dX7_hangs_114 : decode cX7_hangs 114 = .ok (.goto 5, 3) := by decide +kernel
theorem dX7_hangs_117 : decode cX7_hangs 117 = .ok (.iload 4, 2) := by decide +kernel
theorem dX7_hangs_119 : decode cX7_hangs 119 = .ok (.ireturn, 1) := by decide +kernel
theorem dX7_loss_0 : decode cX7_loss 0 = .ok (.aload_n 0, 1) := by decide +kernel
theorem dX7_loss_1 : decode cX7_loss 1 = .ok (.invokevirtual 299, 3) := by decide +kernel
theorem dX7_loss_4 : decode cX7_loss 4 = .ok (.aload_n 0, 1) := by decide +kernel
theorem dX7_loss_5 : decode cX7_loss 5 = .ok (.getfield 28, 3) := by decide +kernel
theorem dX7_loss_8 : decode cX7_loss 8 = .ok (.iload_n 1, 1) := by decide +kernel
theorem dX7_loss_9 : decode cX7_loss 9 = .ok (.iaload, 1) := by decide +kernel
theorem dX7_loss_10 : decode cX7_loss 10 = .ok (.aload_n 0, 1) := by decide +kernel
theorem dX7_loss_11 : decode cX7_loss 11 = .ok (.getfield 31, 3) := by decide +kernel
theorem dX7_loss_14 : decode cX7_loss 14 = .ok (.iload_n 1, 1) := by decide +kernel
theorem dX7_loss_15 : decode cX7_loss 15 = .ok (.iaload, 1) := by decide +kernel
theorem dX7_loss_16 : decode cX7_loss 16 = .ok (.iload_n 2, 1) := by decide +kernel
theorem dX7_loss_17 : decode cX7_loss 17 = .ok (.invokevirtual 303, 3) := by decide +kernel
theorem dX7_loss_20 : decode cX7_loss 20 = .ok (.ireturn, 1) := by decide +kernel
theorem dX7_head_0 : decode cX7_head 0 = .ok (.iload_n 1, 1) := by decide +kernel
theorem dX7_head_1 : decode cX7_head 1 = .ok (.i2l, 1) := by decide +kernel
theorem dX7_head_2 : decode cX7_head 2 = .ok (.lconst 1, 1) := by decide +kernel
theorem dX7_head_3 : decode cX7_head 3 = .ok (.ldc2_w 307, 3) := by decide +kernel
theorem dX7_head_6 : decode cX7_head 6 = .ok (.invokestatic 83, 3) := by decide +kernel
theorem dX7_head_9 : decode cX7_head 9 = .ok (.ifCond .ne 10, 3) := by decide +kernel
theorem dX7_head_12 : decode cX7_head 12 = .ok (.aload_n 0, 1) := by decide +kernel
theorem dX7_head_13 : decode cX7_head 13 = .ok (.bipush (-2), 2) := by decide +kernel
theorem dX7_head_15 : decode cX7_head 15 = .ok (.invokevirtual 97, 3) := by decide +kernel
theorem dX7_head_18 : decode cX7_head 18 = .ok (.ireturn, 1) := by decide +kernel
theorem dX7_head_19 : decode cX7_head 19 = .ok (.iconst (-1), 1) := by decide +kernel
theorem dX7_head_20 : decode cX7_head 20 = .ok (.istore_n 2, 1) := by decide +kernel
theorem dX7_head_21 : decode cX7_head 21 = .ok (.iconst 0, 1) := by decide +kernel
theorem dX7_head_22 : decode cX7_head 22 = .ok (.istore_n 3, 1) := by decide +kernel
theorem dX7_head_23 : decode cX7_head 23 = .ok (.iconst 0, 1) := by decide +kernel
theorem dX7_head_24 : decode cX7_head 24 = .ok (.istore 4, 2) := by decide +kernel
theorem dX7_head_26 : decode cX7_head 26 = .ok (.iload 4, 2) := by decide +kernel
theorem dX7_head_28 : decode cX7_head 28 = .ok (.bipush 8, 2) := by decide +kernel
theorem dX7_head_30 : decode cX7_head 30 = .ok (.if_icmp .ge 46, 3) := by decide +kernel
theorem dX7_head_33 : decode cX7_head 33 = .ok (.aload_n 0, 1) := by decide +kernel
theorem dX7_head_34 : decode cX7_head 34 = .ok (.getfield 7, 3) := by decide +kernel
theorem dX7_head_37 : decode cX7_head 37 = .ok (.iload 4, 2) := by decide +kernel
theorem dX7_head_39 : decode cX7_head 39 = .ok (.iaload, 1) := by decide +kernel
theorem dX7_head_40 : decode cX7_head 40 = .ok (.iconst 2, 1) := by decide +kernel
theorem dX7_head_41 : decode cX7_head 41 = .ok (.if_icmp .ne 29, 3) := by decide +kernel
theorem dX7_head_44 : decode cX7_head 44 = .ok (.aload_n 0, 1) := by decide +kernel
theorem dX7_head_45 : decode cX7_head 45 = .ok (.iload 4, 2) := by decide +kernel
theorem dX7_head_47 : decode cX7_head 47 = .ok (.iload_n 1, 1) := by decide +kernel
theorem dX7_head_48 : decode cX7_head 48 = .ok (.invokevirtual 312, 3) := by decide +kernel
theorem dX7_head_51 : decode cX7_head 51 = .ok (.istore 5, 2) := by decide +kernel
theorem dX7_head_53 : decode cX7_head 53 = .ok (.iload_n 2, 1) := by decide +kernel
theorem dX7_head_54 : decode cX7_head 54 = .ok (.iconst (-1), 1) := by decide +kernel
theorem dX7_head_55 : decode cX7_head 55 = .ok (.if_icmp .eq 9, 3) := by decide +kernel
theorem dX7_head_58 : decode cX7_head 58 = .ok (.iload 5, 2) := by decide +kernel
theorem dX7_head_60 : decode cX7_head 60 = .ok (.iload_n 3, 1) := by decide +kernel
theorem dX7_head_61 : decode cX7_head 61 = .ok (.if_icmp .ge 9, 3) := by decide +kernel
theorem dX7_head_64 : decode cX7_head 64 = .ok (.iload 4, 2) := by decide +kernel
theorem dX7_head_66 : decode cX7_head 66 = .ok (.istore_n 2, 1) := by decide +kernel
theorem dX7_head_67 : decode cX7_head 67 = .ok (.iload 5, 2) := by decide +kernel
theorem dX7_head_69 : decode cX7_head 69 = .ok (.istore_n 3, 1) := by decide +kernel
theorem dX7_head_70 : decode cX7_head 70 = .ok (.iinc 4 1, 3) := by decide +kernel
theorem dX7_head_73 : decode cX7_head 73 = .ok (.goto (-47), 3) := by decide +kernel
theorem dX7_head_76 : decode cX7_head 76 = .ok (.iload_n 2, 1) := by decide +kernel
theorem dX7_head_77 : decode cX7_head 77 = .ok (.iconst (-1), 1) := by decide +kernel
theorem dX7_head_78 : decode cX7_head 78 = .ok (.if_icmp .ne 12, 3) := by decide +kernel
theorem dX7_head_81 : decode cX7_head 81 = .ok (.aload_n 0, 1) := by decide +kernel
theorem dX7_head_82 : decode cX7_head 82 = .ok (.bipush (-5), 2) := by decide +kernel
theorem dX7_head_84 : decode cX7_head 84 = .ok (.invokevirtual 97, 3) := by decide +kernel
theorem dX7_head_87 : decode cX7_head 87 = .ok (.goto 4, 3) := by decide +kernel
theorem dX7_head_90 : decode cX7_head 90 = .ok (.iload_n 2, 1) := by decide +kernel
theorem dX7_head_91 : decode cX7_head 91 = .ok (.ireturn, 1) := by decide +kernel
theorem dX7_holder_0 : decode cX7_holder 0 = .ok (.aload_n 0, 1) := by decide +kernel
theorem dX7_holder_1 : decode cX7_holder 1 = .ok (.iload_n 3, 1) := by decide +kernel
theorem dX7_holder_2 : decode cX7_holder 2 = .ok (.invokevirtual 139, 3) := by decide +kernel
theorem dX7_holder_5 : decode cX7_holder 5 = .ok (.ifCond .ne 10, 3) := by decide +kernel
theorem dX7_holder_8 : decode cX7_holder 8 = .ok (.aload_n 0, 1) := by decide +kernel
theorem dX7_holder_9 : decode cX7_holder 9 = .ok (.bipush (-2), 2) := by decide +kernel
theorem dX7_holder_11 : decode cX7_holder 11 = .ok (.invokevirtual 97, 3) := by decide +kernel
theorem dX7_holder_14 : decode cX7_holder 14 = .ok (.ireturn, 1) := by decide +kernel
theorem dX7_holder_15 : decode cX7_holder 15 = .ok (.aload_n 0, 1) := by decide +kernel
theorem dX7_holder_16 : decode cX7_holder 16 = .ok (.iload_n 1, 1) := by decide +kernel
theorem dX7_holder_17 : decode cX7_holder 17 = .ok (.iload_n 2, 1) := by decide +kernel
theorem dX7_holder_18 : decode cX7_holder 18 = .ok (.invokevirtual 309, 3) := by decide +kernel
theorem dX7_holder_21 : decode cX7_holder 21 = .ok (.istore 4, 2) := by decide +kernel
theorem dX7_holder_23 : decode cX7_holder 23 = .ok (.iload 4, 2) := by decide +kernel
theorem dX7_holder_25 : decode cX7_holder 25 = .ok (.ifCond .eq 6, 3) := by decide +kernel
theorem dX7_holder_28 : decode cX7_holder 28 = .ok (.iload 4, 2) := by decide +kernel
theorem dX7_holder_30 : decode cX7_holder 30 = .ok (.ireturn, 1) := by decide +kernel
theorem dX7_holder_31 : decode cX7_holder 31 = .ok (.aload_n 0, 1) := by decide +kernel
theorem dX7_holder_32 : decode cX7_holder 32 = .ok (.iload_n 1, 1) := by decide +kernel
theorem dX7_holder_33 : decode cX7_holder 33 = .ok (.iload_n 2, 1) := by decide +kernel
theorem dX7_holder_34 : decode cX7_holder 34 = .ok (.invokevirtual 312, 3) := by decide +kernel
theorem dX7_holder_37 : decode cX7_holder 37 = .ok (.pop, 1) := by decide +kernel
theorem dX7_holder_38 : decode cX7_holder 38 = .ok (.aload_n 0, 1) := by decide +kernel
theorem dX7_holder_39 : decode cX7_holder 39 = .ok (.getfield 281, 3) := by decide +kernel
theorem dX7_holder_42 : decode cX7_holder 42 = .ok (.getfield 67, 3) := by decide +kernel
theorem dX7_holder_45 : decode cX7_holder 45 = .ok (.iload_n 3, 1) := by decide +kernel
theorem dX7_holder_46 : decode cX7_holder 46 = .ok (.iaload, 1) := by decide +kernel
theorem dX7_holder_47 : decode cX7_holder 47 = .ok (.ireturn, 1) := by decide +kernel
theorem dX7_holds_0 : decode cX7_holds 0 = .ok (.iload_n 1, 1) := by decide +kernel
theorem dX7_holds_1 : decode cX7_holds 1 = .ok (.i2l, 1) := by decide +kernel
theorem dX7_holds_2 : decode cX7_holds 2 = .ok (.lconst 0, 1) := by decide +kernel
theorem dX7_holds_3 : decode cX7_holds 3 = .ok (.ldc2_w 91, 3) := by decide +kernel
theorem dX7_holds_6 : decode cX7_holds 6 = .ok (.invokestatic 83, 3) := by decide +kernel
theorem dX7_holds_9 : decode cX7_holds 9 = .ok (.ifCond .eq 12, 3) := by decide +kernel
theorem dX7_holds_12 : decode cX7_holds 12 = .ok (.aload_n 0, 1) := by decide +kernel
theorem dX7_holds_13 : decode cX7_holds 13 = .ok (.getfield 7, 3) := by decide +kernel
theorem dX7_holds_16 : decode cX7_holds 16 = .ok (.iload_n 1, 1) := by decide +kernel
theorem dX7_holds_17 : decode cX7_holds 17 = .ok (.iaload, 1) := by decide +kernel
theorem dX7_holds_18 : decode cX7_holds 18 = .ok (.ifCond .ne 5, 3) := by decide +kernel
theorem dX7_holds_21 : decode cX7_holds 21 = .ok (.iconst (-1), 1) := by decide +kernel
theorem dX7_holds_22 : decode cX7_holds 22 = .ok (.ireturn, 1) := by decide +kernel
theorem dX7_holds_23 : decode cX7_holds 23 = .ok (.aload_n 0, 1) := by decide +kernel
theorem dX7_holds_24 : decode cX7_holds 24 = .ok (.getfield 7, 3) := by decide +kernel
theorem dX7_holds_27 : decode cX7_holds 27 = .ok (.iload_n 1, 1) := by decide +kernel
theorem dX7_holds_28 : decode cX7_holds 28 = .ok (.iaload, 1) := by decide +kernel
theorem dX7_holds_29 : decode cX7_holds 29 = .ok (.iconst 1, 1) := by decide +kernel
theorem dX7_holds_30 : decode cX7_holds 30 = .ok (.if_icmp .ne 12, 3) := by decide +kernel
theorem dX7_holds_33 : decode cX7_holds 33 = .ok (.aload_n 0, 1) := by decide +kernel
theorem dX7_holds_34 : decode cX7_holds 34 = .ok (.getfield 13, 3) := by decide +kernel
theorem dX7_holds_37 : decode cX7_holds 37 = .ok (.iload_n 1, 1) := by decide +kernel
theorem dX7_holds_38 : decode cX7_holds 38 = .ok (.iaload, 1) := by decide +kernel
theorem dX7_holds_39 : decode cX7_holds 39 = .ok (.goto 12, 3) := by decide +kernel
theorem dX7_holds_42 : decode cX7_holds 42 = .ok (.bipush 10, 2) := by decide +kernel
theorem dX7_holds_44 : decode cX7_holds 44 = .ok (.aload_n 0, 1) := by decide +kernel
theorem dX7_holds_45 : decode cX7_holds 45 = .ok (.getfield 28, 3) := by decide +kernel
theorem dX7_holds_48 : decode cX7_holds 48 = .ok (.iload_n 1, 1) := by decide +kernel
theorem dX7_holds_49 : decode cX7_holds 49 = .ok (.iaload, 1) := by decide +kernel
theorem dX7_holds_50 : decode cX7_holds 50 = .ok (.iadd, 1) := by decide +kernel
theorem dX7_holds_51 : decode cX7_holds 51 = .ok (.ireturn, 1) := by decide +kernel
theorem dX7_image_0 : decode cX7_image 0 = .ok (.aload_n 0, 1) := by decide +kernel
theorem dX7_image_1 : decode cX7_image 1 = .ok (.getfield 339, 3) := by decide +kernel
theorem dX7_image_4 : decode cX7_image 4 = .ok (.ifnonnull 14, 3) := by decide +kernel
theorem dX7_image_7 : decode cX7_image 7 = .ok (.aload_n 0, 1) := by decide +kernel
theorem dX7_image_8 : decode cX7_image 8 = .ok (.new 8, 3) := by decide +kernel
theorem dX7_image_11 : decode cX7_image 11 = .ok (.dup, 1) := by decide +kernel
theorem dX7_image_12 : decode cX7_image 12 = .ok (.invokespecial 285, 3) := by decide +kernel
theorem dX7_image_15 : decode cX7_image 15 = .ok (.putfield 339, 3) := by decide +kernel
theorem dX7_image_18 : decode cX7_image 18 = .ok (.aload_n 0, 1) := by decide +kernel
theorem dX7_image_19 : decode cX7_image 19 = .ok (.getfield 339, 3) := by decide +kernel
theorem dX7_image_22 : decode cX7_image 22 = .ok (.aload_n 0, 1) := by decide +kernel
theorem dX7_image_23 : decode cX7_image 23 = .ok (.invokevirtual 286, 3) := by decide +kernel
theorem dX7_image_26 : decode cX7_image 26 = .ok (.iconst 1, 1) := by decide +kernel
theorem dX7_image_27 : decode cX7_image 27 = .ok (.ireturn, 1) := by decide +kernel
theorem dX7_income_0 : decode cX7_income 0 = .ok (.iload_n 1, 1) := by decide +kernel
theorem dX7_income_1 : decode cX7_income 1 = .ok (.i2l, 1) := by decide +kernel
theorem dX7_income_2 : decode cX7_income 2 = .ok (.lconst 0, 1) := by decide +kernel
theorem dX7_income_3 : decode cX7_income 3 = .ok (.ldc2_w 146, 3) := by decide +kernel
theorem dX7_income_6 : decode cX7_income 6 = .ok (.invokestatic 83, 3) := by decide +kernel
theorem dX7_income_9 : decode cX7_income 9 = .ok (.ifCond .eq 15, 3) := by decide +kernel
theorem dX7_income_12 : decode cX7_income 12 = .ok (.iload_n 2, 1) := by decide +kernel
theorem dX7_income_13 : decode cX7_income 13 = .ok (.i2l, 1) := by decide +kernel
theorem dX7_income_14 : decode cX7_income 14 = .ok (.lconst 0, 1) := by decide +kernel
theorem dX7_income_15 : decode cX7_income 15 = .ok (.ldc2_w 107, 3) := by decide +kernel
theorem dX7_income_18 : decode cX7_income 18 = .ok (.invokestatic 83, 3) := by decide +kernel
theorem dX7_income_21 : decode cX7_income 21 = .ok (.ifCond .ne 10, 3) := by decide +kernel
theorem dX7_income_24 : decode cX7_income 24 = .ok (.aload_n 0, 1) := by decide +kernel
theorem dX7_income_25 : decode cX7_income 25 = .ok (.bipush (-2), 2) := by decide +kernel
theorem dX7_income_27 : decode cX7_income 27 = .ok (.invokevirtual 97, 3) := by decide +kernel
theorem dX7_income_30 : decode cX7_income 30 = .ok (.ireturn, 1) := by decide +kernel
theorem dX7_income_31 : decode cX7_income 31 = .ok (.aload_n 0, 1) := by decide +kernel
theorem dX7_income_32 : decode cX7_income 32 = .ok (.getfield 45, 3) := by decide +kernel
theorem dX7_income_35 : decode cX7_income 35 = .ok (.iload_n 1, 1) := by decide +kernel
theorem dX7_income_36 : decode cX7_income 36 = .ok (.iaload, 1) := by decide +kernel
theorem dX7_income_37 : decode cX7_income 37 = .ok (.istore_n 3, 1) := by decide +kernel
theorem dX7_income_38 : decode cX7_income 38 = .ok (.aload_n 0, 1) := by decide +kernel
theorem dX7_income_39 : decode cX7_income 39 = .ok (.getfield 45, 3) := by decide +kernel
theorem dX7_income_42 : decode cX7_income 42 = .ok (.iload_n 1, 1) := by decide +kernel
theorem dX7_income_43 : decode cX7_income 43 = .ok (.iload_n 2, 1) := by decide +kernel
theorem dX7_income_44 : decode cX7_income 44 = .ok (.iastore, 1) := by decide +kernel
theorem dX7_income_45 : decode cX7_income 45 = .ok (.iload_n 3, 1) := by decide +kernel
theorem dX7_income_46 : decode cX7_income 46 = .ok (.ireturn, 1) := by decide +kernel
theorem dX7_isDigit_0 : decode cX7_isDigit 0 = .ok (.iload_n 0, 1) := by decide +kernel
theorem dX7_isDigit_1 : decode cX7_isDigit 1 = .ok (.bipush 48, 2) := by decide +kernel
theorem dX7_isDigit_3 : decode cX7_isDigit 3 = .ok (.if_icmp .lt 13, 3) := by decide +kernel
theorem dX7_isDigit_6 : decode cX7_isDigit 6 = .ok (.iload_n 0, 1) := by decide +kernel
theorem dX7_isDigit_7 : decode cX7_isDigit 7 = .ok (.bipush 57, 2) := by decide +kernel
theorem dX7_isDigit_9 : decode cX7_isDigit 9 = .ok (.if_icmp .gt 7, 3) := by decide +kernel
theorem dX7_isDigit_12 : decode cX7_isDigit 12 = .ok (.iconst 1, 1) := by decide +kernel
theorem dX7_isDigit_13 : decode cX7_isDigit 13 = .ok (.goto 4, 3) := by decide +kernel
theorem dX7_isDigit_16 : decode cX7_isDigit 16 = .ok (.iconst 0, 1) := by decide +kernel
theorem dX7_isDigit_17 : decode cX7_isDigit 17 = .ok (.ireturn, 1) := by decide +kernel
theorem dX7_isLetter_0 : decode cX7_isLetter 0 = .ok (.iload_n 0, 1) := by decide +kernel
theorem dX7_isLetter_1 : decode cX7_isLetter 1 = .ok (.bipush 97, 2) := by decide +kernel
theorem dX7_isLetter_3 : decode cX7_isLetter 3 = .ok (.if_icmp .lt 13, 3) := by decide +kernel
theorem dX7_isLetter_6 : decode cX7_isLetter 6 = .ok (.iload_n 0, 1) := by decide +kernel
theorem dX7_isLetter_7 : decode cX7_isLetter 7 = .ok (.bipush 122, 2) := by decide +kernel
theorem dX7_isLetter_9 : decode cX7_isLetter 9 = .ok (.if_icmp .gt 7, 3) := by decide +kernel
theorem dX7_isLetter_12 : decode cX7_isLetter 12 = .ok (.iconst 1, 1) := by decide +kernel
theorem dX7_isLetter_13 : decode cX7_isLetter 13 = .ok (.goto 4, 3) := by decide +kernel
theorem dX7_isLetter_16 : decode cX7_isLetter 16 = .ok (.iconst 0, 1) := by decide +kernel
theorem dX7_isLetter_17 : decode cX7_isLetter 17 = .ok (.ireturn, 1) := by decide +kernel
theorem dX7_isUnder_0 : decode cX7_isUnder 0 = .ok (.iload_n 1, 1) := by decide +kernel
theorem dX7_isUnder_1 : decode cX7_isUnder 1 = .ok (.ifCond .eq 29, 3) := by decide +kernel
theorem dX7_isUnder_4 : decode cX7_isUnder 4 = .ok (.iload_n 0, 1) := by decide +kernel
theorem dX7_isUnder_5 : decode cX7_isUnder 5 = .ok (.iload_n 1, 1) := by decide +kernel
theorem dX7_isUnder_6 : decode cX7_isUnder 6 = .ok (.if_icmp .eq 24, 3) := by decide +kernel
theorem dX7_isUnder_9 : decode cX7_isUnder 9 = .ok (.iload_n 1, 1) := by decide +kernel
theorem dX7_isUnder_10 : decode cX7_isUnder 10 = .ok (.iconst 1, 1) := by decide +kernel
theorem dX7_isUnder_11 : decode cX7_isUnder 11 = .ok (.if_icmp .ne 8, 3) := by decide +kernel
theorem dX7_isUnder_14 : decode cX7_isUnder 14 = .ok (.iload_n 0, 1) := by decide +kernel
theorem dX7_isUnder_15 : decode cX7_isUnder 15 = .ok (.iconst 3, 1) := by decide +kernel
theorem dX7_isUnder_16 : decode cX7_isUnder 16 = .ok (.if_icmp .eq 14, 3) := by decide +kernel
theorem dX7_isUnder_19 : decode cX7_isUnder 19 = .ok (.iload_n 1, 1) := by decide +kernel
theorem dX7_isUnder_20 : decode cX7_isUnder 20 = .ok (.iconst 2, 1) := by decide +kernel
theorem dX7_isUnder_21 : decode cX7_isUnder 21 = .ok (.if_icmp .ne 13, 3) := by decide +kernel
theorem dX7_isUnder_24 : decode cX7_isUnder 24 = .ok (.iload_n 0, 1) := by decide +kernel
theorem dX7_isUnder_25 : decode cX7_isUnder 25 = .ok (.bipush 6, 2) := by decide +kernel
theorem dX7_isUnder_27 : decode cX7_isUnder 27 = .ok (.if_icmp .ne 7, 3) := by decide +kernel
theorem dX7_isUnder_30 : decode cX7_isUnder 30 = .ok (.iconst 1, 1) := by decide +kernel
theorem dX7_isUnder_31 : decode cX7_isUnder 31 = .ok (.goto 4, 3) := by decide +kernel
theorem dX7_isUnder_34 : decode cX7_isUnder 34 = .ok (.iconst 0, 1) := by decide +kernel
theorem dX7_isUnder_35 : decode cX7_isUnder 35 = .ok (.ireturn, 1) := by decide +kernel
theorem dX7_isWord_0 : decode cX7_isWord 0 = .ok (.aload_n 0, 1) := by decide +kernel
theorem dX7_isWord_1 : decode cX7_isWord 1 = .ok (.getfield 170, 3) := by decide +kernel
theorem dX7_isWord_4 : decode cX7_isWord 4 = .ok (.iconst 1, 1) := by decide +kernel
theorem dX7_isWord_5 : decode cX7_isWord 5 = .ok (.if_icmp .ne 19, 3) := by decide +kernel
theorem dX7_isWord_8 : decode cX7_isWord 8 = .ok (.aload_n 0, 1) := by decide +kernel
theorem dX7_isWord_9 : decode cX7_isWord 9 = .ok (.getfield 160, 3) := by decide +kernel
theorem dX7_isWord_12 : decode cX7_isWord 12 = .ok (.aload_n 0, 1) := by decide +kernel
theorem dX7_isWord_13 : decode cX7_isWord 13 = .ok (.getfield 163, 3) := by decide +kernel
theorem dX7_isWord_16 : decode cX7_isWord 16 = .ok (.isub, 1) := by decide +kernel
theorem dX7_isWord_17 : decode cX7_isWord 17 = .ok (.aload_n 1, 1) := by decide +kernel
theorem dX7_isWord_18 : decode cX7_isWord 18 = .ok (.invokevirtual 186, 3) := by decide +kernel
theorem dX7_isWord_21 : decode cX7_isWord 21 = .ok (.if_icmp .eq 5, 3) := by decide +kernel
theorem dX7_isWord_24 : decode cX7_isWord 24 = .ok (.iconst 0, 1) := by decide +kernel
theorem dX7_isWord_25 : decode cX7_isWord 25 = .ok (.ireturn, 1) := by decide +kernel
theorem dX7_isWord_26 : decode cX7_isWord 26 = .ok (.iconst 0, 1) := by decide +kernel
theorem dX7_isWord_27 : decode cX7_isWord 27 = .ok (.istore_n 2, 1) := by decide +kernel
theorem dX7_isWord_28 : decode cX7_isWord 28 = .ok (.iload_n 2, 1) := by decide +kernel
theorem dX7_isWord_29 : decode cX7_isWord 29 = .ok (.aload_n 1, 1) := by decide +kernel
theorem dX7_isWord_30 : decode cX7_isWord 30 = .ok (.invokevirtual 186, 3) := by decide +kernel
theorem dX7_isWord_33 : decode cX7_isWord 33 = .ok (.if_icmp .ge 30, 3) := by decide +kernel
theorem dX7_isWord_36 : decode cX7_isWord 36 = .ok (.aload_n 0, 1) := by decide +kernel
theorem dX7_isWord_37 : decode cX7_isWord 37 = .ok (.getfield 34, 3) := by decide +kernel
theorem dX7_isWord_40 : decode cX7_isWord 40 = .ok (.aload_n 0, 1) := by decide +kernel
theorem dX7_isWord_41 : decode cX7_isWord 41 = .ok (.getfield 163, 3) := by decide +kernel
theorem dX7_isWord_44 : decode cX7_isWord 44 = .ok (.iload_n 2, 1) := by decide +kernel
theorem dX7_isWord_45 : decode cX7_isWord 45 = .ok (.iadd, 1) := by decide +kernel
theorem dX7_isWord_46 : decode cX7_isWord 46 = .ok (.iaload, 1) := by decide +kernel
theorem dX7_isWord_47 : decode cX7_isWord 47 = .ok (.aload_n 1, 1) := by decide +kernel
theorem dX7_isWord_48 : decode cX7_isWord 48 = .ok (.iload_n 2, 1) := by decide +kernel
theorem dX7_isWord_49 : decode cX7_isWord 49 = .ok (.invokevirtual 191, 3) := by decide +kernel
theorem dX7_isWord_52 : decode cX7_isWord 52 = .ok (.if_icmp .eq 5, 3) := by decide +kernel
theorem dX7_isWord_55 : decode cX7_isWord 55 = .ok (.iconst 0, 1) := by decide +kernel
theorem dX7_isWord_56 : decode cX7_isWord 56 = .ok (.ireturn, 1) := by decide +kernel
theorem dX7_isWord_57 : decode cX7_isWord 57 = .ok (.iinc 2 1, 3) := by decide +kernel
theorem dX7_isWord_60 : decode cX7_isWord 60 = .ok (.goto (-32), 3) := by decide +kernel
theorem dX7_isWord_63 : decode cX7_isWord 63 = .ok (.iconst 1, 1) := by decide +kernel
theorem dX7_isWord_64 : decode cX7_isWord 64 = .ok (.ireturn, 1) := by decide +kernel
theorem dX7_noRow_0 : decode cX7_noRow 0 = .ok (.iload_n 1, 1) := by decide +kernel
theorem dX7_noRow_1 : decode cX7_noRow 1 = .ok (.i2l, 1) := by decide +kernel
theorem dX7_noRow_2 : decode cX7_noRow 2 = .ok (.lconst 0, 1) := by decide +kernel
theorem dX7_noRow_3 : decode cX7_noRow 3 = .ok (.ldc2_w 91, 3) := by decide +kernel
theorem dX7_noRow_6 : decode cX7_noRow 6 = .ok (.invokestatic 83, 3) := by decide +kernel
theorem dX7_noRow_9 : decode cX7_noRow 9 = .ok (.ifCond .ne 10, 3) := by decide +kernel
theorem dX7_noRow_12 : decode cX7_noRow 12 = .ok (.aload_n 0, 1) := by decide +kernel
theorem dX7_noRow_13 : decode cX7_noRow 13 = .ok (.bipush (-2), 2) := by decide +kernel
theorem dX7_noRow_15 : decode cX7_noRow 15 = .ok (.invokevirtual 97, 3) := by decide +kernel
theorem dX7_noRow_18 : decode cX7_noRow 18 = .ok (.ireturn, 1) := by decide +kernel
theorem dX7_noRow_19 : decode cX7_noRow 19 = .ok (.aload_n 0, 1) := by decide +kernel
theorem dX7_noRow_20 : decode cX7_noRow 20 = .ok (.getfield 7, 3) := by decide +kernel
theorem dX7_noRow_23 : decode cX7_noRow 23 = .ok (.iload_n 1, 1) := by decide +kernel
theorem dX7_noRow_24 : decode cX7_noRow 24 = .ok (.iaload, 1) := by decide +kernel
theorem dX7_noRow_25 : decode cX7_noRow 25 = .ok (.iconst 2, 1) := by decide +kernel
theorem dX7_noRow_26 : decode cX7_noRow 26 = .ok (.if_icmp .ne 10, 3) := by decide +kernel
theorem dX7_noRow_29 : decode cX7_noRow 29 = .ok (.aload_n 0, 1) := by decide +kernel
theorem dX7_noRow_30 : decode cX7_noRow 30 = .ok (.bipush (-3), 2) := by decide +kernel
theorem dX7_noRow_32 : decode cX7_noRow 32 = .ok (.invokevirtual 97, 3) := by decide +kernel
theorem dX7_noRow_35 : decode cX7_noRow 35 = .ok (.ireturn, 1) := by decide +kernel
theorem dX7_noRow_36 : decode cX7_noRow 36 = .ok (.aload_n 0, 1) := by decide +kernel
theorem dX7_noRow_37 : decode cX7_noRow 37 = .ok (.getfield 7, 3) := by decide +kernel
theorem dX7_noRow_40 : decode cX7_noRow 40 = .ok (.iload_n 1, 1) := by decide +kernel
theorem dX7_noRow_41 : decode cX7_noRow 41 = .ok (.iaload, 1) := by decide +kernel
theorem dX7_noRow_42 : decode cX7_noRow 42 = .ok (.ifCond .ne 12, 3) := by decide +kernel
theorem dX7_noRow_45 : decode cX7_noRow 45 = .ok (.aload_n 0, 1) := by decide +kernel
theorem dX7_noRow_46 : decode cX7_noRow 46 = .ok (.bipush (-4), 2) := by decide +kernel
theorem dX7_noRow_48 : decode cX7_noRow 48 = .ok (.invokevirtual 97, 3) := by decide +kernel
theorem dX7_noRow_51 : decode cX7_noRow 51 = .ok (.goto 4, 3) := by decide +kernel
theorem dX7_noRow_54 : decode cX7_noRow 54 = .ok (.iconst 0, 1) := by decide +kernel
theorem dX7_noRow_55 : decode cX7_noRow 55 = .ok (.ireturn, 1) := by decide +kernel
theorem dX7_judge_0 : decode cX7_judge 0 = .ok (.aload_n 0, 1) := by decide +kernel
theorem dX7_judge_1 : decode cX7_judge 1 = .ok (.iload_n 1, 1) := by decide +kernel
theorem dX7_judge_2 : decode cX7_judge 2 = .ok (.invokevirtual 275, 3) := by decide +kernel
theorem dX7_judge_5 : decode cX7_judge 5 = .ok (.istore_n 2, 1) := by decide +kernel
theorem dX7_judge_6 : decode cX7_judge 6 = .ok (.iload_n 2, 1) := by decide +kernel
theorem dX7_judge_7 : decode cX7_judge 7 = .ok (.ifCond .eq 7, 3) := by decide +kernel
theorem dX7_judge_10 : decode cX7_judge 10 = .ok (.iload_n 2, 1) := by decide +kernel
theorem dX7_judge_11 : decode cX7_judge 11 = .ok (.goto 8, 3) := by decide +kernel
theorem dX7_judge_14 : decode cX7_judge 14 = .ok (.aload_n 0, 1) := by decide +kernel
theorem dX7_judge_15 : decode cX7_judge 15 = .ok (.iload_n 1, 1) := by decide +kernel
theorem dX7_judge_16 : decode cX7_judge 16 = .ok (.invokevirtual 278, 3) := by decide +kernel
theorem dX7_judge_19 : decode cX7_judge 19 = .ok (.ireturn, 1) := by decide +kernel
theorem dX7_look_0 : decode cX7_look 0 = .ok (.aload_n 0, 1) := by decide +kernel
theorem dX7_look_1 : decode cX7_look 1 = .ok (.getfield 160, 3) := by decide +kernel
theorem dX7_look_4 : decode cX7_look 4 = .ok (.aload_n 0, 1) := by decide +kernel
theorem dX7_look_5 : decode cX7_look 5 = .ok (.getfield 157, 3) := by decide +kernel
theorem dX7_look_8 : decode cX7_look 8 = .ok (.if_icmp .ge 30, 3) := by decide +kernel
theorem dX7_look_11 : decode cX7_look 11 = .ok (.aload_n 0, 1) := by decide +kernel
theorem dX7_look_12 : decode cX7_look 12 = .ok (.getfield 34, 3) := by decide +kernel
theorem dX7_look_15 : decode cX7_look 15 = .ok (.aload_n 0, 1) := by decide +kernel
theorem dX7_look_16 : decode cX7_look 16 = .ok (.getfield 160, 3) := by decide +kernel
theorem dX7_look_19 : decode cX7_look 19 = .ok (.iaload, 1) := by decide +kernel
theorem dX7_look_20 : decode cX7_look 20 = .ok (.bipush 32, 2) := by decide +kernel
theorem dX7_look_22 : decode cX7_look 22 = .ok (.if_icmp .ne 16, 3) := by decide +kernel
theorem dX7_look_25 : decode cX7_look 25 = .ok (.aload_n 0, 1) := by decide +kernel
theorem dX7_look_26 : decode cX7_look 26 = .ok (.dup, 1) := by decide +kernel
theorem dX7_look_27 : decode cX7_look 27 = .ok (.getfield 160, 3) := by decide +kernel
theorem dX7_look_30 : decode cX7_look 30 = .ok (.iconst 1, 1) := by decide +kernel
theorem dX7_look_31 : decode cX7_look 31 = .ok (.iadd, 1) := by decide +kernel
theorem dX7_look_32 : decode cX7_look 32 = .ok (.putfield 160, 3) := by decide +kernel
theorem dX7_look_35 : decode cX7_look 35 = .ok (.goto (-35), 3) := by decide +kernel
theorem dX7_look_38 : decode cX7_look 38 = .ok (.aload_n 0, 1) := by decide +kernel
theorem dX7_look_39 : decode cX7_look 39 = .ok (.aload_n 0, 1) := by decide +kernel
theorem dX7_look_40 : decode cX7_look 40 = .ok (.getfield 160, 3) := by decide +kernel
theorem dX7_look_43 : decode cX7_look 43 = .ok (.putfield 163, 3) := by decide +kernel
theorem dX7_look_46 : decode cX7_look 46 = .ok (.aload_n 0, 1) := by decide +kernel
theorem dX7_look_47 : decode cX7_look 47 = .ok (.lconst 0, 1) := by decide +kernel
theorem dX7_look_48 : decode cX7_look 48 = .ok (.putfield 166, 3) := by decide +kernel
theorem dX7_look_51 : decode cX7_look 51 = .ok (.aload_n 0, 1) := by decide +kernel
theorem dX7_look_52 : decode cX7_look 52 = .ok (.getfield 160, 3) := by decide +kernel
theorem dX7_look_55 : decode cX7_look 55 = .ok (.aload_n 0, 1) := by decide +kernel
theorem dX7_look_56 : decode cX7_look 56 = .ok (.getfield 157, 3) := by decide +kernel
theorem dX7_look_59 : decode cX7_look 59 = .ok (.if_icmp .ne 11, 3) := by decide +kernel
theorem dX7_look_62 : decode cX7_look 62 = .ok (.aload_n 0, 1) := by decide +kernel
theorem dX7_look_63 : decode cX7_look 63 = .ok (.iconst 0, 1) := by decide +kernel
theorem dX7_look_64 : decode cX7_look 64 = .ok (.putfield 170, 3) := by decide +kernel
theorem dX7_look_67 : decode cX7_look 67 = .ok (.goto 200, 3) := by decide +kernel
theorem dX7_look_70 : decode cX7_look 70 = .ok (.aload_n 0, 1) := by decide +kernel
theorem dX7_look_71 : decode cX7_look 71 = .ok (.getfield 34, 3) := by decide +kernel
theorem dX7_look_74 : decode cX7_look 74 = .ok (.aload_n 0, 1) := by decide +kernel
theorem dX7_look_75 : decode cX7_look 75 = .ok (.getfield 160, 3) := by decide +kernel
theorem dX7_look_78 : decode cX7_look 78 = .ok (.iaload, 1) := by decide +kernel
theorem dX7_look_79 : decode cX7_look 79 = .ok (.invokestatic 173, 3) := by decide +kernel
theorem dX7_look_82 : decode cX7_look 82 = .ok (.ifCond .eq 47, 3) := by decide +kernel
theorem dX7_look_85 : decode cX7_look 85 = .ok (.aload_n 0, 1) := by decide +kernel
theorem dX7_look_86 : decode cX7_look 86 = .ok (.iconst 1, 1) := by decide +kernel
theorem dX7_look_87 : decode cX7_look 87 = .ok (.putfield 170, 3) := by decide +kernel
theorem dX7_look_90 : decode cX7_look 90 = .ok (.aload_n 0, 1) := by decide +kernel
theorem dX7_look_91 : decode cX7_look 91 = .ok (.getfield 160, 3) := by decide +kernel
theorem dX7_look_94 : decode cX7_look 94 = .ok (.aload_n 0, 1) := by decide +kernel
theorem dX7_look_95 : decode cX7_look 95 = .ok (.getfield 157, 3) := by decide +kernel
theorem dX7_look_98 : decode cX7_look 98 = .ok (.if_icmp .ge 169, 3) := by decide +kernel
theorem dX7_look_101 : decode cX7_look 101 = .ok (.aload_n 0, 1) := by decide +kernel
theorem dX7_look_102 : decode cX7_look 102 = .ok (.getfield 34, 3) := by decide +kernel
theorem dX7_look_105 : decode cX7_look 105 = .ok (.aload_n 0, 1) := by decide +kernel
theorem dX7_look_106 : decode cX7_look 106 = .ok (.getfield 160, 3) := by decide +kernel
theorem dX7_look_109 : decode cX7_look 109 = .ok (.iaload, 1) := by decide +kernel
theorem dX7_look_110 : decode cX7_look 110 = .ok (.invokestatic 173, 3) := by decide +kernel
theorem dX7_look_113 : decode cX7_look 113 = .ok (.ifCond .eq 154, 3) := by decide +kernel
theorem dX7_look_116 : decode cX7_look 116 = .ok (.aload_n 0, 1) := by decide +kernel
theorem dX7_look_117 : decode cX7_look 117 = .ok (.dup, 1) := by decide +kernel
theorem dX7_look_118 : decode cX7_look 118 = .ok (.getfield 160, 3) := by decide +kernel
theorem dX7_look_121 : decode cX7_look 121 = .ok (.iconst 1, 1) := by decide +kernel
theorem dX7_look_122 : decode cX7_look 122 = .ok (.iadd, 1) := by decide +kernel
theorem dX7_look_123 : decode cX7_look 123 = .ok (.putfield 160, 3) := by decide +kernel
theorem dX7_look_126 : decode cX7_look 126 = .ok (.goto (-36), 3) := by decide +kernel
theorem dX7_look_129 : decode cX7_look 129 = .ok (.aload_n 0, 1) := by decide +kernel
theorem dX7_look_130 : decode cX7_look 130 = .ok (.getfield 34, 3) := by decide +kernel
theorem dX7_look_133 : decode cX7_look 133 = .ok (.aload_n 0, 1) := by decide +kernel
theorem dX7_look_134 : decode cX7_look 134 = .ok (.getfield 160, 3) := by decide +kernel
theorem dX7_look_137 : decode cX7_look 137 = .ok (.iaload, 1) := by decide +kernel
theorem dX7_look_138 : decode cX7_look 138 = .ok (.invokestatic 176, 3) := by decide +kernel
theorem dX7_look_141 : decode cX7_look 141 = .ok (.ifCond .eq 93, 3) := by decide +kernel
theorem dX7_look_144 : decode cX7_look 144 = .ok (.aload_n 0, 1) := by decide +kernel
theorem dX7_look_145 : decode cX7_look 145 = .ok (.iconst 2, 1) := by decide +kernel
theorem dX7_look_146 : decode cX7_look 146 = .ok (.putfield 170, 3) := by decide +kernel
theorem dX7_look_149 : decode cX7_look 149 = .ok (.aload_n 0, 1) := by decide +kernel
theorem dX7_look_150 : decode cX7_look 150 = .ok (.getfield 160, 3) := by decide +kernel
theorem dX7_look_153 : decode cX7_look 153 = .ok (.aload_n 0, 1) := by decide +kernel
theorem dX7_look_154 : decode cX7_look 154 = .ok (.getfield 157, 3) := by decide +kernel
theorem dX7_look_157 : decode cX7_look 157 = .ok (.if_icmp .ge 110, 3) := by decide +kernel
theorem dX7_look_160 : decode cX7_look 160 = .ok (.aload_n 0, 1) := by decide +kernel
theorem dX7_look_161 : decode cX7_look 161 = .ok (.getfield 34, 3) := by decide +kernel
theorem dX7_look_164 : decode cX7_look 164 = .ok (.aload_n 0, 1) := by decide +kernel
theorem dX7_look_165 : decode cX7_look 165 = .ok (.getfield 160, 3) := by decide +kernel
theorem dX7_look_168 : decode cX7_look 168 = .ok (.iaload, 1) := by decide +kernel
theorem dX7_look_169 : decode cX7_look 169 = .ok (.invokestatic 176, 3) := by decide +kernel
theorem dX7_look_172 : decode cX7_look 172 = .ok (.ifCond .eq 95, 3) := by decide +kernel
theorem dX7_look_175 : decode cX7_look 175 = .ok (.aload_n 0, 1) := by decide +kernel
theorem dX7_look_176 : decode cX7_look 176 = .ok (.aload_n 0, 1) := by decide +kernel
theorem dX7_look_177 : decode cX7_look 177 = .ok (.getfield 160, 3) := by decide +kernel
theorem dX7_look_180 : decode cX7_look 180 = .ok (.aload_n 0, 1) := by decide +kernel
theorem dX7_look_181 : decode cX7_look 181 = .ok (.getfield 163, 3) := by decide +kernel
theorem dX7_look_184 : decode cX7_look 184 = .ok (.isub, 1) := by decide +kernel
theorem dX7_look_185 : decode cX7_look 185 = .ok (.iconst 3, 1) := by decide +kernel
theorem dX7_look_186 : decode cX7_look 186 = .ok (.if_icmp .ge 29, 3) := by decide +kernel
theorem dX7_look_189 : decode cX7_look 189 = .ok (.aload_n 0, 1) := by decide +kernel
theorem dX7_look_190 : decode cX7_look 190 = .ok (.getfield 166, 3) := by decide +kernel
theorem dX7_look_193 : decode cX7_look 193 = .ok (.ldc2_w 152, 3) := by decide +kernel
theorem dX7_look_196 : decode cX7_look 196 = .ok (.lmul, 1) := by decide +kernel
theorem dX7_look_197 : decode cX7_look 197 = .ok (.aload_n 0, 1) := by decide +kernel
theorem dX7_look_198 : decode cX7_look 198 = .ok (.getfield 34, 3) := by decide +kernel
theorem dX7_look_201 : decode cX7_look 201 = .ok (.aload_n 0, 1) := by decide +kernel
theorem dX7_look_202 : decode cX7_look 202 = .ok (.getfield 160, 3) := by decide +kernel
theorem dX7_look_205 : decode cX7_look 205 = .ok (.iaload, 1) := by decide +kernel
theorem dX7_look_206 : decode cX7_look 206 = .ok (.i2l, 1) := by decide +kernel
theorem dX7_look_207 : decode cX7_look 207 = .ok (.ladd, 1) := by decide +kernel
theorem dX7_look_208 : decode cX7_look 208 = .ok (.ldc2_w 179, 3) := by decide +kernel
theorem dX7_look_211 : decode cX7_look 211 = .ok (.lsub, 1) := by decide +kernel
theorem dX7_look_212 : decode cX7_look 212 = .ok (.goto 6, 3) := by decide +kernel
theorem dX7_look_215 : decode cX7_look 215 = .ok (.ldc2_w 181, 3) := by decide +kernel
theorem dX7_look_218 : decode cX7_look 218 = .ok (.putfield 166, 3) := by decide +kernel
theorem dX7_look_221 : decode cX7_look 221 = .ok (.aload_n 0, 1) := by decide +kernel
theorem dX7_look_222 : decode cX7_look 222 = .ok (.dup, 1) := by decide +kernel
theorem dX7_look_223 : decode cX7_look 223 = .ok (.getfield 160, 3) := by decide +kernel
theorem dX7_look_226 : decode cX7_look 226 = .ok (.iconst 1, 1) := by decide +kernel
theorem dX7_look_227 : decode cX7_look 227 = .ok (.iadd, 1) := by decide +kernel
theorem dX7_look_228 : decode cX7_look 228 = .ok (.putfield 160, 3) := by decide +kernel
theorem dX7_look_231 : decode cX7_look 231 = .ok (.goto (-82), 3) := by decide +kernel
theorem dX7_look_234 : decode cX7_look 234 = .ok (.aload_n 0, 1) := by decide +kernel
theorem dX7_look_235 : decode cX7_look 235 = .ok (.aload_n 0, 1) := by decide +kernel
theorem dX7_look_236 : decode cX7_look 236 = .ok (.getfield 34, 3) := by decide +kernel
theorem dX7_look_239 : decode cX7_look 239 = .ok (.aload_n 0, 1) := by decide +kernel
theorem dX7_look_240 : decode cX7_look 240 = .ok (.getfield 160, 3) := by decide +kernel
theorem dX7_look_243 : decode cX7_look 243 = .ok (.iaload, 1) := by decide +kernel
theorem dX7_look_244 : decode cX7_look 244 = .ok (.bipush 59, 2) := by decide +kernel
theorem dX7_look_246 : decode cX7_look 246 = .ok (.if_icmp .ne 7, 3) := by decide +kernel
theorem dX7_look_249 : decode cX7_look 249 = .ok (.iconst 3, 1) := by decide +kernel
theorem dX7_look_250 : decode cX7_look 250 = .ok (.goto 4, 3) := by decide +kernel
theorem dX7_look_253 : decode cX7_look 253 = .ok (.iconst 4, 1) := by decide +kernel
theorem dX7_look_254 : decode cX7_look 254 = .ok (.putfield 170, 3) := by decide +kernel
theorem dX7_look_257 : decode cX7_look 257 = .ok (.aload_n 0, 1) := by decide +kernel
theorem dX7_look_258 : decode cX7_look 258 = .ok (.dup, 1) := by decide +kernel
theorem dX7_look_259 : decode cX7_look 259 = .ok (.getfield 160, 3) := by decide +kernel
theorem dX7_look_262 : decode cX7_look 262 = .ok (.iconst 1, 1) := by decide +kernel
theorem dX7_look_263 : decode cX7_look 263 = .ok (.iadd, 1) := by decide +kernel
theorem dX7_look_264 : decode cX7_look 264 = .ok (.putfield 160, 3) := by decide +kernel
theorem dX7_look_267 : decode cX7_look 267 = .ok (.return_, 1) := by decide +kernel
theorem dX7_wrong_0 : decode cX7_wrong 0 = .ok (.aload_n 0, 1) := by decide +kernel
theorem dX7_wrong_1 : decode cX7_wrong 1 = .ok (.aload_n 0, 1) := by decide +kernel
theorem dX7_wrong_2 : decode cX7_wrong 2 = .ok (.getfield 163, 3) := by decide +kernel
theorem dX7_wrong_5 : decode cX7_wrong 5 = .ok (.putfield 183, 3) := by decide +kernel
theorem dX7_wrong_8 : decode cX7_wrong 8 = .ok (.iconst 0, 1) := by decide +kernel
theorem dX7_wrong_9 : decode cX7_wrong 9 = .ok (.ireturn, 1) := by decide +kernel
theorem dX7_told_0 : decode cX7_told 0 = .ok (.aload_n 0, 1) := by decide +kernel
theorem dX7_told_1 : decode cX7_told 1 = .ok (.aload_n 1, 1) := by decide +kernel
theorem dX7_told_2 : decode cX7_told 2 = .ok (.invokevirtual 195, 3) := by decide +kernel
theorem dX7_told_5 : decode cX7_told 5 = .ok (.ifCond .ne 8, 3) := by decide +kernel
theorem dX7_told_8 : decode cX7_told 8 = .ok (.aload_n 0, 1) := by decide +kernel
theorem dX7_told_9 : decode cX7_told 9 = .ok (.invokevirtual 199, 3) := by decide +kernel
theorem dX7_told_12 : decode cX7_told 12 = .ok (.ireturn, 1) := by decide +kernel
theorem dX7_told_13 : decode cX7_told 13 = .ok (.aload_n 0, 1) := by decide +kernel
theorem dX7_told_14 : decode cX7_told 14 = .ok (.invokevirtual 203, 3) := by decide +kernel
theorem dX7_told_17 : decode cX7_told 17 = .ok (.aload_n 0, 1) := by decide +kernel
theorem dX7_told_18 : decode cX7_told 18 = .ok (.getfield 170, 3) := by decide +kernel
theorem dX7_told_21 : decode cX7_told 21 = .ok (.iconst 2, 1) := by decide +kernel
theorem dX7_told_22 : decode cX7_told 22 = .ok (.if_icmp .ne 19, 3) := by decide +kernel
theorem dX7_told_25 : decode cX7_told 25 = .ok (.aload_n 0, 1) := by decide +kernel
theorem dX7_told_26 : decode cX7_told 26 = .ok (.getfield 166, 3) := by decide +kernel
theorem dX7_told_29 : decode cX7_told 29 = .ok (.iload 4, 2) := by decide +kernel
theorem dX7_told_31 : decode cX7_told 31 = .ok (.i2l, 1) := by decide +kernel
theorem dX7_told_32 : decode cX7_told 32 = .ok (.iload 5, 2) := by decide +kernel
theorem dX7_told_34 : decode cX7_told 34 = .ok (.i2l, 1) := by decide +kernel
theorem dX7_told_35 : decode cX7_told 35 = .ok (.invokestatic 83, 3) := by decide +kernel
theorem dX7_told_38 : decode cX7_told 38 = .ok (.ifCond .ne 8, 3) := by decide +kernel
theorem dX7_told_41 : decode cX7_told 41 = .ok (.aload_n 0, 1) := by decide +kernel
theorem dX7_told_42 : decode cX7_told 42 = .ok (.invokevirtual 199, 3) := by decide +kernel
theorem dX7_told_45 : decode cX7_told 45 = .ok (.ireturn, 1) := by decide +kernel
theorem dX7_told_46 : decode cX7_told 46 = .ok (.aload_n 2, 1) := by decide +kernel
theorem dX7_told_47 : decode cX7_told 47 = .ok (.iload_n 3, 1) := by decide +kernel
theorem dX7_told_48 : decode cX7_told 48 = .ok (.aload_n 0, 1) := by decide +kernel
theorem dX7_told_49 : decode cX7_told 49 = .ok (.getfield 166, 3) := by decide +kernel
theorem dX7_told_52 : decode cX7_told 52 = .ok (.l2i, 1) := by decide +kernel
theorem dX7_told_53 : decode cX7_told 53 = .ok (.iastore, 1) := by decide +kernel
theorem dX7_told_54 : decode cX7_told 54 = .ok (.aload_n 0, 1) := by decide +kernel
theorem dX7_told_55 : decode cX7_told 55 = .ok (.invokevirtual 203, 3) := by decide +kernel
theorem dX7_told_58 : decode cX7_told 58 = .ok (.iconst 1, 1) := by decide +kernel
theorem dX7_told_59 : decode cX7_told 59 = .ok (.ireturn, 1) := by decide +kernel
theorem dX7_perhaps_0 : decode cX7_perhaps 0 = .ok (.aload_n 0, 1) := by decide +kernel
theorem dX7_perhaps_1 : decode cX7_perhaps 1 = .ok (.aload_n 1, 1) := by decide +kernel
theorem dX7_perhaps_2 : decode cX7_perhaps 2 = .ok (.invokevirtual 195, 3) := by decide +kernel
theorem dX7_perhaps_5 : decode cX7_perhaps 5 = .ok (.ifCond .eq 17, 3) := by decide +kernel
theorem dX7_perhaps_8 : decode cX7_perhaps 8 = .ok (.aload_n 0, 1) := by decide +kernel
theorem dX7_perhaps_9 : decode cX7_perhaps 9 = .ok (.aload_n 1, 1) := by decide +kernel
theorem dX7_perhaps_10 : decode cX7_perhaps 10 = .ok (.aload_n 2, 1) := by decide +kernel
theorem dX7_perhaps_11 : decode cX7_perhaps 11 = .ok (.iload_n 3, 1) := by decide +kernel
theorem dX7_perhaps_12 : decode cX7_perhaps 12 = .ok (.iload 4, 2) := by decide +kernel
theorem dX7_perhaps_14 : decode cX7_perhaps 14 = .ok (.iload 5, 2) := by decide +kernel
theorem dX7_perhaps_16 : decode cX7_perhaps 16 = .ok (.invokevirtual 206, 3) := by decide +kernel
theorem dX7_perhaps_19 : decode cX7_perhaps 19 = .ok (.ifCond .eq 7, 3) := by decide +kernel
theorem dX7_perhaps_22 : decode cX7_perhaps 22 = .ok (.iconst 1, 1) := by decide +kernel
theorem dX7_perhaps_23 : decode cX7_perhaps 23 = .ok (.goto 4, 3) := by decide +kernel
theorem dX7_perhaps_26 : decode cX7_perhaps 26 = .ok (.iconst 0, 1) := by decide +kernel
theorem dX7_perhaps_27 : decode cX7_perhaps 27 = .ok (.ireturn, 1) := by decide +kernel
theorem dX7_statement_0 : decode cX7_statement 0 = .ok (.aload_n 0, 1) := by decide +kernel
theorem dX7_statement_1 : decode cX7_statement 1 = .ok (.ldc 210, 2) := by decide +kernel
theorem dX7_statement_3 : decode cX7_statement 3 = .ok (.invokevirtual 195, 3) := by decide +kernel
theorem dX7_statement_6 : decode cX7_statement 6 = .ok (.ifCond .eq 128, 3) := by decide +kernel
theorem dX7_statement_9 : decode cX7_statement 9 = .ok (.aload_n 0, 1) := by decide +kernel
theorem dX7_statement_10 : decode cX7_statement 10 = .ok (.getfield 80, 3) := by decide +kernel
theorem dX7_statement_13 : decode cX7_statement 13 = .ok (.bipush 9, 2) := by decide +kernel
theorem dX7_statement_15 : decode cX7_statement 15 = .ok (.if_icmp .ge 119, 3) := by decide +kernel
theorem dX7_statement_18 : decode cX7_statement 18 = .ok (.aload_n 0, 1) := by decide +kernel
theorem dX7_statement_19 : decode cX7_statement 19 = .ok (.getfield 42, 3) := by decide +kernel
theorem dX7_statement_22 : decode cX7_statement 22 = .ok (.aload_n 0, 1) := by decide +kernel
theorem dX7_statement_23 : decode cX7_statement 23 = .ok (.getfield 80, 3) := by decide +kernel
theorem dX7_statement_26 : decode cX7_statement 26 = .ok (.aaload, 1) := by decide +kernel
theorem dX7_statement_27 : decode cX7_statement 27 = .ok (.astore_n 1, 1) := by decide +kernel
theorem dX7_statement_28 : decode cX7_statement 28 = .ok (.aload_n 0, 1) := by decide +kernel
theorem dX7_statement_29 : decode cX7_statement 29 = .ok (.iconst 0, 1) := by decide +kernel
theorem dX7_statement_30 : decode cX7_statement 30 = .ok (.iconst 0, 1) := by decide +kernel
theorem dX7_statement_31 : decode cX7_statement 31 = .ok (.invokevirtual 135, 3) := by decide +kernel
theorem dX7_statement_34 : decode cX7_statement 34 = .ok (.aload_n 0, 1) := by decide +kernel
theorem dX7_statement_35 : decode cX7_statement 35 = .ok (.ldc 210, 2) := by decide +kernel
theorem dX7_statement_37 : decode cX7_statement 37 = .ok (.aload_n 1, 1) := by decide +kernel
theorem dX7_statement_38 : decode cX7_statement 38 = .ok (.iconst 1, 1) := by decide +kernel
theorem dX7_statement_39 : decode cX7_statement 39 = .ok (.iconst 1, 1) := by decide +kernel
theorem dX7_statement_40 : decode cX7_statement 40 = .ok (.sipush 999, 3) := by decide +kernel
theorem dX7_statement_43 : decode cX7_statement 43 = .ok (.invokevirtual 206, 3) := by decide +kernel
theorem dX7_statement_46 : decode cX7_statement 46 = .ok (.ifCond .eq 30, 3) := by decide +kernel
theorem dX7_statement_49 : decode cX7_statement 49 = .ok (.aload_n 0, 1) := by decide +kernel
theorem dX7_statement_50 : decode cX7_statement 50 = .ok (.ldc 211, 2) := by decide +kernel
theorem dX7_statement_52 : decode cX7_statement 52 = .ok (.aload_n 1, 1) := by decide +kernel
theorem dX7_statement_53 : decode cX7_statement 53 = .ok (.iconst 0, 1) := by decide +kernel
theorem dX7_statement_54 : decode cX7_statement 54 = .ok (.iconst 0, 1) := by decide +kernel
theorem dX7_statement_55 : decode cX7_statement 55 = .ok (.iconst 5, 1) := by decide +kernel
theorem dX7_statement_56 : decode cX7_statement 56 = .ok (.invokevirtual 206, 3) := by decide +kernel
theorem dX7_statement_59 : decode cX7_statement 59 = .ok (.ifCond .eq 17, 3) := by decide +kernel
theorem dX7_statement_62 : decode cX7_statement 62 = .ok (.aload_n 0, 1) := by decide +kernel
theorem dX7_statement_63 : decode cX7_statement 63 = .ok (.ldc 213, 2) := by decide +kernel
theorem dX7_statement_65 : decode cX7_statement 65 = .ok (.aload_n 1, 1) := by decide +kernel
theorem dX7_statement_66 : decode cX7_statement 66 = .ok (.iconst 2, 1) := by decide +kernel
theorem dX7_statement_67 : decode cX7_statement 67 = .ok (.iconst 0, 1) := by decide +kernel
theorem dX7_statement_68 : decode cX7_statement 68 = .ok (.bipush 50, 2) := by decide +kernel
theorem dX7_statement_70 : decode cX7_statement 70 = .ok (.invokevirtual 215, 3) := by decide +kernel
theorem dX7_statement_73 : decode cX7_statement 73 = .ok (.ifCond .ne 5, 3) := by decide +kernel
theorem dX7_statement_76 : decode cX7_statement 76 = .ok (.iconst 0, 1) := by decide +kernel
theorem dX7_statement_77 : decode cX7_statement 77 = .ok (.ireturn, 1) := by decide +kernel
theorem dX7_statement_78 : decode cX7_statement 78 = .ok (.aload_n 0, 1) := by decide +kernel
theorem dX7_statement_79 : decode cX7_statement 79 = .ok (.ldc 218, 2) := by decide +kernel
theorem dX7_statement_81 : decode cX7_statement 81 = .ok (.aload_n 1, 1) := by decide +kernel
theorem dX7_statement_82 : decode cX7_statement 82 = .ok (.iconst 3, 1) := by decide +kernel
theorem dX7_statement_83 : decode cX7_statement 83 = .ok (.iconst 1, 1) := by decide +kernel
theorem dX7_statement_84 : decode cX7_statement 84 = .ok (.bipush 9, 2) := by decide +kernel
theorem dX7_statement_86 : decode cX7_statement 86 = .ok (.invokevirtual 215, 3) := by decide +kernel
theorem dX7_statement_89 : decode cX7_statement 89 = .ok (.ifCond .eq 31, 3) := by decide +kernel
theorem dX7_statement_92 : decode cX7_statement 92 = .ok (.aload_n 0, 1) := by decide +kernel
theorem dX7_statement_93 : decode cX7_statement 93 = .ok (.ldc 220, 2) := by decide +kernel
theorem dX7_statement_95 : decode cX7_statement 95 = .ok (.aload_n 1, 1) := by decide +kernel
theorem dX7_statement_96 : decode cX7_statement 96 = .ok (.iconst 4, 1) := by decide +kernel
theorem dX7_statement_97 : decode cX7_statement 97 = .ok (.iconst 0, 1) := by decide +kernel
theorem dX7_statement_98 : decode cX7_statement 98 = .ok (.bipush 99, 2) := by decide +kernel
theorem dX7_statement_100 : decode cX7_statement 100 = .ok (.invokevirtual 215, 3) := by decide +kernel
theorem dX7_statement_103 : decode cX7_statement 103 = .ok (.ifCond .eq 17, 3) := by decide +kernel
theorem dX7_statement_106 : decode cX7_statement 106 = .ok (.aload_n 0, 1) := by decide +kernel
theorem dX7_statement_107 : decode cX7_statement 107 = .ok (.ldc 222, 2) := by decide +kernel
theorem dX7_statement_109 : decode cX7_statement 109 = .ok (.aload_n 1, 1) := by decide +kernel
theorem dX7_statement_110 : decode cX7_statement 110 = .ok (.iconst 5, 1) := by decide +kernel
theorem dX7_statement_111 : decode cX7_statement 111 = .ok (.iconst 1, 1) := by decide +kernel
theorem dX7_statement_112 : decode cX7_statement 112 = .ok (.bipush 99, 2) := by decide +kernel
theorem dX7_statement_114 : decode cX7_statement 114 = .ok (.invokevirtual 215, 3) := by decide +kernel
theorem dX7_statement_117 : decode cX7_statement 117 = .ok (.ifCond .ne 5, 3) := by decide +kernel
theorem dX7_statement_120 : decode cX7_statement 120 = .ok (.iconst 0, 1) := by decide +kernel
theorem dX7_statement_121 : decode cX7_statement 121 = .ok (.ireturn, 1) := by decide +kernel
theorem dX7_statement_122 : decode cX7_statement 122 = .ok (.aload_n 0, 1) := by decide +kernel
theorem dX7_statement_123 : decode cX7_statement 123 = .ok (.dup, 1) := by decide +kernel
theorem dX7_statement_124 : decode cX7_statement 124 = .ok (.getfield 80, 3) := by decide +kernel
theorem dX7_statement_127 : decode cX7_statement 127 = .ok (.iconst 1, 1) := by decide +kernel
theorem dX7_statement_128 : decode cX7_statement 128 = .ok (.iadd, 1) := by decide +kernel
theorem dX7_statement_129 : decode cX7_statement 129 = .ok (.putfield 80, 3) := by decide +kernel
theorem dX7_statement_132 : decode cX7_statement 132 = .ok (.iconst 1, 1) := by decide +kernel
theorem dX7_statement_133 : decode cX7_statement 133 = .ok (.ireturn, 1) := by decide +kernel
theorem dX7_statement_134 : decode cX7_statement 134 = .ok (.aload_n 0, 1) := by decide +kernel
theorem dX7_statement_135 : decode cX7_statement 135 = .ok (.ldc 224, 2) := by decide +kernel
theorem dX7_statement_137 : decode cX7_statement 137 = .ok (.invokevirtual 195, 3) := by decide +kernel
theorem dX7_statement_140 : decode cX7_statement 140 = .ok (.ifCond .eq 99, 3) := by decide +kernel
theorem dX7_statement_143 : decode cX7_statement 143 = .ok (.aload_n 0, 1) := by decide +kernel
theorem dX7_statement_144 : decode cX7_statement 144 = .ok (.ldc 224, 2) := by decide +kernel
theorem dX7_statement_146 : decode cX7_statement 146 = .ok (.aload_n 0, 1) := by decide +kernel
theorem dX7_statement_147 : decode cX7_statement 147 = .ok (.getfield 58, 3) := by decide +kernel
theorem dX7_statement_150 : decode cX7_statement 150 = .ok (.iconst 0, 1) := by decide +kernel
theorem dX7_statement_151 : decode cX7_statement 151 = .ok (.iconst 0, 1) := by decide +kernel
theorem dX7_statement_152 : decode cX7_statement 152 = .ok (.bipush 99, 2) := by decide +kernel
theorem dX7_statement_154 : decode cX7_statement 154 = .ok (.invokevirtual 206, 3) := by decide +kernel
theorem dX7_statement_157 : decode cX7_statement 157 = .ok (.ifCond .ne 5, 3) := by decide +kernel
theorem dX7_statement_160 : decode cX7_statement 160 = .ok (.iconst 0, 1) := by decide +kernel
theorem dX7_statement_161 : decode cX7_statement 161 = .ok (.ireturn, 1) := by decide +kernel
theorem dX7_statement_162 : decode cX7_statement 162 = .ok (.aload_n 0, 1) := by decide +kernel
theorem dX7_statement_163 : decode cX7_statement 163 = .ok (.ldc 226, 2) := by decide +kernel
theorem dX7_statement_165 : decode cX7_statement 165 = .ok (.invokevirtual 195, 3) := by decide +kernel
theorem dX7_statement_168 : decode cX7_statement 168 = .ok (.istore_n 1, 1) := by decide +kernel
theorem dX7_statement_169 : decode cX7_statement 169 = .ok (.aload_n 0, 1) := by decide +kernel
theorem dX7_statement_170 : decode cX7_statement 170 = .ok (.ldc 226, 2) := by decide +kernel
theorem dX7_statement_172 : decode cX7_statement 172 = .ok (.aload_n 0, 1) := by decide +kernel
theorem dX7_statement_173 : decode cX7_statement 173 = .ok (.getfield 58, 3) := by decide +kernel
theorem dX7_statement_176 : decode cX7_statement 176 = .ok (.iconst 1, 1) := by decide +kernel
theorem dX7_statement_177 : decode cX7_statement 177 = .ok (.iconst 0, 1) := by decide +kernel
theorem dX7_statement_178 : decode cX7_statement 178 = .ok (.bipush 11, 2) := by decide +kernel
theorem dX7_statement_180 : decode cX7_statement 180 = .ok (.invokevirtual 215, 3) := by decide +kernel
theorem dX7_statement_183 : decode cX7_statement 183 = .ok (.ifCond .ne 5, 3) := by decide +kernel
theorem dX7_statement_186 : decode cX7_statement 186 = .ok (.iconst 0, 1) := by decide +kernel
theorem dX7_statement_187 : decode cX7_statement 187 = .ok (.ireturn, 1) := by decide +kernel
theorem dX7_statement_188 : decode cX7_statement 188 = .ok (.iconst 0, 1) := by decide +kernel
theorem dX7_statement_189 : decode cX7_statement 189 = .ok (.istore_n 2, 1) := by decide +kernel
theorem dX7_statement_190 : decode cX7_statement 190 = .ok (.iload_n 2, 1) := by decide +kernel
theorem dX7_statement_191 : decode cX7_statement 191 = .ok (.bipush 12, 2) := by decide +kernel
theorem dX7_statement_193 : decode cX7_statement 193 = .ok (.if_icmp .ge 44, 3) := by decide +kernel
theorem dX7_statement_196 : decode cX7_statement 196 = .ok (.aload_n 0, 1) := by decide +kernel
theorem dX7_statement_197 : decode cX7_statement 197 = .ok (.getfield 45, 3) := by decide +kernel
theorem dX7_statement_200 : decode cX7_statement 200 = .ok (.iload_n 2, 1) := by decide +kernel
theorem dX7_statement_201 : decode cX7_statement 201 = .ok (.iload_n 1, 1) := by decide +kernel
theorem dX7_statement_202 : decode cX7_statement 202 = .ok (.ifCond .eq 13, 3) := by decide +kernel
theorem dX7_statement_205 : decode cX7_statement 205 = .ok (.iload_n 2, 1) := by decide +kernel
theorem dX7_statement_206 : decode cX7_statement 206 = .ok (.aload_n 0, 1) := by decide +kernel
theorem dX7_statement_207 : decode cX7_statement 207 = .ok (.getfield 58, 3) := by decide +kernel
theorem dX7_statement_210 : decode cX7_statement 210 = .ok (.iconst 1, 1) := by decide +kernel
theorem dX7_statement_211 : decode cX7_statement 211 = .ok (.iaload, 1) := by decide +kernel
theorem dX7_statement_212 : decode cX7_statement 212 = .ok (.if_icmp .ne 12, 3) := by decide +kernel
theorem dX7_statement_215 : decode cX7_statement 215 = .ok (.aload_n 0, 1) := by decide +kernel
theorem dX7_statement_216 : decode cX7_statement 216 = .ok (.getfield 58, 3) := by decide +kernel
theorem dX7_statement_219 : decode cX7_statement 219 = .ok (.iconst 0, 1) := by decide +kernel
theorem dX7_statement_220 : decode cX7_statement 220 = .ok (.iaload, 1) := by decide +kernel
theorem dX7_statement_221 : decode cX7_statement 221 = .ok (.goto 9, 3) := by decide +kernel
theorem dX7_statement_224 : decode cX7_statement 224 = .ok (.aload_n 0, 1) := by decide +kernel
theorem dX7_statement_225 : decode cX7_statement 225 = .ok (.getfield 45, 3) := by decide +kernel
theorem dX7_statement_228 : decode cX7_statement 228 = .ok (.iload_n 2, 1) := by decide +kernel
theorem dX7_statement_229 : decode cX7_statement 229 = .ok (.iaload, 1) := by decide +kernel
theorem dX7_statement_230 : decode cX7_statement 230 = .ok (.iastore, 1) := by decide +kernel
theorem dX7_statement_231 : decode cX7_statement 231 = .ok (.iinc 2 1, 3) := by decide +kernel
theorem dX7_statement_234 : decode cX7_statement 234 = .ok (.goto (-44), 3) := by decide +kernel
theorem dX7_statement_237 : decode cX7_statement 237 = .ok (.iconst 1, 1) := by decide +kernel
theorem dX7_statement_238 : decode cX7_statement 238 = .ok (.ireturn, 1) := by decide +kernel
theorem dX7_statement_239 : decode cX7_statement 239 = .ok (.aload_n 0, 1) := by decide +kernel
theorem dX7_statement_240 : decode cX7_statement 240 = .ok (.ldc 228, 2) := by decide +kernel
theorem dX7_statement_242 : decode cX7_statement 242 = .ok (.invokevirtual 195, 3) := by decide +kernel
theorem dX7_statement_245 : decode cX7_statement 245 = .ok (.ifCond .eq 42, 3) := by decide +kernel
theorem dX7_statement_248 : decode cX7_statement 248 = .ok (.aload_n 0, 1) := by decide +kernel
theorem dX7_statement_249 : decode cX7_statement 249 = .ok (.ldc 228, 2) := by decide +kernel
theorem dX7_statement_251 : decode cX7_statement 251 = .ok (.aload_n 0, 1) := by decide +kernel
theorem dX7_statement_252 : decode cX7_statement 252 = .ok (.getfield 58, 3) := by decide +kernel
theorem dX7_statement_255 : decode cX7_statement 255 = .ok (.iconst 0, 1) := by decide +kernel
theorem dX7_statement_256 : decode cX7_statement 256 = .ok (.iconst 0, 1) := by decide +kernel
theorem dX7_statement_257 : decode cX7_statement 257 = .ok (.sipush 999, 3) := by decide +kernel
theorem dX7_statement_260 : decode cX7_statement 260 = .ok (.invokevirtual 206, 3) := by decide +kernel
theorem dX7_statement_263 : decode cX7_statement 263 = .ok (.istore_n 1, 1) := by decide +kernel
theorem dX7_statement_264 : decode cX7_statement 264 = .ok (.aload_n 0, 1) := by decide +kernel
theorem dX7_statement_265 : decode cX7_statement 265 = .ok (.iload_n 1, 1) := by decide +kernel
theorem dX7_statement_266 : decode cX7_statement 266 = .ok (.ifCond .eq 12, 3) := by decide +kernel
theorem dX7_statement_269 : decode cX7_statement 269 = .ok (.aload_n 0, 1) := by decide +kernel
theorem dX7_statement_270 : decode cX7_statement 270 = .ok (.getfield 58, 3) := by decide +kernel
theorem dX7_statement_273 : decode cX7_statement 273 = .ok (.iconst 0, 1) := by decide +kernel
theorem dX7_statement_274 : decode cX7_statement 274 = .ok (.iaload, 1) := by decide +kernel
theorem dX7_statement_275 : decode cX7_statement 275 = .ok (.goto 7, 3) := by decide +kernel
theorem dX7_statement_278 : decode cX7_statement 278 = .ok (.aload_n 0, 1) := by decide +kernel
theorem dX7_statement_279 : decode cX7_statement 279 = .ok (.getfield 154, 3) := by decide +kernel
theorem dX7_statement_282 : decode cX7_statement 282 = .ok (.putfield 154, 3) := by decide +kernel
theorem dX7_statement_285 : decode cX7_statement 285 = .ok (.iload_n 1, 1) := by decide +kernel
theorem dX7_statement_286 : decode cX7_statement 286 = .ok (.ireturn, 1) := by decide +kernel
theorem dX7_statement_287 : decode cX7_statement 287 = .ok (.aload_n 0, 1) := by decide +kernel
theorem dX7_statement_288 : decode cX7_statement 288 = .ok (.ldc 229, 2) := by decide +kernel
theorem dX7_statement_290 : decode cX7_statement 290 = .ok (.invokevirtual 195, 3) := by decide +kernel
theorem dX7_statement_293 : decode cX7_statement 293 = .ok (.ifCond .eq 41, 3) := by decide +kernel
theorem dX7_statement_296 : decode cX7_statement 296 = .ok (.aload_n 0, 1) := by decide +kernel
theorem dX7_statement_297 : decode cX7_statement 297 = .ok (.ldc 229, 2) := by decide +kernel
theorem dX7_statement_299 : decode cX7_statement 299 = .ok (.aload_n 0, 1) := by decide +kernel
theorem dX7_statement_300 : decode cX7_statement 300 = .ok (.getfield 58, 3) := by decide +kernel
theorem dX7_statement_303 : decode cX7_statement 303 = .ok (.iconst 0, 1) := by decide +kernel
theorem dX7_statement_304 : decode cX7_statement 304 = .ok (.iconst 1, 1) := by decide +kernel
theorem dX7_statement_305 : decode cX7_statement 305 = .ok (.bipush 50, 2) := by decide +kernel
theorem dX7_statement_307 : decode cX7_statement 307 = .ok (.invokevirtual 206, 3) := by decide +kernel
theorem dX7_statement_310 : decode cX7_statement 310 = .ok (.istore_n 1, 1) := by decide +kernel
theorem dX7_statement_311 : decode cX7_statement 311 = .ok (.aload_n 0, 1) := by decide +kernel
theorem dX7_statement_312 : decode cX7_statement 312 = .ok (.iload_n 1, 1) := by decide +kernel
theorem dX7_statement_313 : decode cX7_statement 313 = .ok (.ifCond .eq 12, 3) := by decide +kernel
theorem dX7_statement_316 : decode cX7_statement 316 = .ok (.aload_n 0, 1) := by decide +kernel
theorem dX7_statement_317 : decode cX7_statement 317 = .ok (.getfield 58, 3) := by decide +kernel
theorem dX7_statement_320 : decode cX7_statement 320 = .ok (.iconst 0, 1) := by decide +kernel
theorem dX7_statement_321 : decode cX7_statement 321 = .ok (.iaload, 1) := by decide +kernel
theorem dX7_statement_322 : decode cX7_statement 322 = .ok (.goto 7, 3) := by decide +kernel
theorem dX7_statement_325 : decode cX7_statement 325 = .ok (.aload_n 0, 1) := by decide +kernel
theorem dX7_statement_326 : decode cX7_statement 326 = .ok (.getfield 48, 3) := by decide +kernel
theorem dX7_statement_329 : decode cX7_statement 329 = .ok (.putfield 48, 3) := by decide +kernel
theorem dX7_statement_332 : decode cX7_statement 332 = .ok (.iload_n 1, 1) := by decide +kernel
theorem dX7_statement_333 : decode cX7_statement 333 = .ok (.ireturn, 1) := by decide +kernel
theorem dX7_statement_334 : decode cX7_statement 334 = .ok (.aload_n 0, 1) := by decide +kernel
theorem dX7_statement_335 : decode cX7_statement 335 = .ok (.ldc 230, 2) := by decide +kernel
theorem dX7_statement_337 : decode cX7_statement 337 = .ok (.aload_n 0, 1) := by decide +kernel
theorem dX7_statement_338 : decode cX7_statement 338 = .ok (.getfield 58, 3) := by decide +kernel
theorem dX7_statement_341 : decode cX7_statement 341 = .ok (.iconst 0, 1) := by decide +kernel
theorem dX7_statement_342 : decode cX7_statement 342 = .ok (.iconst 0, 1) := by decide +kernel
theorem dX7_statement_343 : decode cX7_statement 343 = .ok (.bipush 10, 2) := by decide +kernel
theorem dX7_statement_345 : decode cX7_statement 345 = .ok (.invokevirtual 206, 3) := by decide +kernel
theorem dX7_statement_348 : decode cX7_statement 348 = .ok (.istore_n 1, 1) := by decide +kernel
theorem dX7_statement_349 : decode cX7_statement 349 = .ok (.aload_n 0, 1) := by decide +kernel
theorem dX7_statement_350 : decode cX7_statement 350 = .ok (.iload_n 1, 1) := by decide +kernel
theorem dX7_statement_351 : decode cX7_statement 351 = .ok (.ifCond .eq 12, 3) := by decide +kernel
theorem dX7_statement_354 : decode cX7_statement 354 = .ok (.aload_n 0, 1) := by decide +kernel
theorem dX7_statement_355 : decode cX7_statement 355 = .ok (.getfield 58, 3) := by decide +kernel
theorem dX7_statement_358 : decode cX7_statement 358 = .ok (.iconst 0, 1) := by decide +kernel
theorem dX7_statement_359 : decode cX7_statement 359 = .ok (.iaload, 1) := by decide +kernel
theorem dX7_statement_360 : decode cX7_statement 360 = .ok (.goto 7, 3) := by decide +kernel
theorem dX7_statement_363 : decode cX7_statement 363 = .ok (.aload_n 0, 1) := by decide +kernel
theorem dX7_statement_364 : decode cX7_statement 364 = .ok (.getfield 52, 3) := by decide +kernel
theorem dX7_statement_367 : decode cX7_statement 367 = .ok (.putfield 52, 3) := by decide +kernel
theorem dX7_statement_370 : decode cX7_statement 370 = .ok (.iload_n 1, 1) := by decide +kernel
theorem dX7_statement_371 : decode cX7_statement 371 = .ok (.ireturn, 1) := by decide +kernel
theorem dX7_read_0 : decode cX7_read 0 = .ok (.aload_n 0, 1) := by decide +kernel
theorem dX7_read_1 : decode cX7_read 1 = .ok (.iconst 1, 1) := by decide +kernel
theorem dX7_read_2 : decode cX7_read 2 = .ok (.putfield 231, 3) := by decide +kernel
theorem dX7_read_5 : decode cX7_read 5 = .ok (.aload_n 0, 1) := by decide +kernel
theorem dX7_read_6 : decode cX7_read 6 = .ok (.iconst 0, 1) := by decide +kernel
theorem dX7_read_7 : decode cX7_read 7 = .ok (.putfield 160, 3) := by decide +kernel
theorem dX7_read_10 : decode cX7_read 10 = .ok (.aload_n 0, 1) := by decide +kernel
theorem dX7_read_11 : decode cX7_read 11 = .ok (.invokevirtual 203, 3) := by decide +kernel
theorem dX7_read_14 : decode cX7_read 14 = .ok (.aload_n 0, 1) := by decide +kernel
theorem dX7_read_15 : decode cX7_read 15 = .ok (.invokevirtual 234, 3) := by decide +kernel
theorem dX7_read_18 : decode cX7_read 18 = .ok (.ifCond .ne 5, 3) := by decide +kernel
theorem dX7_read_21 : decode cX7_read 21 = .ok (.iconst 0, 1) := by decide +kernel
theorem dX7_read_22 : decode cX7_read 22 = .ok (.ireturn, 1) := by decide +kernel
theorem dX7_read_23 : decode cX7_read 23 = .ok (.aload_n 0, 1) := by decide +kernel
theorem dX7_read_24 : decode cX7_read 24 = .ok (.getfield 170, 3) := by decide +kernel
theorem dX7_read_27 : decode cX7_read 27 = .ok (.ifCond .eq 42, 3) := by decide +kernel
theorem dX7_read_30 : decode cX7_read 30 = .ok (.aload_n 0, 1) := by decide +kernel
theorem dX7_read_31 : decode cX7_read 31 = .ok (.getfield 170, 3) := by decide +kernel
theorem dX7_read_34 : decode cX7_read 34 = .ok (.iconst 3, 1) := by decide +kernel
theorem dX7_read_35 : decode cX7_read 35 = .ok (.if_icmp .eq 8, 3) := by decide +kernel
theorem dX7_read_38 : decode cX7_read 38 = .ok (.aload_n 0, 1) := by decide +kernel
theorem dX7_read_39 : decode cX7_read 39 = .ok (.invokevirtual 199, 3) := by decide +kernel
theorem dX7_read_42 : decode cX7_read 42 = .ok (.ireturn, 1) := by decide +kernel
theorem dX7_read_43 : decode cX7_read 43 = .ok (.aload_n 0, 1) := by decide +kernel
theorem dX7_read_44 : decode cX7_read 44 = .ok (.invokevirtual 203, 3) := by decide +kernel
theorem dX7_read_47 : decode cX7_read 47 = .ok (.aload_n 0, 1) := by decide +kernel
theorem dX7_read_48 : decode cX7_read 48 = .ok (.invokevirtual 234, 3) := by decide +kernel
theorem dX7_read_51 : decode cX7_read 51 = .ok (.ifCond .ne 5, 3) := by decide +kernel
theorem dX7_read_54 : decode cX7_read 54 = .ok (.iconst 0, 1) := by decide +kernel
theorem dX7_read_55 : decode cX7_read 55 = .ok (.ireturn, 1) := by decide +kernel
theorem dX7_read_56 : decode cX7_read 56 = .ok (.aload_n 0, 1) := by decide +kernel
theorem dX7_read_57 : decode cX7_read 57 = .ok (.dup, 1) := by decide +kernel
theorem dX7_read_58 : decode cX7_read 58 = .ok (.getfield 231, 3) := by decide +kernel
theorem dX7_read_61 : decode cX7_read 61 = .ok (.iconst 1, 1) := by decide +kernel
theorem dX7_read_62 : decode cX7_read 62 = .ok (.iadd, 1) := by decide +kernel
theorem dX7_read_63 : decode cX7_read 63 = .ok (.putfield 231, 3) := by decide +kernel
theorem dX7_read_66 : decode cX7_read 66 = .ok (.goto (-43), 3) := by decide +kernel
theorem dX7_read_69 : decode cX7_read 69 = .ok (.iconst 1, 1) := by decide +kernel
theorem dX7_read_70 : decode cX7_read 70 = .ok (.ireturn, 1) := by decide +kernel
theorem dX7_life_0 : decode cX7_life 0 = .ok (.aload_n 0, 1) := by decide +kernel
theorem dX7_life_1 : decode cX7_life 1 = .ok (.getfield 80, 3) := by decide +kernel
theorem dX7_life_4 : decode cX7_life 4 = .ok (.istore_n 1, 1) := by decide +kernel
theorem dX7_life_5 : decode cX7_life 5 = .ok (.aload_n 0, 1) := by decide +kernel
theorem dX7_life_6 : decode cX7_life 6 = .ok (.getfield 154, 3) := by decide +kernel
theorem dX7_life_9 : decode cX7_life 9 = .ok (.istore_n 2, 1) := by decide +kernel
theorem dX7_life_10 : decode cX7_life 10 = .ok (.aload_n 0, 1) := by decide +kernel
theorem dX7_life_11 : decode cX7_life 11 = .ok (.getfield 48, 3) := by decide +kernel
theorem dX7_life_14 : decode cX7_life 14 = .ok (.istore_n 3, 1) := by decide +kernel
theorem dX7_life_15 : decode cX7_life 15 = .ok (.aload_n 0, 1) := by decide +kernel
theorem dX7_life_16 : decode cX7_life 16 = .ok (.getfield 52, 3) := by decide +kernel
theorem dX7_life_19 : decode cX7_life 19 = .ok (.istore 4, 2) := by decide +kernel
theorem dX7_life_21 : decode cX7_life 21 = .ok (.aload_n 0, 1) := by decide +kernel
theorem dX7_life_22 : decode cX7_life 22 = .ok (.getfield 45, 3) := by decide +kernel
theorem dX7_life_25 : decode cX7_life 25 = .ok (.aload_n 0, 1) := by decide +kernel
theorem dX7_life_26 : decode cX7_life 26 = .ok (.getfield 61, 3) := by decide +kernel
theorem dX7_life_29 : decode cX7_life 29 = .ok (.invokestatic 237, 3) := by decide +kernel
theorem dX7_life_32 : decode cX7_life 32 = .ok (.aload_n 0, 1) := by decide +kernel
theorem dX7_life_33 : decode cX7_life 33 = .ok (.invokevirtual 241, 3) := by decide +kernel
theorem dX7_life_36 : decode cX7_life 36 = .ok (.istore 5, 2) := by decide +kernel
theorem dX7_life_38 : decode cX7_life 38 = .ok (.aload_n 0, 1) := by decide +kernel
theorem dX7_life_39 : decode cX7_life 39 = .ok (.iconst 0, 1) := by decide +kernel
theorem dX7_life_40 : decode cX7_life 40 = .ok (.putfield 157, 3) := by decide +kernel
theorem dX7_life_43 : decode cX7_life 43 = .ok (.iload 5, 2) := by decide +kernel
theorem dX7_life_45 : decode cX7_life 45 = .ok (.ifCond .ne 50, 3) := by decide +kernel
theorem dX7_life_48 : decode cX7_life 48 = .ok (.aload_n 0, 1) := by decide +kernel
theorem dX7_life_49 : decode cX7_life 49 = .ok (.iload_n 1, 1) := by decide +kernel
theorem dX7_life_50 : decode cX7_life 50 = .ok (.putfield 80, 3) := by decide +kernel
theorem dX7_life_53 : decode cX7_life 53 = .ok (.aload_n 0, 1) := by decide +kernel
theorem dX7_life_54 : decode cX7_life 54 = .ok (.iload_n 2, 1) := by decide +kernel
theorem dX7_life_55 : decode cX7_life 55 = .ok (.putfield 154, 3) := by decide +kernel
theorem dX7_life_58 : decode cX7_life 58 = .ok (.aload_n 0, 1) := by decide +kernel
theorem dX7_life_59 : decode cX7_life 59 = .ok (.iload_n 3, 1) := by decide +kernel
theorem dX7_life_60 : decode cX7_life 60 = .ok (.putfield 48, 3) := by decide +kernel
theorem dX7_life_63 : decode cX7_life 63 = .ok (.aload_n 0, 1) := by decide +kernel
theorem dX7_life_64 : decode cX7_life 64 = .ok (.iload 4, 2) := by decide +kernel
theorem dX7_life_66 : decode cX7_life 66 = .ok (.putfield 52, 3) := by decide +kernel
theorem dX7_life_69 : decode cX7_life 69 = .ok (.aload_n 0, 1) := by decide +kernel
theorem dX7_life_70 : decode cX7_life 70 = .ok (.getfield 61, 3) := by decide +kernel
theorem dX7_life_73 : decode cX7_life 73 = .ok (.aload_n 0, 1) := by decide +kernel
theorem dX7_life_74 : decode cX7_life 74 = .ok (.getfield 45, 3) := by decide +kernel
theorem dX7_life_77 : decode cX7_life 77 = .ok (.invokestatic 237, 3) := by decide +kernel
theorem dX7_life_80 : decode cX7_life 80 = .ok (.aload_n 0, 1) := by decide +kernel
theorem dX7_life_81 : decode cX7_life 81 = .ok (.bipush (-2), 2) := by decide +kernel
theorem dX7_life_83 : decode cX7_life 83 = .ok (.invokevirtual 97, 3) := by decide +kernel
theorem dX7_life_86 : decode cX7_life 86 = .ok (.pop, 1) := by decide +kernel
theorem dX7_life_87 : decode cX7_life 87 = .ok (.bipush (-20), 2) := by decide +kernel
theorem dX7_life_89 : decode cX7_life 89 = .ok (.aload_n 0, 1) := by decide +kernel
theorem dX7_life_90 : decode cX7_life 90 = .ok (.getfield 183, 3) := by decide +kernel
theorem dX7_life_93 : decode cX7_life 93 = .ok (.isub, 1) := by decide +kernel
theorem dX7_life_94 : decode cX7_life 94 = .ok (.ireturn, 1) := by decide +kernel
theorem dX7_life_95 : decode cX7_life 95 = .ok (.aload_n 0, 1) := by decide +kernel
theorem dX7_life_96 : decode cX7_life 96 = .ok (.getfield 231, 3) := by decide +kernel
theorem dX7_life_99 : decode cX7_life 99 = .ok (.ireturn, 1) := by decide +kernel
theorem dX7_lose_0 : decode cX7_lose 0 = .ok (.iload_n 2, 1) := by decide +kernel
theorem dX7_lose_1 : decode cX7_lose 1 = .ok (.i2l, 1) := by decide +kernel
theorem dX7_lose_2 : decode cX7_lose 2 = .ok (.lconst 1, 1) := by decide +kernel
theorem dX7_lose_3 : decode cX7_lose 3 = .ok (.ldc2_w 144, 3) := by decide +kernel
theorem dX7_lose_6 : decode cX7_lose 6 = .ok (.invokestatic 83, 3) := by decide +kernel
theorem dX7_lose_9 : decode cX7_lose 9 = .ok (.ifCond .eq 15, 3) := by decide +kernel
theorem dX7_lose_12 : decode cX7_lose 12 = .ok (.iload_n 1, 1) := by decide +kernel
theorem dX7_lose_13 : decode cX7_lose 13 = .ok (.i2l, 1) := by decide +kernel
theorem dX7_lose_14 : decode cX7_lose 14 = .ok (.lconst 0, 1) := by decide +kernel
theorem dX7_lose_15 : decode cX7_lose 15 = .ok (.ldc2_w 91, 3) := by decide +kernel
theorem dX7_lose_18 : decode cX7_lose 18 = .ok (.invokestatic 83, 3) := by decide +kernel
theorem dX7_lose_21 : decode cX7_lose 21 = .ok (.ifCond .ne 14, 3) := by decide +kernel
theorem dX7_lose_24 : decode cX7_lose 24 = .ok (.aload_n 0, 1) := by decide +kernel
theorem dX7_lose_25 : decode cX7_lose 25 = .ok (.bipush (-2), 2) := by decide +kernel
theorem dX7_lose_27 : decode cX7_lose 27 = .ok (.invokevirtual 97, 3) := by decide +kernel
theorem dX7_lose_30 : decode cX7_lose 30 = .ok (.sipush 1000, 3) := by decide +kernel
theorem dX7_lose_33 : decode cX7_lose 33 = .ok (.isub, 1) := by decide +kernel
theorem dX7_lose_34 : decode cX7_lose 34 = .ok (.ireturn, 1) := by decide +kernel
theorem dX7_lose_35 : decode cX7_lose 35 = .ok (.aload_n 0, 1) := by decide +kernel
theorem dX7_lose_36 : decode cX7_lose 36 = .ok (.iload_n 1, 1) := by decide +kernel
theorem dX7_lose_37 : decode cX7_lose 37 = .ok (.invokevirtual 263, 3) := by decide +kernel
theorem dX7_lose_40 : decode cX7_lose 40 = .ok (.istore_n 3, 1) := by decide +kernel
theorem dX7_lose_41 : decode cX7_lose 41 = .ok (.iload_n 3, 1) := by decide +kernel
theorem dX7_lose_42 : decode cX7_lose 42 = .ok (.ifCond .eq 9, 3) := by decide +kernel
theorem dX7_lose_45 : decode cX7_lose 45 = .ok (.iload_n 3, 1) := by decide +kernel
theorem dX7_lose_46 : decode cX7_lose 46 = .ok (.sipush 1000, 3) := by decide +kernel
theorem dX7_lose_49 : decode cX7_lose 49 = .ok (.isub, 1) := by decide +kernel
theorem dX7_lose_50 : decode cX7_lose 50 = .ok (.ireturn, 1) := by decide +kernel
theorem dX7_lose_51 : decode cX7_lose 51 = .ok (.aload_n 0, 1) := by decide +kernel
theorem dX7_lose_52 : decode cX7_lose 52 = .ok (.iload_n 2, 1) := by decide +kernel
theorem dX7_lose_53 : decode cX7_lose 53 = .ok (.invokevirtual 328, 3) := by decide +kernel
theorem dX7_lose_56 : decode cX7_lose 56 = .ok (.ifCond .ne 14, 3) := by decide +kernel
theorem dX7_lose_59 : decode cX7_lose 59 = .ok (.aload_n 0, 1) := by decide +kernel
theorem dX7_lose_60 : decode cX7_lose 60 = .ok (.bipush (-5), 2) := by decide +kernel
theorem dX7_lose_62 : decode cX7_lose 62 = .ok (.invokevirtual 97, 3) := by decide +kernel
theorem dX7_lose_65 : decode cX7_lose 65 = .ok (.sipush 1000, 3) := by decide +kernel
theorem dX7_lose_68 : decode cX7_lose 68 = .ok (.isub, 1) := by decide +kernel
theorem dX7_lose_69 : decode cX7_lose 69 = .ok (.ireturn, 1) := by decide +kernel
theorem dX7_lose_70 : decode cX7_lose 70 = .ok (.aload_n 0, 1) := by decide +kernel
theorem dX7_lose_71 : decode cX7_lose 71 = .ok (.iload_n 2, 1) := by decide +kernel
theorem dX7_lose_72 : decode cX7_lose 72 = .ok (.invokevirtual 331, 3) := by decide +kernel
theorem dX7_lose_75 : decode cX7_lose 75 = .ok (.aload_n 0, 1) := by decide +kernel
theorem dX7_lose_76 : decode cX7_lose 76 = .ok (.iload_n 1, 1) := by decide +kernel
theorem dX7_lose_77 : decode cX7_lose 77 = .ok (.iload_n 2, 1) := by decide +kernel
theorem dX7_lose_78 : decode cX7_lose 78 = .ok (.invokevirtual 312, 3) := by decide +kernel
theorem dX7_lose_81 : decode cX7_lose 81 = .ok (.aload_n 0, 1) := by decide +kernel
theorem dX7_lose_82 : decode cX7_lose 82 = .ok (.getfield 323, 3) := by decide +kernel
theorem dX7_lose_85 : decode cX7_lose 85 = .ok (.isub, 1) := by decide +kernel
theorem dX7_lose_86 : decode cX7_lose 86 = .ok (.ireturn, 1) := by decide +kernel
theorem dX7_offer_0 : decode cX7_offer 0 = .ok (.iload_n 1, 1) := by decide +kernel
theorem dX7_offer_1 : decode cX7_offer 1 = .ok (.i2l, 1) := by decide +kernel
theorem dX7_offer_2 : decode cX7_offer 2 = .ok (.lconst 0, 1) := by decide +kernel
theorem dX7_offer_3 : decode cX7_offer 3 = .ok (.ldc2_w 91, 3) := by decide +kernel
theorem dX7_offer_6 : decode cX7_offer 6 = .ok (.invokestatic 83, 3) := by decide +kernel
theorem dX7_offer_9 : decode cX7_offer 9 = .ok (.ifCond .eq 45, 3) := by decide +kernel
theorem dX7_offer_12 : decode cX7_offer 12 = .ok (.iload_n 2, 1) := by decide +kernel
theorem dX7_offer_13 : decode cX7_offer 13 = .ok (.i2l, 1) := by decide +kernel
theorem dX7_offer_14 : decode cX7_offer 14 = .ok (.lconst 1, 1) := by decide +kernel
theorem dX7_offer_15 : decode cX7_offer 15 = .ok (.ldc2_w 307, 3) := by decide +kernel
theorem dX7_offer_18 : decode cX7_offer 18 = .ok (.invokestatic 83, 3) := by decide +kernel
theorem dX7_offer_21 : decode cX7_offer 21 = .ok (.ifCond .eq 33, 3) := by decide +kernel
theorem dX7_offer_24 : decode cX7_offer 24 = .ok (.aload_n 0, 1) := by decide +kernel
theorem dX7_offer_25 : decode cX7_offer 25 = .ok (.iload_n 3, 1) := by decide +kernel
theorem dX7_offer_26 : decode cX7_offer 26 = .ok (.invokevirtual 139, 3) := by decide +kernel
theorem dX7_offer_29 : decode cX7_offer 29 = .ok (.ifCond .eq 25, 3) := by decide +kernel
theorem dX7_offer_32 : decode cX7_offer 32 = .ok (.iload 4, 2) := by decide +kernel
theorem dX7_offer_34 : decode cX7_offer 34 = .ok (.i2l, 1) := by decide +kernel
theorem dX7_offer_35 : decode cX7_offer 35 = .ok (.lconst 0, 1) := by decide +kernel
theorem dX7_offer_36 : decode cX7_offer 36 = .ok (.ldc2_w 150, 3) := by decide +kernel
theorem dX7_offer_39 : decode cX7_offer 39 = .ok (.invokestatic 83, 3) := by decide +kernel
theorem dX7_offer_42 : decode cX7_offer 42 = .ok (.ifCond .eq 12, 3) := by decide +kernel
theorem dX7_offer_45 : decode cX7_offer 45 = .ok (.iload 4, 2) := by decide +kernel
theorem dX7_offer_47 : decode cX7_offer 47 = .ok (.aload_n 0, 1) := by decide +kernel
theorem dX7_offer_48 : decode cX7_offer 48 = .ok (.getfield 154, 3) := by decide +kernel
theorem dX7_offer_51 : decode cX7_offer 51 = .ok (.if_icmp .le 14, 3) := by decide +kernel
theorem dX7_offer_54 : decode cX7_offer 54 = .ok (.aload_n 0, 1) := by decide +kernel
theorem dX7_offer_55 : decode cX7_offer 55 = .ok (.bipush (-2), 2) := by decide +kernel
theorem dX7_offer_57 : decode cX7_offer 57 = .ok (.invokevirtual 97, 3) := by decide +kernel
theorem dX7_offer_60 : decode cX7_offer 60 = .ok (.ldc_w 335, 3) := by decide +kernel
theorem dX7_offer_63 : decode cX7_offer 63 = .ok (.isub, 1) := by decide +kernel
theorem dX7_offer_64 : decode cX7_offer 64 = .ok (.ireturn, 1) := by decide +kernel
theorem dX7_offer_65 : decode cX7_offer 65 = .ok (.aload_n 0, 1) := by decide +kernel
theorem dX7_offer_66 : decode cX7_offer 66 = .ok (.iload_n 1, 1) := by decide +kernel
theorem dX7_offer_67 : decode cX7_offer 67 = .ok (.invokevirtual 263, 3) := by decide +kernel
theorem dX7_offer_70 : decode cX7_offer 70 = .ok (.istore 5, 2) := by decide +kernel
theorem dX7_offer_72 : decode cX7_offer 72 = .ok (.iload 5, 2) := by decide +kernel
theorem dX7_offer_74 : decode cX7_offer 74 = .ok (.ifCond .eq 10, 3) := by decide +kernel
theorem dX7_offer_77 : decode cX7_offer 77 = .ok (.iload 5, 2) := by decide +kernel
theorem dX7_offer_79 : decode cX7_offer 79 = .ok (.ldc_w 335, 3) := by decide +kernel
theorem dX7_offer_82 : decode cX7_offer 82 = .ok (.isub, 1) := by decide +kernel
theorem dX7_offer_83 : decode cX7_offer 83 = .ok (.ireturn, 1) := by decide +kernel
theorem dX7_offer_84 : decode cX7_offer 84 = .ok (.aload_n 0, 1) := by decide +kernel
theorem dX7_offer_85 : decode cX7_offer 85 = .ok (.iload_n 3, 1) := by decide +kernel
theorem dX7_offer_86 : decode cX7_offer 86 = .ok (.invokevirtual 87, 3) := by decide +kernel
theorem dX7_offer_89 : decode cX7_offer 89 = .ok (.ifCond .ne 14, 3) := by decide +kernel
theorem dX7_offer_92 : decode cX7_offer 92 = .ok (.aload_n 0, 1) := by decide +kernel
theorem dX7_offer_93 : decode cX7_offer 93 = .ok (.bipush (-5), 2) := by decide +kernel
theorem dX7_offer_95 : decode cX7_offer 95 = .ok (.invokevirtual 97, 3) := by decide +kernel
theorem dX7_offer_98 : decode cX7_offer 98 = .ok (.ldc_w 335, 3) := by decide +kernel
theorem dX7_offer_101 : decode cX7_offer 101 = .ok (.isub, 1) := by decide +kernel
theorem dX7_offer_102 : decode cX7_offer 102 = .ok (.ireturn, 1) := by decide +kernel
theorem dX7_offer_103 : decode cX7_offer 103 = .ok (.aload_n 0, 1) := by decide +kernel
theorem dX7_offer_104 : decode cX7_offer 104 = .ok (.iload_n 1, 1) := by decide +kernel
theorem dX7_offer_105 : decode cX7_offer 105 = .ok (.iload_n 2, 1) := by decide +kernel
theorem dX7_offer_106 : decode cX7_offer 106 = .ok (.invokevirtual 312, 3) := by decide +kernel
theorem dX7_offer_109 : decode cX7_offer 109 = .ok (.aload_n 0, 1) := by decide +kernel
theorem dX7_offer_110 : decode cX7_offer 110 = .ok (.getfield 281, 3) := by decide +kernel
theorem dX7_offer_113 : decode cX7_offer 113 = .ok (.getfield 290, 3) := by decide +kernel
theorem dX7_offer_116 : decode cX7_offer 116 = .ok (.iadd, 1) := by decide +kernel
theorem dX7_offer_117 : decode cX7_offer 117 = .ok (.istore 6, 2) := by decide +kernel
theorem dX7_offer_119 : decode cX7_offer 119 = .ok (.aload_n 0, 1) := by decide +kernel
theorem dX7_offer_120 : decode cX7_offer 120 = .ok (.invokevirtual 299, 3) := by decide +kernel
theorem dX7_offer_123 : decode cX7_offer 123 = .ok (.getfield 42, 3) := by decide +kernel
theorem dX7_offer_126 : decode cX7_offer 126 = .ok (.iload_n 3, 1) := by decide +kernel
theorem dX7_offer_127 : decode cX7_offer 127 = .ok (.aaload, 1) := by decide +kernel
theorem dX7_offer_128 : decode cX7_offer 128 = .ok (.iconst 1, 1) := by decide +kernel
theorem dX7_offer_129 : decode cX7_offer 129 = .ok (.iconst 0, 1) := by decide +kernel
theorem dX7_offer_130 : decode cX7_offer 130 = .ok (.iastore, 1) := by decide +kernel
theorem dX7_offer_131 : decode cX7_offer 131 = .ok (.aload_n 0, 1) := by decide +kernel
theorem dX7_offer_132 : decode cX7_offer 132 = .ok (.getfield 281, 3) := by decide +kernel
theorem dX7_offer_135 : decode cX7_offer 135 = .ok (.dup, 1) := by decide +kernel
theorem dX7_offer_136 : decode cX7_offer 136 = .ok (.getfield 154, 3) := by decide +kernel
theorem dX7_offer_139 : decode cX7_offer 139 = .ok (.iload 4, 2) := by decide +kernel
theorem dX7_offer_141 : decode cX7_offer 141 = .ok (.isub, 1) := by decide +kernel
theorem dX7_offer_142 : decode cX7_offer 142 = .ok (.putfield 154, 3) := by decide +kernel
theorem dX7_offer_145 : decode cX7_offer 145 = .ok (.aload_n 0, 1) := by decide +kernel
theorem dX7_offer_146 : decode cX7_offer 146 = .ok (.getfield 281, 3) := by decide +kernel
theorem dX7_offer_149 : decode cX7_offer 149 = .ok (.aload_n 0, 1) := by decide +kernel
theorem dX7_offer_150 : decode cX7_offer 150 = .ok (.getfield 28, 3) := by decide +kernel
theorem dX7_offer_153 : decode cX7_offer 153 = .ok (.iload_n 1, 1) := by decide +kernel
theorem dX7_offer_154 : decode cX7_offer 154 = .ok (.iaload, 1) := by decide +kernel
theorem dX7_offer_155 : decode cX7_offer 155 = .ok (.aload_n 0, 1) := by decide +kernel
theorem dX7_offer_156 : decode cX7_offer 156 = .ok (.getfield 31, 3) := by decide +kernel
theorem dX7_offer_159 : decode cX7_offer 159 = .ok (.iload_n 1, 1) := by decide +kernel
theorem dX7_offer_160 : decode cX7_offer 160 = .ok (.iaload, 1) := by decide +kernel
theorem dX7_offer_161 : decode cX7_offer 161 = .ok (.iload_n 2, 1) := by decide +kernel
theorem dX7_offer_162 : decode cX7_offer 162 = .ok (.invokevirtual 303, 3) := by decide +kernel
theorem dX7_offer_165 : decode cX7_offer 165 = .ok (.aload_n 0, 1) := by decide +kernel
theorem dX7_offer_166 : decode cX7_offer 166 = .ok (.getfield 281, 3) := by decide +kernel
theorem dX7_offer_169 : decode cX7_offer 169 = .ok (.getfield 290, 3) := by decide +kernel
theorem dX7_offer_172 : decode cX7_offer 172 = .ok (.iadd, 1) := by decide +kernel
theorem dX7_offer_173 : decode cX7_offer 173 = .ok (.iload 4, 2) := by decide +kernel
theorem dX7_offer_175 : decode cX7_offer 175 = .ok (.iadd, 1) := by decide +kernel
theorem dX7_offer_176 : decode cX7_offer 176 = .ok (.istore 7, 2) := by decide +kernel
theorem dX7_offer_178 : decode cX7_offer 178 = .ok (.iload 6, 2) := by decide +kernel
theorem dX7_offer_180 : decode cX7_offer 180 = .ok (.iload 7, 2) := by decide +kernel
theorem dX7_offer_182 : decode cX7_offer 182 = .ok (.isub, 1) := by decide +kernel
theorem dX7_offer_183 : decode cX7_offer 183 = .ok (.ireturn, 1) := by decide +kernel
theorem dX7_one_0 : decode cX7_one 0 = .ok (.iload_n 3, 1) := by decide +kernel
theorem dX7_one_1 : decode cX7_one 1 = .ok (.i2l, 1) := by decide +kernel
theorem dX7_one_2 : decode cX7_one 2 = .ok (.lconst 0, 1) := by decide +kernel
theorem dX7_one_3 : decode cX7_one 3 = .ok (.ldc2_w 124, 3) := by decide +kernel
theorem dX7_one_6 : decode cX7_one 6 = .ok (.invokestatic 83, 3) := by decide +kernel
theorem dX7_one_9 : decode cX7_one 9 = .ok (.ifCond .ne 10, 3) := by decide +kernel
theorem dX7_one_12 : decode cX7_one 12 = .ok (.aload_n 0, 1) := by decide +kernel
theorem dX7_one_13 : decode cX7_one 13 = .ok (.bipush (-2), 2) := by decide +kernel
theorem dX7_one_15 : decode cX7_one 15 = .ok (.invokevirtual 97, 3) := by decide +kernel
theorem dX7_one_18 : decode cX7_one 18 = .ok (.ireturn, 1) := by decide +kernel
theorem dX7_one_19 : decode cX7_one 19 = .ok (.aload_n 0, 1) := by decide +kernel
theorem dX7_one_20 : decode cX7_one 20 = .ok (.iload_n 1, 1) := by decide +kernel
theorem dX7_one_21 : decode cX7_one 21 = .ok (.iload_n 2, 1) := by decide +kernel
theorem dX7_one_22 : decode cX7_one 22 = .ok (.invokevirtual 309, 3) := by decide +kernel
theorem dX7_one_25 : decode cX7_one 25 = .ok (.istore 4, 2) := by decide +kernel
theorem dX7_one_27 : decode cX7_one 27 = .ok (.iload 4, 2) := by decide +kernel
theorem dX7_one_29 : decode cX7_one 29 = .ok (.ifCond .eq 6, 3) := by decide +kernel
theorem dX7_one_32 : decode cX7_one 32 = .ok (.iload 4, 2) := by decide +kernel
theorem dX7_one_34 : decode cX7_one 34 = .ok (.ireturn, 1) := by decide +kernel
theorem dX7_one_35 : decode cX7_one 35 = .ok (.aload_n 0, 1) := by decide +kernel
theorem dX7_one_36 : decode cX7_one 36 = .ok (.invokevirtual 113, 3) := by decide +kernel
theorem dX7_one_39 : decode cX7_one 39 = .ok (.ifCond .ne 10, 3) := by decide +kernel
theorem dX7_one_42 : decode cX7_one 42 = .ok (.aload_n 0, 1) := by decide +kernel
theorem dX7_one_43 : decode cX7_one 43 = .ok (.bipush (-5), 2) := by decide +kernel
theorem dX7_one_45 : decode cX7_one 45 = .ok (.invokevirtual 97, 3) := by decide +kernel
theorem dX7_one_48 : decode cX7_one 48 = .ok (.ireturn, 1) := by decide +kernel
theorem dX7_one_49 : decode cX7_one 49 = .ok (.aload_n 0, 1) := by decide +kernel
theorem dX7_one_50 : decode cX7_one 50 = .ok (.invokevirtual 299, 3) := by decide +kernel
theorem dX7_one_53 : decode cX7_one 53 = .ok (.iload_n 3, 1) := by decide +kernel
theorem dX7_one_54 : decode cX7_one 54 = .ok (.invokevirtual 336, 3) := by decide +kernel
theorem dX7_one_57 : decode cX7_one 57 = .ok (.pop, 1) := by decide +kernel
theorem dX7_one_58 : decode cX7_one 58 = .ok (.aload_n 0, 1) := by decide +kernel
theorem dX7_one_59 : decode cX7_one 59 = .ok (.getfield 281, 3) := by decide +kernel
theorem dX7_one_62 : decode cX7_one 62 = .ok (.aload_n 0, 1) := by decide +kernel
theorem dX7_one_63 : decode cX7_one 63 = .ok (.getfield 28, 3) := by decide +kernel
theorem dX7_one_66 : decode cX7_one 66 = .ok (.iload_n 1, 1) := by decide +kernel
theorem dX7_one_67 : decode cX7_one 67 = .ok (.iaload, 1) := by decide +kernel
theorem dX7_one_68 : decode cX7_one 68 = .ok (.aload_n 0, 1) := by decide +kernel
theorem dX7_one_69 : decode cX7_one 69 = .ok (.getfield 31, 3) := by decide +kernel
theorem dX7_one_72 : decode cX7_one 72 = .ok (.iload_n 1, 1) := by decide +kernel
theorem dX7_one_73 : decode cX7_one 73 = .ok (.iaload, 1) := by decide +kernel
theorem dX7_one_74 : decode cX7_one 74 = .ok (.iload_n 2, 1) := by decide +kernel
theorem dX7_one_75 : decode cX7_one 75 = .ok (.invokevirtual 303, 3) := by decide +kernel
theorem dX7_one_78 : decode cX7_one 78 = .ok (.ireturn, 1) := by decide +kernel
theorem dX7_pay_0 : decode cX7_pay 0 = .ok (.aload_n 0, 1) := by decide +kernel
theorem dX7_pay_1 : decode cX7_pay 1 = .ok (.iload_n 1, 1) := by decide +kernel
theorem dX7_pay_2 : decode cX7_pay 2 = .ok (.invokevirtual 275, 3) := by decide +kernel
theorem dX7_pay_5 : decode cX7_pay 5 = .ok (.istore_n 2, 1) := by decide +kernel
theorem dX7_pay_6 : decode cX7_pay 6 = .ok (.iload_n 2, 1) := by decide +kernel
theorem dX7_pay_7 : decode cX7_pay 7 = .ok (.ifCond .eq 5, 3) := by decide +kernel
theorem dX7_pay_10 : decode cX7_pay 10 = .ok (.iload_n 2, 1) := by decide +kernel
theorem dX7_pay_11 : decode cX7_pay 11 = .ok (.ireturn, 1) := by decide +kernel
theorem dX7_pay_12 : decode cX7_pay 12 = .ok (.aload_n 0, 1) := by decide +kernel
theorem dX7_pay_13 : decode cX7_pay 13 = .ok (.iload_n 1, 1) := by decide +kernel
theorem dX7_pay_14 : decode cX7_pay 14 = .ok (.invokevirtual 278, 3) := by decide +kernel
theorem dX7_pay_17 : decode cX7_pay 17 = .ok (.iconst (-1), 1) := by decide +kernel
theorem dX7_pay_18 : decode cX7_pay 18 = .ok (.if_icmp .ne 11, 3) := by decide +kernel
theorem dX7_pay_21 : decode cX7_pay 21 = .ok (.aload_n 0, 1) := by decide +kernel
theorem dX7_pay_22 : decode cX7_pay 22 = .ok (.iconst 1, 1) := by decide +kernel
theorem dX7_pay_23 : decode cX7_pay 23 = .ok (.invokevirtual 271, 3) := by decide +kernel
theorem dX7_pay_26 : decode cX7_pay 26 = .ok (.goto 9, 3) := by decide +kernel
theorem dX7_pay_29 : decode cX7_pay 29 = .ok (.aload_n 0, 1) := by decide +kernel
theorem dX7_pay_30 : decode cX7_pay 30 = .ok (.bipush (-5), 2) := by decide +kernel
theorem dX7_pay_32 : decode cX7_pay 32 = .ok (.invokevirtual 97, 3) := by decide +kernel
theorem dX7_pay_35 : decode cX7_pay 35 = .ok (.ireturn, 1) := by decide +kernel
theorem dX7_pays_0 : decode cX7_pays 0 = .ok (.iload_n 1, 1) := by decide +kernel
theorem dX7_pays_1 : decode cX7_pays 1 = .ok (.i2l, 1) := by decide +kernel
theorem dX7_pays_2 : decode cX7_pays 2 = .ok (.lconst 0, 1) := by decide +kernel
theorem dX7_pays_3 : decode cX7_pays 3 = .ok (.ldc2_w 91, 3) := by decide +kernel
theorem dX7_pays_6 : decode cX7_pays 6 = .ok (.invokestatic 83, 3) := by decide +kernel
theorem dX7_pays_9 : decode cX7_pays 9 = .ok (.ifCond .eq 11, 3) := by decide +kernel
theorem dX7_pays_12 : decode cX7_pays 12 = .ok (.aload_n 0, 1) := by decide +kernel
theorem dX7_pays_13 : decode cX7_pays 13 = .ok (.iload_n 2, 1) := by decide +kernel
theorem dX7_pays_14 : decode cX7_pays 14 = .ok (.invokevirtual 139, 3) := by decide +kernel
theorem dX7_pays_17 : decode cX7_pays 17 = .ok (.ifCond .ne 10, 3) := by decide +kernel
theorem dX7_pays_20 : decode cX7_pays 20 = .ok (.aload_n 0, 1) := by decide +kernel
theorem dX7_pays_21 : decode cX7_pays 21 = .ok (.bipush (-2), 2) := by decide +kernel
theorem dX7_pays_23 : decode cX7_pays 23 = .ok (.invokevirtual 97, 3) := by decide +kernel
theorem dX7_pays_26 : decode cX7_pays 26 = .ok (.ireturn, 1) := by decide +kernel
theorem dX7_pays_27 : decode cX7_pays 27 = .ok (.aload_n 0, 1) := by decide +kernel
theorem dX7_pays_28 : decode cX7_pays 28 = .ok (.iload_n 1, 1) := by decide +kernel
theorem dX7_pays_29 : decode cX7_pays 29 = .ok (.invokevirtual 263, 3) := by decide +kernel
theorem dX7_pays_32 : decode cX7_pays 32 = .ok (.istore_n 3, 1) := by decide +kernel
theorem dX7_pays_33 : decode cX7_pays 33 = .ok (.iload_n 3, 1) := by decide +kernel
theorem dX7_pays_34 : decode cX7_pays 34 = .ok (.ifCond .eq 5, 3) := by decide +kernel
theorem dX7_pays_37 : decode cX7_pays 37 = .ok (.iload_n 3, 1) := by decide +kernel
theorem dX7_pays_38 : decode cX7_pays 38 = .ok (.ireturn, 1) := by decide +kernel
theorem dX7_pays_39 : decode cX7_pays 39 = .ok (.aload_n 0, 1) := by decide +kernel
theorem dX7_pays_40 : decode cX7_pays 40 = .ok (.aload_n 0, 1) := by decide +kernel
theorem dX7_pays_41 : decode cX7_pays 41 = .ok (.getfield 28, 3) := by decide +kernel
theorem dX7_pays_44 : decode cX7_pays 44 = .ok (.iload_n 1, 1) := by decide +kernel
theorem dX7_pays_45 : decode cX7_pays 45 = .ok (.iaload, 1) := by decide +kernel
theorem dX7_pays_46 : decode cX7_pays 46 = .ok (.aload_n 0, 1) := by decide +kernel
theorem dX7_pays_47 : decode cX7_pays 47 = .ok (.getfield 31, 3) := by decide +kernel
theorem dX7_pays_50 : decode cX7_pays 50 = .ok (.iload_n 1, 1) := by decide +kernel
theorem dX7_pays_51 : decode cX7_pays 51 = .ok (.iaload, 1) := by decide +kernel
theorem dX7_pays_52 : decode cX7_pays 52 = .ok (.invokevirtual 266, 3) := by decide +kernel
theorem dX7_pays_55 : decode cX7_pays 55 = .ok (.aload_n 0, 1) := by decide +kernel
theorem dX7_pays_56 : decode cX7_pays 56 = .ok (.getfield 64, 3) := by decide +kernel
theorem dX7_pays_59 : decode cX7_pays 59 = .ok (.iload_n 2, 1) := by decide +kernel
theorem dX7_pays_60 : decode cX7_pays 60 = .ok (.iaload, 1) := by decide +kernel
theorem dX7_pays_61 : decode cX7_pays 61 = .ok (.ireturn, 1) := by decide +kernel
theorem dX7_quiet_0 : decode cX7_quiet 0 = .ok (.aload_n 0, 1) := by decide +kernel
theorem dX7_quiet_1 : decode cX7_quiet 1 = .ok (.iload_n 1, 1) := by decide +kernel
theorem dX7_quiet_2 : decode cX7_quiet 2 = .ok (.iload_n 2, 1) := by decide +kernel
theorem dX7_quiet_3 : decode cX7_quiet 3 = .ok (.invokevirtual 309, 3) := by decide +kernel
theorem dX7_quiet_6 : decode cX7_quiet 6 = .ok (.istore_n 3, 1) := by decide +kernel
theorem dX7_quiet_7 : decode cX7_quiet 7 = .ok (.iload_n 3, 1) := by decide +kernel
theorem dX7_quiet_8 : decode cX7_quiet 8 = .ok (.ifCond .eq 5, 3) := by decide +kernel
theorem dX7_quiet_11 : decode cX7_quiet 11 = .ok (.iload_n 3, 1) := by decide +kernel
theorem dX7_quiet_12 : decode cX7_quiet 12 = .ok (.ireturn, 1) := by decide +kernel
theorem dX7_quiet_13 : decode cX7_quiet 13 = .ok (.iconst (-1), 1) := by decide +kernel
theorem dX7_quiet_14 : decode cX7_quiet 14 = .ok (.istore 4, 2) := by decide +kernel
theorem dX7_quiet_16 : decode cX7_quiet 16 = .ok (.aload_n 0, 1) := by decide +kernel
theorem dX7_quiet_17 : decode cX7_quiet 17 = .ok (.iload_n 1, 1) := by decide +kernel
theorem dX7_quiet_18 : decode cX7_quiet 18 = .ok (.iload_n 2, 1) := by decide +kernel
theorem dX7_quiet_19 : decode cX7_quiet 19 = .ok (.invokevirtual 312, 3) := by decide +kernel
theorem dX7_quiet_22 : decode cX7_quiet 22 = .ok (.istore 5, 2) := by decide +kernel
theorem dX7_quiet_24 : decode cX7_quiet 24 = .ok (.iconst 0, 1) := by decide +kernel
theorem dX7_quiet_25 : decode cX7_quiet 25 = .ok (.istore 6, 2) := by decide +kernel
theorem dX7_quiet_27 : decode cX7_quiet 27 = .ok (.iload 6, 2) := by decide +kernel
theorem dX7_quiet_29 : decode cX7_quiet 29 = .ok (.aload_n 0, 1) := by decide +kernel
theorem dX7_quiet_30 : decode cX7_quiet 30 = .ok (.getfield 80, 3) := by decide +kernel
theorem dX7_quiet_33 : decode cX7_quiet 33 = .ok (.if_icmp .ge 82, 3) := by decide +kernel
theorem dX7_quiet_36 : decode cX7_quiet 36 = .ok (.aload_n 0, 1) := by decide +kernel
theorem dX7_quiet_37 : decode cX7_quiet 37 = .ok (.iload 6, 2) := by decide +kernel
theorem dX7_quiet_39 : decode cX7_quiet 39 = .ok (.invokevirtual 87, 3) := by decide +kernel
theorem dX7_quiet_42 : decode cX7_quiet 42 = .ok (.ifCond .eq 67, 3) := by decide +kernel
theorem dX7_quiet_45 : decode cX7_quiet 45 = .ok (.aload_n 0, 1) := by decide +kernel
theorem dX7_quiet_46 : decode cX7_quiet 46 = .ok (.getfield 42, 3) := by decide +kernel
theorem dX7_quiet_49 : decode cX7_quiet 49 = .ok (.iload 6, 2) := by decide +kernel
theorem dX7_quiet_51 : decode cX7_quiet 51 = .ok (.aaload, 1) := by decide +kernel
theorem dX7_quiet_52 : decode cX7_quiet 52 = .ok (.bipush 7, 2) := by decide +kernel
theorem dX7_quiet_54 : decode cX7_quiet 54 = .ok (.iaload, 1) := by decide +kernel
theorem dX7_quiet_55 : decode cX7_quiet 55 = .ok (.ifCond .ne 54, 3) := by decide +kernel
theorem dX7_quiet_58 : decode cX7_quiet 58 = .ok (.aload_n 0, 1) := by decide +kernel
theorem dX7_quiet_59 : decode cX7_quiet 59 = .ok (.invokevirtual 299, 3) := by decide +kernel
theorem dX7_quiet_62 : decode cX7_quiet 62 = .ok (.getfield 42, 3) := by decide +kernel
theorem dX7_quiet_65 : decode cX7_quiet 65 = .ok (.iload 6, 2) := by decide +kernel
theorem dX7_quiet_67 : decode cX7_quiet 67 = .ok (.aaload, 1) := by decide +kernel
theorem dX7_quiet_68 : decode cX7_quiet 68 = .ok (.bipush 6, 2) := by decide +kernel
theorem dX7_quiet_70 : decode cX7_quiet 70 = .ok (.iconst 0, 1) := by decide +kernel
theorem dX7_quiet_71 : decode cX7_quiet 71 = .ok (.iastore, 1) := by decide +kernel
theorem dX7_quiet_72 : decode cX7_quiet 72 = .ok (.aload_n 0, 1) := by decide +kernel
theorem dX7_quiet_73 : decode cX7_quiet 73 = .ok (.getfield 281, 3) := by decide +kernel
theorem dX7_quiet_76 : decode cX7_quiet 76 = .ok (.aload_n 0, 1) := by decide +kernel
theorem dX7_quiet_77 : decode cX7_quiet 77 = .ok (.getfield 28, 3) := by decide +kernel
theorem dX7_quiet_80 : decode cX7_quiet 80 = .ok (.iload_n 1, 1) := by decide +kernel
theorem dX7_quiet_81 : decode cX7_quiet 81 = .ok (.iaload, 1) := by decide +kernel
theorem dX7_quiet_82 : decode cX7_quiet 82 = .ok (.aload_n 0, 1) := by decide +kernel
theorem dX7_quiet_83 : decode cX7_quiet 83 = .ok (.getfield 31, 3) := by decide +kernel
theorem dX7_quiet_86 : decode cX7_quiet 86 = .ok (.iload_n 1, 1) := by decide +kernel
theorem dX7_quiet_87 : decode cX7_quiet 87 = .ok (.iaload, 1) := by decide +kernel
theorem dX7_quiet_88 : decode cX7_quiet 88 = .ok (.iload_n 2, 1) := by decide +kernel
theorem dX7_quiet_89 : decode cX7_quiet 89 = .ok (.invokevirtual 303, 3) := by decide +kernel
theorem dX7_quiet_92 : decode cX7_quiet 92 = .ok (.istore 7, 2) := by decide +kernel
theorem dX7_quiet_94 : decode cX7_quiet 94 = .ok (.iload 7, 2) := by decide +kernel
theorem dX7_quiet_96 : decode cX7_quiet 96 = .ok (.iload 5, 2) := by decide +kernel
theorem dX7_quiet_98 : decode cX7_quiet 98 = .ok (.if_icmp .ge 11, 3) := by decide +kernel
theorem dX7_quiet_101 : decode cX7_quiet 101 = .ok (.iload 6, 2) := by decide +kernel
theorem dX7_quiet_103 : decode cX7_quiet 103 = .ok (.istore 4, 2) := by decide +kernel
theorem dX7_quiet_105 : decode cX7_quiet 105 = .ok (.iload 7, 2) := by decide +kernel
theorem dX7_quiet_107 : decode cX7_quiet 107 = .ok (.istore 5, 2) := by decide +kernel
theorem dX7_quiet_109 : decode cX7_quiet 109 = .ok (.iinc 6 1, 3) := by decide +kernel
theorem dX7_quiet_112 : decode cX7_quiet 112 = .ok (.goto (-85), 3) := by decide +kernel
theorem dX7_quiet_115 : decode cX7_quiet 115 = .ok (.iload 4, 2) := by decide +kernel
theorem dX7_quiet_117 : decode cX7_quiet 117 = .ok (.ireturn, 1) := by decide +kernel
theorem dX7_row_0 : decode cX7_row 0 = .ok (.iload_n 1, 1) := by decide +kernel
theorem dX7_row_1 : decode cX7_row 1 = .ok (.i2l, 1) := by decide +kernel
theorem dX7_row_2 : decode cX7_row 2 = .ok (.lconst 0, 1) := by decide +kernel
theorem dX7_row_3 : decode cX7_row 3 = .ok (.ldc2_w 91, 3) := by decide +kernel
theorem dX7_row_6 : decode cX7_row 6 = .ok (.invokestatic 83, 3) := by decide +kernel
theorem dX7_row_9 : decode cX7_row 9 = .ok (.ifCond .eq 27, 3) := by decide +kernel
theorem dX7_row_12 : decode cX7_row 12 = .ok (.iload_n 2, 1) := by decide +kernel
theorem dX7_row_13 : decode cX7_row 13 = .ok (.i2l, 1) := by decide +kernel
theorem dX7_row_14 : decode cX7_row 14 = .ok (.lconst 0, 1) := by decide +kernel
theorem dX7_row_15 : decode cX7_row 15 = .ok (.ldc2_w 93, 3) := by decide +kernel
theorem dX7_row_18 : decode cX7_row 18 = .ok (.invokestatic 83, 3) := by decide +kernel
theorem dX7_row_21 : decode cX7_row 21 = .ok (.ifCond .eq 15, 3) := by decide +kernel
theorem dX7_row_24 : decode cX7_row 24 = .ok (.iload_n 3, 1) := by decide +kernel
theorem dX7_row_25 : decode cX7_row 25 = .ok (.i2l, 1) := by decide +kernel
theorem dX7_row_26 : decode cX7_row 26 = .ok (.lconst 0, 1) := by decide +kernel
theorem dX7_row_27 : decode cX7_row 27 = .ok (.ldc2_w 95, 3) := by decide +kernel
theorem dX7_row_30 : decode cX7_row 30 = .ok (.invokestatic 83, 3) := by decide +kernel
theorem dX7_row_33 : decode cX7_row 33 = .ok (.ifCond .ne 10, 3) := by decide +kernel
theorem dX7_row_36 : decode cX7_row 36 = .ok (.aload_n 0, 1) := by decide +kernel
theorem dX7_row_37 : decode cX7_row 37 = .ok (.bipush (-2), 2) := by decide +kernel
theorem dX7_row_39 : decode cX7_row 39 = .ok (.invokevirtual 97, 3) := by decide +kernel
theorem dX7_row_42 : decode cX7_row 42 = .ok (.ireturn, 1) := by decide +kernel
theorem dX7_row_43 : decode cX7_row 43 = .ok (.aload_n 0, 1) := by decide +kernel
theorem dX7_row_44 : decode cX7_row 44 = .ok (.getfield 7, 3) := by decide +kernel
theorem dX7_row_47 : decode cX7_row 47 = .ok (.iload_n 1, 1) := by decide +kernel
theorem dX7_row_48 : decode cX7_row 48 = .ok (.iconst 1, 1) := by decide +kernel
theorem dX7_row_49 : decode cX7_row 49 = .ok (.iastore, 1) := by decide +kernel
theorem dX7_row_50 : decode cX7_row 50 = .ok (.aload_n 0, 1) := by decide +kernel
theorem dX7_row_51 : decode cX7_row 51 = .ok (.getfield 13, 3) := by decide +kernel
theorem dX7_row_54 : decode cX7_row 54 = .ok (.iload_n 1, 1) := by decide +kernel
theorem dX7_row_55 : decode cX7_row 55 = .ok (.iload_n 2, 1) := by decide +kernel
theorem dX7_row_56 : decode cX7_row 56 = .ok (.iastore, 1) := by decide +kernel
theorem dX7_row_57 : decode cX7_row 57 = .ok (.aload_n 0, 1) := by decide +kernel
theorem dX7_row_58 : decode cX7_row 58 = .ok (.getfield 16, 3) := by decide +kernel
theorem dX7_row_61 : decode cX7_row 61 = .ok (.iload_n 1, 1) := by decide +kernel
theorem dX7_row_62 : decode cX7_row 62 = .ok (.iload_n 3, 1) := by decide +kernel
theorem dX7_row_63 : decode cX7_row 63 = .ok (.iastore, 1) := by decide +kernel
theorem dX7_row_64 : decode cX7_row 64 = .ok (.iconst 0, 1) := by decide +kernel
theorem dX7_row_65 : decode cX7_row 65 = .ok (.istore 4, 2) := by decide +kernel
theorem dX7_row_67 : decode cX7_row 67 = .ok (.iload 4, 2) := by decide +kernel
theorem dX7_row_69 : decode cX7_row 69 = .ok (.bipush 40, 2) := by decide +kernel
theorem dX7_row_71 : decode cX7_row 71 = .ok (.if_icmp .ge 19, 3) := by decide +kernel
theorem dX7_row_74 : decode cX7_row 74 = .ok (.aload_n 0, 1) := by decide +kernel
theorem dX7_row_75 : decode cX7_row 75 = .ok (.getfield 21, 3) := by decide +kernel
theorem dX7_row_78 : decode cX7_row 78 = .ok (.iload_n 1, 1) := by decide +kernel
theorem dX7_row_79 : decode cX7_row 79 = .ok (.aaload, 1) := by decide +kernel
theorem dX7_row_80 : decode cX7_row 80 = .ok (.iload 4, 2) := by decide +kernel
theorem dX7_row_82 : decode cX7_row 82 = .ok (.lconst 0, 1) := by decide +kernel
theorem dX7_row_83 : decode cX7_row 83 = .ok (.lastore, 1) := by decide +kernel
theorem dX7_row_84 : decode cX7_row 84 = .ok (.iinc 4 1, 3) := by decide +kernel
theorem dX7_row_87 : decode cX7_row 87 = .ok (.goto (-20), 3) := by decide +kernel
theorem dX7_row_90 : decode cX7_row 90 = .ok (.iconst 1, 1) := by decide +kernel
theorem dX7_row_91 : decode cX7_row 91 = .ok (.ireturn, 1) := by decide +kernel
theorem dX7_rule_0 : decode cX7_rule 0 = .ok (.iload_n 1, 1) := by decide +kernel
theorem dX7_rule_1 : decode cX7_rule 1 = .ok (.i2l, 1) := by decide +kernel
theorem dX7_rule_2 : decode cX7_rule 2 = .ok (.lconst 0, 1) := by decide +kernel
theorem dX7_rule_3 : decode cX7_rule 3 = .ok (.ldc2_w 91, 3) := by decide +kernel
theorem dX7_rule_6 : decode cX7_rule 6 = .ok (.invokestatic 83, 3) := by decide +kernel
theorem dX7_rule_9 : decode cX7_rule 9 = .ok (.ifCond .eq 27, 3) := by decide +kernel
theorem dX7_rule_12 : decode cX7_rule 12 = .ok (.iload_n 2, 1) := by decide +kernel
theorem dX7_rule_13 : decode cX7_rule 13 = .ok (.i2l, 1) := by decide +kernel
theorem dX7_rule_14 : decode cX7_rule 14 = .ok (.lconst 1, 1) := by decide +kernel
theorem dX7_rule_15 : decode cX7_rule 15 = .ok (.ldc2_w 105, 3) := by decide +kernel
theorem dX7_rule_18 : decode cX7_rule 18 = .ok (.invokestatic 83, 3) := by decide +kernel
theorem dX7_rule_21 : decode cX7_rule 21 = .ok (.ifCond .eq 15, 3) := by decide +kernel
theorem dX7_rule_24 : decode cX7_rule 24 = .ok (.iload_n 3, 1) := by decide +kernel
theorem dX7_rule_25 : decode cX7_rule 25 = .ok (.i2l, 1) := by decide +kernel
theorem dX7_rule_26 : decode cX7_rule 26 = .ok (.lconst 0, 1) := by decide +kernel
theorem dX7_rule_27 : decode cX7_rule 27 = .ok (.ldc2_w 107, 3) := by decide +kernel
theorem dX7_rule_30 : decode cX7_rule 30 = .ok (.invokestatic 83, 3) := by decide +kernel
theorem dX7_rule_33 : decode cX7_rule 33 = .ok (.ifCond .ne 10, 3) := by decide +kernel
theorem dX7_rule_36 : decode cX7_rule 36 = .ok (.aload_n 0, 1) := by decide +kernel
theorem dX7_rule_37 : decode cX7_rule 37 = .ok (.bipush (-2), 2) := by decide +kernel
theorem dX7_rule_39 : decode cX7_rule 39 = .ok (.invokevirtual 97, 3) := by decide +kernel
theorem dX7_rule_42 : decode cX7_rule 42 = .ok (.ireturn, 1) := by decide +kernel
theorem dX7_rule_43 : decode cX7_rule 43 = .ok (.aload_n 0, 1) := by decide +kernel
theorem dX7_rule_44 : decode cX7_rule 44 = .ok (.getfield 7, 3) := by decide +kernel
theorem dX7_rule_47 : decode cX7_rule 47 = .ok (.iload_n 1, 1) := by decide +kernel
theorem dX7_rule_48 : decode cX7_rule 48 = .ok (.iconst 2, 1) := by decide +kernel
theorem dX7_rule_49 : decode cX7_rule 49 = .ok (.iastore, 1) := by decide +kernel
theorem dX7_rule_50 : decode cX7_rule 50 = .ok (.aload_n 0, 1) := by decide +kernel
theorem dX7_rule_51 : decode cX7_rule 51 = .ok (.getfield 28, 3) := by decide +kernel
theorem dX7_rule_54 : decode cX7_rule 54 = .ok (.iload_n 1, 1) := by decide +kernel
theorem dX7_rule_55 : decode cX7_rule 55 = .ok (.iload_n 2, 1) := by decide +kernel
theorem dX7_rule_56 : decode cX7_rule 56 = .ok (.iastore, 1) := by decide +kernel
theorem dX7_rule_57 : decode cX7_rule 57 = .ok (.aload_n 0, 1) := by decide +kernel
theorem dX7_rule_58 : decode cX7_rule 58 = .ok (.getfield 31, 3) := by decide +kernel
theorem dX7_rule_61 : decode cX7_rule 61 = .ok (.iload_n 1, 1) := by decide +kernel
theorem dX7_rule_62 : decode cX7_rule 62 = .ok (.iload_n 3, 1) := by decide +kernel
theorem dX7_rule_63 : decode cX7_rule 63 = .ok (.iastore, 1) := by decide +kernel
theorem dX7_rule_64 : decode cX7_rule 64 = .ok (.iconst 1, 1) := by decide +kernel
theorem dX7_rule_65 : decode cX7_rule 65 = .ok (.ireturn, 1) := by decide +kernel
theorem dX7_run_0 : decode cX7_run 0 = .ok (.iload_n 3, 1) := by decide +kernel
theorem dX7_run_1 : decode cX7_run 1 = .ok (.i2l, 1) := by decide +kernel
theorem dX7_run_2 : decode cX7_run 2 = .ok (.lconst 0, 1) := by decide +kernel
theorem dX7_run_3 : decode cX7_run 3 = .ok (.ldc2_w 128, 3) := by decide +kernel
theorem dX7_run_6 : decode cX7_run 6 = .ok (.invokestatic 83, 3) := by decide +kernel
theorem dX7_run_9 : decode cX7_run 9 = .ok (.ifCond .ne 10, 3) := by decide +kernel
theorem dX7_run_12 : decode cX7_run 12 = .ok (.aload_n 0, 1) := by decide +kernel
theorem dX7_run_13 : decode cX7_run 13 = .ok (.bipush (-2), 2) := by decide +kernel
theorem dX7_run_15 : decode cX7_run 15 = .ok (.invokevirtual 97, 3) := by decide +kernel
theorem dX7_run_18 : decode cX7_run 18 = .ok (.ireturn, 1) := by decide +kernel
theorem dX7_run_19 : decode cX7_run 19 = .ok (.aload_n 0, 1) := by decide +kernel
theorem dX7_run_20 : decode cX7_run 20 = .ok (.iload_n 1, 1) := by decide +kernel
theorem dX7_run_21 : decode cX7_run 21 = .ok (.iload_n 2, 1) := by decide +kernel
theorem dX7_run_22 : decode cX7_run 22 = .ok (.invokevirtual 309, 3) := by decide +kernel
theorem dX7_run_25 : decode cX7_run 25 = .ok (.istore 4, 2) := by decide +kernel
theorem dX7_run_27 : decode cX7_run 27 = .ok (.iload 4, 2) := by decide +kernel
theorem dX7_run_29 : decode cX7_run 29 = .ok (.ifCond .eq 6, 3) := by decide +kernel
theorem dX7_run_32 : decode cX7_run 32 = .ok (.iload 4, 2) := by decide +kernel
theorem dX7_run_34 : decode cX7_run 34 = .ok (.ireturn, 1) := by decide +kernel
theorem dX7_run_35 : decode cX7_run 35 = .ok (.aload_n 0, 1) := by decide +kernel
theorem dX7_run_36 : decode cX7_run 36 = .ok (.iload_n 1, 1) := by decide +kernel
theorem dX7_run_37 : decode cX7_run 37 = .ok (.iload_n 2, 1) := by decide +kernel
theorem dX7_run_38 : decode cX7_run 38 = .ok (.invokevirtual 312, 3) := by decide +kernel
theorem dX7_run_41 : decode cX7_run 41 = .ok (.istore 5, 2) := by decide +kernel
theorem dX7_run_43 : decode cX7_run 43 = .ok (.iload_n 3, 1) := by decide +kernel
theorem dX7_run_44 : decode cX7_run 44 = .ok (.tableswitch 71 0 4 #[36, 39, 47, 55, 63], 36) := by decide +kernel
theorem dX7_run_80 : decode cX7_run 80 = .ok (.iload 5, 2) := by decide +kernel
theorem dX7_run_82 : decode cX7_run 82 = .ok (.ireturn, 1) := by decide +kernel
theorem dX7_run_83 : decode cX7_run 83 = .ok (.aload_n 0, 1) := by decide +kernel
theorem dX7_run_84 : decode cX7_run 84 = .ok (.getfield 281, 3) := by decide +kernel
theorem dX7_run_87 : decode cX7_run 87 = .ok (.getfield 253, 3) := by decide +kernel
theorem dX7_run_90 : decode cX7_run 90 = .ok (.ireturn, 1) := by decide +kernel
theorem dX7_run_91 : decode cX7_run 91 = .ok (.aload_n 0, 1) := by decide +kernel
theorem dX7_run_92 : decode cX7_run 92 = .ok (.getfield 281, 3) := by decide +kernel
theorem dX7_run_95 : decode cX7_run 95 = .ok (.invokevirtual 296, 3) := by decide +kernel
theorem dX7_run_98 : decode cX7_run 98 = .ok (.ireturn, 1) := by decide +kernel
theorem dX7_run_99 : decode cX7_run 99 = .ok (.aload_n 0, 1) := by decide +kernel
theorem dX7_run_100 : decode cX7_run 100 = .ok (.getfield 281, 3) := by decide +kernel
theorem dX7_run_103 : decode cX7_run 103 = .ok (.getfield 290, 3) := by decide +kernel
theorem dX7_run_106 : decode cX7_run 106 = .ok (.ireturn, 1) := by decide +kernel
theorem dX7_run_107 : decode cX7_run 107 = .ok (.aload_n 0, 1) := by decide +kernel
theorem dX7_run_108 : decode cX7_run 108 = .ok (.getfield 281, 3) := by decide +kernel
theorem dX7_run_111 : decode cX7_run 111 = .ok (.getfield 293, 3) := by decide +kernel
theorem dX7_run_114 : decode cX7_run 114 = .ok (.ireturn, 1) := by decide +kernel
theorem dX7_run_115 : decode cX7_run 115 = .ok (.aload_n 0, 1) := by decide +kernel
theorem dX7_run_116 : decode cX7_run 116 = .ok (.getfield 281, 3) := by decide +kernel
theorem dX7_run_119 : decode cX7_run 119 = .ok (.getfield 154, 3) := by decide +kernel
theorem dX7_run_122 : decode cX7_run 122 = .ok (.ireturn, 1) := by decide +kernel
theorem dX7_says_0 : decode cX7_says 0 = .ok (.iload_n 1, 1) := by decide +kernel
theorem dX7_says_1 : decode cX7_says 1 = .ok (.i2l, 1) := by decide +kernel
theorem dX7_says_2 : decode cX7_says 2 = .ok (.lconst 0, 1) := by decide +kernel
theorem dX7_says_3 : decode cX7_says 3 = .ok (.ldc2_w 91, 3) := by decide +kernel
theorem dX7_says_6 : decode cX7_says 6 = .ok (.invokestatic 83, 3) := by decide +kernel
theorem dX7_says_9 : decode cX7_says 9 = .ok (.ifCond .eq 15, 3) := by decide +kernel
theorem dX7_says_12 : decode cX7_says 12 = .ok (.iload_n 2, 1) := by decide +kernel
theorem dX7_says_13 : decode cX7_says 13 = .ok (.i2l, 1) := by decide +kernel
theorem dX7_says_14 : decode cX7_says 14 = .ok (.lconst 0, 1) := by decide +kernel
theorem dX7_says_15 : decode cX7_says 15 = .ok (.ldc2_w 105, 3) := by decide +kernel
theorem dX7_says_18 : decode cX7_says 18 = .ok (.invokestatic 83, 3) := by decide +kernel
theorem dX7_says_21 : decode cX7_says 21 = .ok (.ifCond .ne 10, 3) := by decide +kernel
theorem dX7_says_24 : decode cX7_says 24 = .ok (.aload_n 0, 1) := by decide +kernel
theorem dX7_says_25 : decode cX7_says 25 = .ok (.bipush (-2), 2) := by decide +kernel
theorem dX7_says_27 : decode cX7_says 27 = .ok (.invokevirtual 97, 3) := by decide +kernel
theorem dX7_says_30 : decode cX7_says 30 = .ok (.ireturn, 1) := by decide +kernel
theorem dX7_says_31 : decode cX7_says 31 = .ok (.aload_n 0, 1) := by decide +kernel
theorem dX7_says_32 : decode cX7_says 32 = .ok (.getfield 7, 3) := by decide +kernel
theorem dX7_says_35 : decode cX7_says 35 = .ok (.iload_n 1, 1) := by decide +kernel
theorem dX7_says_36 : decode cX7_says 36 = .ok (.iaload, 1) := by decide +kernel
theorem dX7_says_37 : decode cX7_says 37 = .ok (.iconst 1, 1) := by decide +kernel
theorem dX7_says_38 : decode cX7_says 38 = .ok (.if_icmp .eq 26, 3) := by decide +kernel
theorem dX7_says_41 : decode cX7_says 41 = .ok (.aload_n 0, 1) := by decide +kernel
theorem dX7_says_42 : decode cX7_says 42 = .ok (.getfield 7, 3) := by decide +kernel
theorem dX7_says_45 : decode cX7_says 45 = .ok (.iload_n 1, 1) := by decide +kernel
theorem dX7_says_46 : decode cX7_says 46 = .ok (.iaload, 1) := by decide +kernel
theorem dX7_says_47 : decode cX7_says 47 = .ok (.iconst 2, 1) := by decide +kernel
theorem dX7_says_48 : decode cX7_says 48 = .ok (.if_icmp .ne 23, 3) := by decide +kernel
theorem dX7_says_51 : decode cX7_says 51 = .ok (.aload_n 0, 1) := by decide +kernel
theorem dX7_says_52 : decode cX7_says 52 = .ok (.getfield 28, 3) := by decide +kernel
theorem dX7_says_55 : decode cX7_says 55 = .ok (.iload_n 1, 1) := by decide +kernel
theorem dX7_says_56 : decode cX7_says 56 = .ok (.iaload, 1) := by decide +kernel
theorem dX7_says_57 : decode cX7_says 57 = .ok (.iload_n 2, 1) := by decide +kernel
theorem dX7_says_58 : decode cX7_says 58 = .ok (.invokestatic 109, 3) := by decide +kernel
theorem dX7_says_61 : decode cX7_says 61 = .ok (.ifCond .ne 10, 3) := by decide +kernel
theorem dX7_says_64 : decode cX7_says 64 = .ok (.aload_n 0, 1) := by decide +kernel
theorem dX7_says_65 : decode cX7_says 65 = .ok (.bipush (-3), 2) := by decide +kernel
theorem dX7_says_67 : decode cX7_says 67 = .ok (.invokevirtual 97, 3) := by decide +kernel
theorem dX7_says_70 : decode cX7_says 70 = .ok (.ireturn, 1) := by decide +kernel
theorem dX7_says_71 : decode cX7_says 71 = .ok (.aload_n 0, 1) := by decide +kernel
theorem dX7_says_72 : decode cX7_says 72 = .ok (.getfield 7, 3) := by decide +kernel
theorem dX7_says_75 : decode cX7_says 75 = .ok (.iload_n 1, 1) := by decide +kernel
theorem dX7_says_76 : decode cX7_says 76 = .ok (.iaload, 1) := by decide +kernel
theorem dX7_says_77 : decode cX7_says 77 = .ok (.ifCond .ne 10, 3) := by decide +kernel
theorem dX7_says_80 : decode cX7_says 80 = .ok (.aload_n 0, 1) := by decide +kernel
theorem dX7_says_81 : decode cX7_says 81 = .ok (.bipush (-4), 2) := by decide +kernel
theorem dX7_says_83 : decode cX7_says 83 = .ok (.invokevirtual 97, 3) := by decide +kernel
theorem dX7_says_86 : decode cX7_says 86 = .ok (.ireturn, 1) := by decide +kernel
theorem dX7_says_87 : decode cX7_says 87 = .ok (.iload_n 2, 1) := by decide +kernel
theorem dX7_says_88 : decode cX7_says 88 = .ok (.lookupswitch 111 #[(0, 36), (4, 43), (5, 64)], 36) := by decide +kernel
theorem dX7_says_124 : decode cX7_says 124 = .ok (.aload_n 0, 1) := by decide +kernel
theorem dX7_says_125 : decode cX7_says 125 = .ok (.getfield 31, 3) := by decide +kernel
theorem dX7_says_128 : decode cX7_says 128 = .ok (.iload_n 1, 1) := by decide +kernel
theorem dX7_says_129 : decode cX7_says 129 = .ok (.iaload, 1) := by decide +kernel
theorem dX7_says_130 : decode cX7_says 130 = .ok (.ireturn, 1) := by decide +kernel
theorem dX7_says_131 : decode cX7_says 131 = .ok (.aload_n 0, 1) := by decide +kernel
theorem dX7_says_132 : decode cX7_says 132 = .ok (.invokevirtual 113, 3) := by decide +kernel
theorem dX7_says_135 : decode cX7_says 135 = .ok (.ifCond .ne 7, 3) := by decide +kernel
theorem dX7_says_138 : decode cX7_says 138 = .ok (.iconst 0, 1) := by decide +kernel
theorem dX7_says_139 : decode cX7_says 139 = .ok (.goto 12, 3) := by decide +kernel
theorem dX7_says_142 : decode cX7_says 142 = .ok (.aload_n 0, 1) := by decide +kernel
theorem dX7_says_143 : decode cX7_says 143 = .ok (.invokevirtual 117, 3) := by decide +kernel
theorem dX7_says_146 : decode cX7_says 146 = .ok (.aload_n 0, 1) := by decide +kernel
theorem dX7_says_147 : decode cX7_says 147 = .ok (.invokevirtual 113, 3) := by decide +kernel
theorem dX7_says_150 : decode cX7_says 150 = .ok (.idiv, 1) := by decide +kernel
theorem dX7_says_151 : decode cX7_says 151 = .ok (.ireturn, 1) := by decide +kernel
theorem dX7_says_152 : decode cX7_says 152 = .ok (.iconst 0, 1) := by decide +kernel
theorem dX7_says_153 : decode cX7_says 153 = .ok (.istore_n 3, 1) := by decide +kernel
theorem dX7_says_154 : decode cX7_says 154 = .ok (.iconst 0, 1) := by decide +kernel
theorem dX7_says_155 : decode cX7_says 155 = .ok (.istore 4, 2) := by decide +kernel
theorem dX7_says_157 : decode cX7_says 157 = .ok (.iload 4, 2) := by decide +kernel
theorem dX7_says_159 : decode cX7_says 159 = .ok (.aload_n 0, 1) := by decide +kernel
theorem dX7_says_160 : decode cX7_says 160 = .ok (.getfield 80, 3) := by decide +kernel
theorem dX7_says_163 : decode cX7_says 163 = .ok (.if_icmp .ge 34, 3) := by decide +kernel
theorem dX7_says_166 : decode cX7_says 166 = .ok (.iload_n 3, 1) := by decide +kernel
theorem dX7_says_167 : decode cX7_says 167 = .ok (.aload_n 0, 1) := by decide +kernel
theorem dX7_says_168 : decode cX7_says 168 = .ok (.iload 4, 2) := by decide +kernel
theorem dX7_says_170 : decode cX7_says 170 = .ok (.invokevirtual 87, 3) := by decide +kernel
theorem dX7_says_173 : decode cX7_says 173 = .ok (.ifCond .eq 15, 3) := by decide +kernel
theorem dX7_says_176 : decode cX7_says 176 = .ok (.aload_n 0, 1) := by decide +kernel
theorem dX7_says_177 : decode cX7_says 177 = .ok (.getfield 42, 3) := by decide +kernel
theorem dX7_says_180 : decode cX7_says 180 = .ok (.iload 4, 2) := by decide +kernel
theorem dX7_says_182 : decode cX7_says 182 = .ok (.aaload, 1) := by decide +kernel
theorem dX7_says_183 : decode cX7_says 183 = .ok (.iconst 5, 1) := by decide +kernel
theorem dX7_says_184 : decode cX7_says 184 = .ok (.iaload, 1) := by decide +kernel
theorem dX7_says_185 : decode cX7_says 185 = .ok (.goto 4, 3) := by decide +kernel
theorem dX7_says_188 : decode cX7_says 188 = .ok (.iconst 0, 1) := by decide +kernel
theorem dX7_says_189 : decode cX7_says 189 = .ok (.iadd, 1) := by decide +kernel
theorem dX7_says_190 : decode cX7_says 190 = .ok (.istore_n 3, 1) := by decide +kernel
theorem dX7_says_191 : decode cX7_says 191 = .ok (.iinc 4 1, 3) := by decide +kernel
theorem dX7_says_194 : decode cX7_says 194 = .ok (.goto (-37), 3) := by decide +kernel
theorem dX7_says_197 : decode cX7_says 197 = .ok (.iload_n 3, 1) := by decide +kernel
theorem dX7_says_198 : decode cX7_says 198 = .ok (.ireturn, 1) := by decide +kernel
theorem dX7_says_199 : decode cX7_says 199 = .ok (.aload_n 0, 1) := by decide +kernel
theorem dX7_says_200 : decode cX7_says 200 = .ok (.aload_n 0, 1) := by decide +kernel
theorem dX7_says_201 : decode cX7_says 201 = .ok (.getfield 28, 3) := by decide +kernel
theorem dX7_says_204 : decode cX7_says 204 = .ok (.iload_n 1, 1) := by decide +kernel
theorem dX7_says_205 : decode cX7_says 205 = .ok (.iaload, 1) := by decide +kernel
theorem dX7_says_206 : decode cX7_says 206 = .ok (.iconst 0, 1) := by decide +kernel
theorem dX7_says_207 : decode cX7_says 207 = .ok (.invokevirtual 120, 3) := by decide +kernel
theorem dX7_says_210 : decode cX7_says 210 = .ok (.ireturn, 1) := by decide +kernel
theorem dX7_seed_0 : decode cX7_seed 0 = .ok (.aload_n 0, 1) := by decide +kernel
theorem dX7_seed_1 : decode cX7_seed 1 = .ok (.getfield 55, 3) := by decide +kernel
theorem dX7_seed_4 : decode cX7_seed 4 = .ok (.istore_n 2, 1) := by decide +kernel
theorem dX7_seed_5 : decode cX7_seed 5 = .ok (.aload_n 0, 1) := by decide +kernel
theorem dX7_seed_6 : decode cX7_seed 6 = .ok (.iload_n 1, 1) := by decide +kernel
theorem dX7_seed_7 : decode cX7_seed 7 = .ok (.putfield 55, 3) := by decide +kernel
theorem dX7_seed_10 : decode cX7_seed 10 = .ok (.iload_n 2, 1) := by decide +kernel
theorem dX7_seed_11 : decode cX7_seed 11 = .ok (.ireturn, 1) := by decide +kernel
theorem dX7_set_0 : decode cX7_set 0 = .ok (.iload_n 1, 1) := by decide +kernel
theorem dX7_set_1 : decode cX7_set 1 = .ok (.i2l, 1) := by decide +kernel
theorem dX7_set_2 : decode cX7_set 2 = .ok (.lconst 0, 1) := by decide +kernel
theorem dX7_set_3 : decode cX7_set 3 = .ok (.ldc2_w 91, 3) := by decide +kernel
theorem dX7_set_6 : decode cX7_set 6 = .ok (.invokestatic 83, 3) := by decide +kernel
theorem dX7_set_9 : decode cX7_set 9 = .ok (.ifCond .ne 10, 3) := by decide +kernel
theorem dX7_set_12 : decode cX7_set 12 = .ok (.aload_n 0, 1) := by decide +kernel
theorem dX7_set_13 : decode cX7_set 13 = .ok (.bipush (-2), 2) := by decide +kernel
theorem dX7_set_15 : decode cX7_set 15 = .ok (.invokevirtual 97, 3) := by decide +kernel
theorem dX7_set_18 : decode cX7_set 18 = .ok (.ireturn, 1) := by decide +kernel
theorem dX7_set_19 : decode cX7_set 19 = .ok (.aload_n 0, 1) := by decide +kernel
theorem dX7_set_20 : decode cX7_set 20 = .ok (.getfield 7, 3) := by decide +kernel
theorem dX7_set_23 : decode cX7_set 23 = .ok (.iload_n 1, 1) := by decide +kernel
theorem dX7_set_24 : decode cX7_set 24 = .ok (.iaload, 1) := by decide +kernel
theorem dX7_set_25 : decode cX7_set 25 = .ok (.iconst 2, 1) := by decide +kernel
theorem dX7_set_26 : decode cX7_set 26 = .ok (.if_icmp .ne 10, 3) := by decide +kernel
theorem dX7_set_29 : decode cX7_set 29 = .ok (.aload_n 0, 1) := by decide +kernel
theorem dX7_set_30 : decode cX7_set 30 = .ok (.bipush (-3), 2) := by decide +kernel
theorem dX7_set_32 : decode cX7_set 32 = .ok (.invokevirtual 97, 3) := by decide +kernel
theorem dX7_set_35 : decode cX7_set 35 = .ok (.ireturn, 1) := by decide +kernel
theorem dX7_set_36 : decode cX7_set 36 = .ok (.aload_n 0, 1) := by decide +kernel
theorem dX7_set_37 : decode cX7_set 37 = .ok (.getfield 7, 3) := by decide +kernel
theorem dX7_set_40 : decode cX7_set 40 = .ok (.iload_n 1, 1) := by decide +kernel
theorem dX7_set_41 : decode cX7_set 41 = .ok (.iaload, 1) := by decide +kernel
theorem dX7_set_42 : decode cX7_set 42 = .ok (.ifCond .ne 10, 3) := by decide +kernel
theorem dX7_set_45 : decode cX7_set 45 = .ok (.aload_n 0, 1) := by decide +kernel
theorem dX7_set_46 : decode cX7_set 46 = .ok (.bipush (-4), 2) := by decide +kernel
theorem dX7_set_48 : decode cX7_set 48 = .ok (.invokevirtual 97, 3) := by decide +kernel
theorem dX7_set_51 : decode cX7_set 51 = .ok (.ireturn, 1) := by decide +kernel
theorem dX7_set_52 : decode cX7_set 52 = .ok (.iload_n 2, 1) := by decide +kernel
theorem dX7_set_53 : decode cX7_set 53 = .ok (.i2l, 1) := by decide +kernel
theorem dX7_set_54 : decode cX7_set 54 = .ok (.lconst 0, 1) := by decide +kernel
theorem dX7_set_55 : decode cX7_set 55 = .ok (.aload_n 0, 1) := by decide +kernel
theorem dX7_set_56 : decode cX7_set 56 = .ok (.getfield 16, 3) := by decide +kernel
theorem dX7_set_59 : decode cX7_set 59 = .ok (.iload_n 1, 1) := by decide +kernel
theorem dX7_set_60 : decode cX7_set 60 = .ok (.iaload, 1) := by decide +kernel
theorem dX7_set_61 : decode cX7_set 61 = .ok (.iconst 1, 1) := by decide +kernel
theorem dX7_set_62 : decode cX7_set 62 = .ok (.isub, 1) := by decide +kernel
theorem dX7_set_63 : decode cX7_set 63 = .ok (.i2l, 1) := by decide +kernel
theorem dX7_set_64 : decode cX7_set 64 = .ok (.invokestatic 83, 3) := by decide +kernel
theorem dX7_set_67 : decode cX7_set 67 = .ok (.ifCond .ne 10, 3) := by decide +kernel
theorem dX7_set_70 : decode cX7_set 70 = .ok (.aload_n 0, 1) := by decide +kernel
theorem dX7_set_71 : decode cX7_set 71 = .ok (.bipush (-2), 2) := by decide +kernel
theorem dX7_set_73 : decode cX7_set 73 = .ok (.invokevirtual 97, 3) := by decide +kernel
theorem dX7_set_76 : decode cX7_set 76 = .ok (.ireturn, 1) := by decide +kernel
theorem dX7_set_77 : decode cX7_set 77 = .ok (.aload_n 0, 1) := by decide +kernel
theorem dX7_set_78 : decode cX7_set 78 = .ok (.getfield 21, 3) := by decide +kernel
theorem dX7_set_81 : decode cX7_set 81 = .ok (.iload_n 1, 1) := by decide +kernel
theorem dX7_set_82 : decode cX7_set 82 = .ok (.aaload, 1) := by decide +kernel
theorem dX7_set_83 : decode cX7_set 83 = .ok (.iload_n 2, 1) := by decide +kernel
theorem dX7_set_84 : decode cX7_set 84 = .ok (.aload_n 0, 1) := by decide +kernel
theorem dX7_set_85 : decode cX7_set 85 = .ok (.getfield 13, 3) := by decide +kernel
theorem dX7_set_88 : decode cX7_set 88 = .ok (.iload_n 1, 1) := by decide +kernel
theorem dX7_set_89 : decode cX7_set 89 = .ok (.iaload, 1) := by decide +kernel
theorem dX7_set_90 : decode cX7_set 90 = .ok (.lload_n 3, 1) := by decide +kernel
theorem dX7_set_91 : decode cX7_set 91 = .ok (.invokestatic 101, 3) := by decide +kernel
theorem dX7_set_94 : decode cX7_set 94 = .ok (.lastore, 1) := by decide +kernel
theorem dX7_set_95 : decode cX7_set 95 = .ok (.iconst 1, 1) := by decide +kernel
theorem dX7_set_96 : decode cX7_set 96 = .ok (.ireturn, 1) := by decide +kernel
theorem dX7_status_0 : decode cX7_status 0 = .ok (.iload_n 1, 1) := by decide +kernel
theorem dX7_status_1 : decode cX7_status 1 = .ok (.tableswitch 144 0 10 #[59, 64, 69, 74, 79, 84, 89, 94, 99, 134, 139], 59) := by decide +kernel
theorem dX7_status_60 : decode cX7_status 60 = .ok (.aload_n 0, 1) := by decide +kernel
theorem dX7_status_61 : decode cX7_status 61 = .ok (.getfield 80, 3) := by decide +kernel
theorem dX7_status_64 : decode cX7_status 64 = .ok (.ireturn, 1) := by decide +kernel
theorem dX7_status_65 : decode cX7_status 65 = .ok (.aload_n 0, 1) := by decide +kernel
theorem dX7_status_66 : decode cX7_status 66 = .ok (.invokevirtual 113, 3) := by decide +kernel
theorem dX7_status_69 : decode cX7_status 69 = .ok (.ireturn, 1) := by decide +kernel
theorem dX7_status_70 : decode cX7_status 70 = .ok (.aload_n 0, 1) := by decide +kernel
theorem dX7_status_71 : decode cX7_status 71 = .ok (.getfield 244, 3) := by decide +kernel
theorem dX7_status_74 : decode cX7_status 74 = .ok (.ireturn, 1) := by decide +kernel
theorem dX7_status_75 : decode cX7_status 75 = .ok (.aload_n 0, 1) := by decide +kernel
theorem dX7_status_76 : decode cX7_status 76 = .ok (.getfield 154, 3) := by decide +kernel
theorem dX7_status_79 : decode cX7_status 79 = .ok (.ireturn, 1) := by decide +kernel
theorem dX7_status_80 : decode cX7_status 80 = .ok (.aload_n 0, 1) := by decide +kernel
theorem dX7_status_81 : decode cX7_status 81 = .ok (.getfield 253, 3) := by decide +kernel
theorem dX7_status_84 : decode cX7_status 84 = .ok (.ireturn, 1) := by decide +kernel
theorem dX7_status_85 : decode cX7_status 85 = .ok (.aload_n 0, 1) := by decide +kernel
theorem dX7_status_86 : decode cX7_status 86 = .ok (.invokevirtual 296, 3) := by decide +kernel
theorem dX7_status_89 : decode cX7_status 89 = .ok (.ireturn, 1) := by decide +kernel
theorem dX7_status_90 : decode cX7_status 90 = .ok (.aload_n 0, 1) := by decide +kernel
theorem dX7_status_91 : decode cX7_status 91 = .ok (.getfield 157, 3) := by decide +kernel
theorem dX7_status_94 : decode cX7_status 94 = .ok (.ireturn, 1) := by decide +kernel
theorem dX7_status_95 : decode cX7_status 95 = .ok (.aload_n 0, 1) := by decide +kernel
theorem dX7_status_96 : decode cX7_status 96 = .ok (.getfield 55, 3) := by decide +kernel
theorem dX7_status_99 : decode cX7_status 99 = .ok (.ireturn, 1) := by decide +kernel
theorem dX7_status_100 : decode cX7_status 100 = .ok (.iconst 0, 1) := by decide +kernel
theorem dX7_status_101 : decode cX7_status 101 = .ok (.istore_n 2, 1) := by decide +kernel
theorem dX7_status_102 : decode cX7_status 102 = .ok (.iconst 0, 1) := by decide +kernel
theorem dX7_status_103 : decode cX7_status 103 = .ok (.istore_n 3, 1) := by decide +kernel
theorem dX7_status_104 : decode cX7_status 104 = .ok (.iload_n 3, 1) := by decide +kernel
theorem dX7_status_105 : decode cX7_status 105 = .ok (.bipush 8, 2) := by decide +kernel
theorem dX7_status_107 : decode cX7_status 107 = .ok (.if_icmp .ge 26, 3) := by decide +kernel
theorem dX7_status_110 : decode cX7_status 110 = .ok (.iload_n 2, 1) := by decide +kernel
theorem dX7_status_111 : decode cX7_status 111 = .ok (.aload_n 0, 1) := by decide +kernel
theorem dX7_status_112 : decode cX7_status 112 = .ok (.getfield 7, 3) := by decide +kernel
theorem dX7_status_115 : decode cX7_status 115 = .ok (.iload_n 3, 1) := by decide +kernel
theorem dX7_status_116 : decode cX7_status 116 = .ok (.iaload, 1) := by decide +kernel
theorem dX7_status_117 : decode cX7_status 117 = .ok (.ifCond .eq 7, 3) := by decide +kernel
theorem dX7_status_120 : decode cX7_status 120 = .ok (.iconst 1, 1) := by decide +kernel
theorem dX7_status_121 : decode cX7_status 121 = .ok (.goto 4, 3) := by decide +kernel
theorem dX7_status_124 : decode cX7_status 124 = .ok (.iconst 0, 1) := by decide +kernel
theorem dX7_status_125 : decode cX7_status 125 = .ok (.iadd, 1) := by decide +kernel
theorem dX7_status_126 : decode cX7_status 126 = .ok (.istore_n 2, 1) := by decide +kernel
theorem dX7_status_127 : decode cX7_status 127 = .ok (.iinc 3 1, 3) := by decide +kernel
theorem dX7_status_130 : decode cX7_status 130 = .ok (.goto (-26), 3) := by decide +kernel
theorem dX7_status_133 : decode cX7_status 133 = .ok (.iload_n 2, 1) := by decide +kernel
theorem dX7_status_134 : decode cX7_status 134 = .ok (.ireturn, 1) := by decide +kernel
theorem dX7_status_135 : decode cX7_status 135 = .ok (.aload_n 0, 1) := by decide +kernel
theorem dX7_status_136 : decode cX7_status 136 = .ok (.getfield 48, 3) := by decide +kernel
theorem dX7_status_139 : decode cX7_status 139 = .ok (.ireturn, 1) := by decide +kernel
theorem dX7_status_140 : decode cX7_status 140 = .ok (.aload_n 0, 1) := by decide +kernel
theorem dX7_status_141 : decode cX7_status 141 = .ok (.getfield 52, 3) := by decide +kernel
theorem dX7_status_144 : decode cX7_status 144 = .ok (.ireturn, 1) := by decide +kernel
theorem dX7_status_145 : decode cX7_status 145 = .ok (.iload_n 1, 1) := by decide +kernel
theorem dX7_status_146 : decode cX7_status 146 = .ok (.i2l, 1) := by decide +kernel
theorem dX7_status_147 : decode cX7_status 147 = .ok (.ldc2_w 342, 3) := by decide +kernel
theorem dX7_status_150 : decode cX7_status 150 = .ok (.ldc2_w 344, 3) := by decide +kernel
theorem dX7_status_153 : decode cX7_status 153 = .ok (.invokestatic 83, 3) := by decide +kernel
theorem dX7_status_156 : decode cX7_status 156 = .ok (.ifCond .eq 15, 3) := by decide +kernel
theorem dX7_status_159 : decode cX7_status 159 = .ok (.aload_n 0, 1) := by decide +kernel
theorem dX7_status_160 : decode cX7_status 160 = .ok (.getfield 37, 3) := by decide +kernel
theorem dX7_status_163 : decode cX7_status 163 = .ok (.iload_n 1, 1) := by decide +kernel
theorem dX7_status_164 : decode cX7_status 164 = .ok (.bipush 10, 2) := by decide +kernel
theorem dX7_status_166 : decode cX7_status 166 = .ok (.isub, 1) := by decide +kernel
theorem dX7_status_167 : decode cX7_status 167 = .ok (.iaload, 1) := by decide +kernel
theorem dX7_status_168 : decode cX7_status 168 = .ok (.goto 4, 3) := by decide +kernel
theorem dX7_status_171 : decode cX7_status 171 = .ok (.iconst (-1), 1) := by decide +kernel
theorem dX7_status_172 : decode cX7_status 172 = .ok (.ireturn, 1) := by decide +kernel
theorem dX7_weeks_0 : decode cX7_weeks 0 = .ok (.iload_n 1, 1) := by decide +kernel
theorem dX7_weeks_1 : decode cX7_weeks 1 = .ok (.i2l, 1) := by decide +kernel
theorem dX7_weeks_2 : decode cX7_weeks 2 = .ok (.lconst 0, 1) := by decide +kernel
theorem dX7_weeks_3 : decode cX7_weeks 3 = .ok (.ldc2_w 91, 3) := by decide +kernel
theorem dX7_weeks_6 : decode cX7_weeks 6 = .ok (.invokestatic 83, 3) := by decide +kernel
theorem dX7_weeks_9 : decode cX7_weeks 9 = .ok (.ifCond .eq 15, 3) := by decide +kernel
theorem dX7_weeks_12 : decode cX7_weeks 12 = .ok (.iload_n 2, 1) := by decide +kernel
theorem dX7_weeks_13 : decode cX7_weeks 13 = .ok (.i2l, 1) := by decide +kernel
theorem dX7_weeks_14 : decode cX7_weeks 14 = .ok (.lconst 1, 1) := by decide +kernel
theorem dX7_weeks_15 : decode cX7_weeks 15 = .ok (.ldc2_w 269, 3) := by decide +kernel
theorem dX7_weeks_18 : decode cX7_weeks 18 = .ok (.invokestatic 83, 3) := by decide +kernel
theorem dX7_weeks_21 : decode cX7_weeks 21 = .ok (.ifCond .ne 10, 3) := by decide +kernel
theorem dX7_weeks_24 : decode cX7_weeks 24 = .ok (.aload_n 0, 1) := by decide +kernel
theorem dX7_weeks_25 : decode cX7_weeks 25 = .ok (.bipush (-2), 2) := by decide +kernel
theorem dX7_weeks_27 : decode cX7_weeks 27 = .ok (.invokevirtual 97, 3) := by decide +kernel
theorem dX7_weeks_30 : decode cX7_weeks 30 = .ok (.ireturn, 1) := by decide +kernel
theorem dX7_weeks_31 : decode cX7_weeks 31 = .ok (.aload_n 0, 1) := by decide +kernel
theorem dX7_weeks_32 : decode cX7_weeks 32 = .ok (.iload_n 1, 1) := by decide +kernel
theorem dX7_weeks_33 : decode cX7_weeks 33 = .ok (.invokevirtual 263, 3) := by decide +kernel
theorem dX7_weeks_36 : decode cX7_weeks 36 = .ok (.istore_n 3, 1) := by decide +kernel
theorem dX7_weeks_37 : decode cX7_weeks 37 = .ok (.iload_n 3, 1) := by decide +kernel
theorem dX7_weeks_38 : decode cX7_weeks 38 = .ok (.ifCond .eq 5, 3) := by decide +kernel
theorem dX7_weeks_41 : decode cX7_weeks 41 = .ok (.iload_n 3, 1) := by decide +kernel
theorem dX7_weeks_42 : decode cX7_weeks 42 = .ok (.ireturn, 1) := by decide +kernel
theorem dX7_weeks_43 : decode cX7_weeks 43 = .ok (.iconst 0, 1) := by decide +kernel
theorem dX7_weeks_44 : decode cX7_weeks 44 = .ok (.istore 4, 2) := by decide +kernel
theorem dX7_weeks_46 : decode cX7_weeks 46 = .ok (.iconst 0, 1) := by decide +kernel
theorem dX7_weeks_47 : decode cX7_weeks 47 = .ok (.istore 5, 2) := by decide +kernel
theorem dX7_weeks_49 : decode cX7_weeks 49 = .ok (.iload 5, 2) := by decide +kernel
theorem dX7_weeks_51 : decode cX7_weeks 51 = .ok (.iload_n 2, 1) := by decide +kernel
theorem dX7_weeks_52 : decode cX7_weeks 52 = .ok (.if_icmp .ge 35, 3) := by decide +kernel
theorem dX7_weeks_55 : decode cX7_weeks 55 = .ok (.aload_n 0, 1) := by decide +kernel
theorem dX7_weeks_56 : decode cX7_weeks 56 = .ok (.aload_n 0, 1) := by decide +kernel
theorem dX7_weeks_57 : decode cX7_weeks 57 = .ok (.getfield 28, 3) := by decide +kernel
theorem dX7_weeks_60 : decode cX7_weeks 60 = .ok (.iload_n 1, 1) := by decide +kernel
theorem dX7_weeks_61 : decode cX7_weeks 61 = .ok (.iaload, 1) := by decide +kernel
theorem dX7_weeks_62 : decode cX7_weeks 62 = .ok (.aload_n 0, 1) := by decide +kernel
theorem dX7_weeks_63 : decode cX7_weeks 63 = .ok (.getfield 31, 3) := by decide +kernel
theorem dX7_weeks_66 : decode cX7_weeks 66 = .ok (.iload_n 1, 1) := by decide +kernel
theorem dX7_weeks_67 : decode cX7_weeks 67 = .ok (.iaload, 1) := by decide +kernel
theorem dX7_weeks_68 : decode cX7_weeks 68 = .ok (.invokevirtual 266, 3) := by decide +kernel
theorem dX7_weeks_71 : decode cX7_weeks 71 = .ok (.iload 4, 2) := by decide +kernel
theorem dX7_weeks_73 : decode cX7_weeks 73 = .ok (.aload_n 0, 1) := by decide +kernel
theorem dX7_weeks_74 : decode cX7_weeks 74 = .ok (.iconst 1, 1) := by decide +kernel
theorem dX7_weeks_75 : decode cX7_weeks 75 = .ok (.invokevirtual 271, 3) := by decide +kernel
theorem dX7_weeks_78 : decode cX7_weeks 78 = .ok (.iadd, 1) := by decide +kernel
theorem dX7_weeks_79 : decode cX7_weeks 79 = .ok (.istore 4, 2) := by decide +kernel
theorem dX7_weeks_81 : decode cX7_weeks 81 = .ok (.iinc 5 1, 3) := by decide +kernel
theorem dX7_weeks_84 : decode cX7_weeks 84 = .ok (.goto (-35), 3) := by decide +kernel
theorem dX7_weeks_87 : decode cX7_weeks 87 = .ok (.iload 4, 2) := by decide +kernel
theorem dX7_weeks_89 : decode cX7_weeks 89 = .ok (.ireturn, 1) := by decide +kernel
theorem dX7_wipe_0 : decode cX7_wipe 0 = .ok (.aload_n 0, 1) := by decide +kernel
theorem dX7_wipe_1 : decode cX7_wipe 1 = .ok (.getfield 157, 3) := by decide +kernel
theorem dX7_wipe_4 : decode cX7_wipe 4 = .ok (.istore_n 1, 1) := by decide +kernel
theorem dX7_wipe_5 : decode cX7_wipe 5 = .ok (.aload_n 0, 1) := by decide +kernel
theorem dX7_wipe_6 : decode cX7_wipe 6 = .ok (.iconst 0, 1) := by decide +kernel
theorem dX7_wipe_7 : decode cX7_wipe 7 = .ok (.putfield 157, 3) := by decide +kernel
theorem dX7_wipe_10 : decode cX7_wipe 10 = .ok (.iload_n 1, 1) := by decide +kernel
theorem dX7_wipe_11 : decode cX7_wipe 11 = .ok (.ireturn, 1) := by decide +kernel
theorem dX7_write_0 : decode cX7_write 0 = .ok (.aload_n 0, 1) := by decide +kernel
theorem dX7_write_1 : decode cX7_write 1 = .ok (.iload_n 1, 1) := by decide +kernel
theorem dX7_write_2 : decode cX7_write 2 = .ok (.invokevirtual 139, 3) := by decide +kernel
theorem dX7_write_5 : decode cX7_write 5 = .ok (.ifCond .ne 10, 3) := by decide +kernel
theorem dX7_write_8 : decode cX7_write 8 = .ok (.aload_n 0, 1) := by decide +kernel
theorem dX7_write_9 : decode cX7_write 9 = .ok (.bipush (-2), 2) := by decide +kernel
theorem dX7_write_11 : decode cX7_write 11 = .ok (.invokevirtual 97, 3) := by decide +kernel
theorem dX7_write_14 : decode cX7_write 14 = .ok (.ireturn, 1) := by decide +kernel
theorem dX7_write_15 : decode cX7_write 15 = .ok (.aload_n 0, 1) := by decide +kernel
theorem dX7_write_16 : decode cX7_write 16 = .ok (.iload_n 1, 1) := by decide +kernel
theorem dX7_write_17 : decode cX7_write 17 = .ok (.invokevirtual 87, 3) := by decide +kernel
theorem dX7_write_20 : decode cX7_write 20 = .ok (.ifCond .eq 16, 3) := by decide +kernel
theorem dX7_write_23 : decode cX7_write 23 = .ok (.aload_n 0, 1) := by decide +kernel
theorem dX7_write_24 : decode cX7_write 24 = .ok (.getfield 42, 3) := by decide +kernel
theorem dX7_write_27 : decode cX7_write 27 = .ok (.iload_n 1, 1) := by decide +kernel
theorem dX7_write_28 : decode cX7_write 28 = .ok (.aaload, 1) := by decide +kernel
theorem dX7_write_29 : decode cX7_write 29 = .ok (.bipush 7, 2) := by decide +kernel
theorem dX7_write_31 : decode cX7_write 31 = .ok (.iaload, 1) := by decide +kernel
theorem dX7_write_32 : decode cX7_write 32 = .ok (.iconst 1, 1) := by decide +kernel
theorem dX7_write_33 : decode cX7_write 33 = .ok (.if_icmp .ne 10, 3) := by decide +kernel
theorem dX7_write_36 : decode cX7_write 36 = .ok (.aload_n 0, 1) := by decide +kernel
theorem dX7_write_37 : decode cX7_write 37 = .ok (.bipush (-5), 2) := by decide +kernel
theorem dX7_write_39 : decode cX7_write 39 = .ok (.invokevirtual 97, 3) := by decide +kernel
theorem dX7_write_42 : decode cX7_write 42 = .ok (.ireturn, 1) := by decide +kernel
theorem dX7_write_43 : decode cX7_write 43 = .ok (.aload_n 0, 1) := by decide +kernel
theorem dX7_write_44 : decode cX7_write 44 = .ok (.getfield 42, 3) := by decide +kernel
theorem dX7_write_47 : decode cX7_write 47 = .ok (.iload_n 1, 1) := by decide +kernel
theorem dX7_write_48 : decode cX7_write 48 = .ok (.aaload, 1) := by decide +kernel
theorem dX7_write_49 : decode cX7_write 49 = .ok (.bipush 6, 2) := by decide +kernel
theorem dX7_write_51 : decode cX7_write 51 = .ok (.iaload, 1) := by decide +kernel
theorem dX7_write_52 : decode cX7_write 52 = .ok (.istore_n 2, 1) := by decide +kernel
theorem dX7_write_53 : decode cX7_write 53 = .ok (.aload_n 0, 1) := by decide +kernel
theorem dX7_write_54 : decode cX7_write 54 = .ok (.getfield 42, 3) := by decide +kernel
theorem dX7_write_57 : decode cX7_write 57 = .ok (.iload_n 1, 1) := by decide +kernel
theorem dX7_write_58 : decode cX7_write 58 = .ok (.aaload, 1) := by decide +kernel
theorem dX7_write_59 : decode cX7_write 59 = .ok (.bipush 6, 2) := by decide +kernel
theorem dX7_write_61 : decode cX7_write 61 = .ok (.iconst 0, 1) := by decide +kernel
theorem dX7_write_62 : decode cX7_write 62 = .ok (.iastore, 1) := by decide +kernel
theorem dX7_write_63 : decode cX7_write 63 = .ok (.aload_n 0, 1) := by decide +kernel
theorem dX7_write_64 : decode cX7_write 64 = .ok (.getfield 42, 3) := by decide +kernel
theorem dX7_write_67 : decode cX7_write 67 = .ok (.iload_n 1, 1) := by decide +kernel
theorem dX7_write_68 : decode cX7_write 68 = .ok (.aaload, 1) := by decide +kernel
theorem dX7_write_69 : decode cX7_write 69 = .ok (.bipush 7, 2) := by decide +kernel
theorem dX7_write_71 : decode cX7_write 71 = .ok (.iconst 1, 1) := by decide +kernel
theorem dX7_write_72 : decode cX7_write 72 = .ok (.iastore, 1) := by decide +kernel
theorem dX7_write_73 : decode cX7_write 73 = .ok (.iload_n 2, 1) := by decide +kernel
theorem dX7_write_74 : decode cX7_write 74 = .ok (.ireturn, 1) := by decide +kernel
