theorem dX0_limit_0 : decode cX0_limit 0 = .ok (.aload_n 0, 1) := by decide +kernel
theorem dX0_limit_1 : decode cX0_limit 1 = .ok (.getfield 13, 3) := by decide +kernel
theorem dX0_limit_4 : decode cX0_limit 4 = .ok (.iload_n 1, 1) := by decide +kernel
theorem dX0_limit_5 : decode cX0_limit 5 = .ok (.aaload, 1) := by decide +kernel
theorem dX0_limit_6 : decode cX0_limit 6 = .ok (.iconst 0, 1) := by decide +kernel
theorem dX0_limit_7 : decode cX0_limit 7 = .ok (.iaload, 1) := by decide +kernel
theorem dX0_limit_8 : decode cX0_limit 8 = .ok (.iconst 5, 1) := by decide +kernel
theorem dX0_limit_9 : decode cX0_limit 9 = .ok (.if_icmp .ne 16, 3) := by decide +kernel
theorem dX0_limit_12 : decode cX0_limit 12 = .ok (.iconst 2, 1) := by decide +kernel
theorem dX0_limit_13 : decode cX0_limit 13 = .ok (.aload_n 0, 1) := by decide +kernel
theorem dX0_limit_14 : decode cX0_limit 14 = .ok (.getfield 13, 3) := by decide +kernel
theorem dX0_limit_17 : decode cX0_limit 17 = .ok (.iload_n 1, 1) := by decide +kernel
theorem dX0_limit_18 : decode cX0_limit 18 = .ok (.aaload, 1) := by decide +kernel
theorem dX0_limit_19 : decode cX0_limit 19 = .ok (.iconst 3, 1) := by decide +kernel
theorem dX0_limit_20 : decode cX0_limit 20 = .ok (.iaload, 1) := by decide +kernel
theorem dX0_limit_21 : decode cX0_limit 21 = .ok (.imul, 1) := by decide +kernel
theorem dX0_limit_22 : decode cX0_limit 22 = .ok (.goto 11, 3) := by decide +kernel
theorem dX0_limit_25 : decode cX0_limit 25 = .ok (.aload_n 0, 1) := by decide +kernel
theorem dX0_limit_26 : decode cX0_limit 26 = .ok (.getfield 13, 3) := by decide +kernel
theorem dX0_limit_29 : decode cX0_limit 29 = .ok (.iload_n 1, 1) := by decide +kernel
theorem dX0_limit_30 : decode cX0_limit 30 = .ok (.aaload, 1) := by decide +kernel
theorem dX0_limit_31 : decode cX0_limit 31 = .ok (.iconst 3, 1) := by decide +kernel
theorem dX0_limit_32 : decode cX0_limit 32 = .ok (.iaload, 1) := by decide +kernel
theorem dX0_limit_33 : decode cX0_limit 33 = .ok (.ireturn, 1) := by decide +kernel
theorem dX0_growth_0 : decode cX0_growth 0 = .ok (.aload_n 0, 1) := by decide +kernel
theorem dX0_growth_1 : decode cX0_growth 1 = .ok (.getfield 13, 3) := by decide +kernel
theorem dX0_growth_4 : decode cX0_growth 4 = .ok (.iload_n 1, 1) := by decide +kernel
theorem dX0_growth_5 : decode cX0_growth 5 = .ok (.aaload, 1) := by decide +kernel
theorem dX0_growth_6 : decode cX0_growth 6 = .ok (.iconst 1, 1) := by decide +kernel
theorem dX0_growth_7 : decode cX0_growth 7 = .ok (.iaload, 1) := by decide +kernel
theorem dX0_growth_8 : decode cX0_growth 8 = .ok (.istore_n 3, 1) := by decide +kernel
theorem dX0_growth_9 : decode cX0_growth 9 = .ok (.aload_n 0, 1) := by decide +kernel
theorem dX0_growth_10 : decode cX0_growth 10 = .ok (.getfield 13, 3) := by decide +kernel
theorem dX0_growth_13 : decode cX0_growth 13 = .ok (.iload_n 1, 1) := by decide +kernel
theorem dX0_growth_14 : decode cX0_growth 14 = .ok (.aaload, 1) := by decide +kernel
theorem dX0_growth_15 : decode cX0_growth 15 = .ok (.iconst 2, 1) := by decide +kernel
theorem dX0_growth_16 : decode cX0_growth 16 = .ok (.iaload, 1) := by decide +kernel
theorem dX0_growth_17 : decode cX0_growth 17 = .ok (.istore 4, 2) := by decide +kernel
theorem dX0_growth_19 : decode cX0_growth 19 = .ok (.iload_n 3, 1) := by decide +kernel
theorem dX0_growth_20 : decode cX0_growth 20 = .ok (.ifCond .gt 5, 3) := by decide +kernel
theorem dX0_growth_23 : decode cX0_growth 23 = .ok (.iconst 0, 1) := by decide +kernel
theorem dX0_growth_24 : decode cX0_growth 24 = .ok (.ireturn, 1) := by decide +kernel
theorem dX0_growth_25 : decode cX0_growth 25 = .ok (.aload_n 0, 1) := by decide +kernel
theorem dX0_growth_26 : decode cX0_growth 26 = .ok (.getfield 13, 3) := by decide +kernel
theorem dX0_growth_29 : decode cX0_growth 29 = .ok (.iload_n 1, 1) := by decide +kernel
theorem dX0_growth_30 : decode cX0_growth 30 = .ok (.aaload, 1) := by decide +kernel
theorem dX0_growth_31 : decode cX0_growth 31 = .ok (.iconst 0, 1) := by decide +kernel
theorem dX0_growth_32 : decode cX0_growth 32 = .ok (.iaload, 1) := by decide +kernel
theorem dX0_growth_33 : decode cX0_growth 33 = .ok (.tableswitch 102 1 5 #[35, 43, 66, 81, 100], 35) := by decide +kernel
theorem dX0_growth_68 : decode cX0_growth 68 = .ok (.iload_n 3, 1) := by decide +kernel
theorem dX0_growth_69 : decode cX0_growth 69 = .ok (.iload 4, 2) := by decide +kernel
theorem dX0_growth_71 : decode cX0_growth 71 = .ok (.imul, 1) := by decide +kernel
theorem dX0_growth_72 : decode cX0_growth 72 = .ok (.bipush 100, 2) := by decide +kernel
theorem dX0_growth_74 : decode cX0_growth 74 = .ok (.idiv, 1) := by decide +kernel
theorem dX0_growth_75 : decode cX0_growth 75 = .ok (.ireturn, 1) := by decide +kernel
theorem dX0_growth_76 : decode cX0_growth 76 = .ok (.iload 4, 2) := by decide +kernel
theorem dX0_growth_78 : decode cX0_growth 78 = .ok (.ifCond .le 19, 3) := by decide +kernel
theorem dX0_growth_81 : decode cX0_growth 81 = .ok (.aload_n 0, 1) := by decide +kernel
theorem dX0_growth_82 : decode cX0_growth 82 = .ok (.getfield 24, 3) := by decide +kernel
theorem dX0_growth_85 : decode cX0_growth 85 = .ok (.iconst 1, 1) := by decide +kernel
theorem dX0_growth_86 : decode cX0_growth 86 = .ok (.iadd, 1) := by decide +kernel
theorem dX0_growth_87 : decode cX0_growth 87 = .ok (.iload 4, 2) := by decide +kernel
theorem dX0_growth_89 : decode cX0_growth 89 = .ok (.irem, 1) := by decide +kernel
theorem dX0_growth_90 : decode cX0_growth 90 = .ok (.ifCond .ne 7, 3) := by decide +kernel
theorem dX0_growth_93 : decode cX0_growth 93 = .ok (.iload_n 3, 1) := by decide +kernel
theorem dX0_growth_94 : decode cX0_growth 94 = .ok (.goto 4, 3) := by decide +kernel
theorem dX0_growth_97 : decode cX0_growth 97 = .ok (.iconst 0, 1) := by decide +kernel
theorem dX0_growth_98 : decode cX0_growth 98 = .ok (.ireturn, 1) := by decide +kernel
theorem dX0_growth_99 : decode cX0_growth 99 = .ok (.aload_n 0, 1) := by decide +kernel
theorem dX0_growth_100 : decode cX0_growth 100 = .ok (.getfield 24, 3) := by decide +kernel
theorem dX0_growth_103 : decode cX0_growth 103 = .ok (.iload 4, 2) := by decide +kernel
theorem dX0_growth_105 : decode cX0_growth 105 = .ok (.if_icmp .ge 7, 3) := by decide +kernel
theorem dX0_growth_108 : decode cX0_growth 108 = .ok (.iconst 0, 1) := by decide +kernel
theorem dX0_growth_109 : decode cX0_growth 109 = .ok (.goto 4, 3) := by decide +kernel
theorem dX0_growth_112 : decode cX0_growth 112 = .ok (.iconst 5, 1) := by decide +kernel
theorem dX0_growth_113 : decode cX0_growth 113 = .ok (.ireturn, 1) := by decide +kernel
theorem dX0_growth_114 : decode cX0_growth 114 = .ok (.iload_n 2, 1) := by decide +kernel
theorem dX0_growth_115 : decode cX0_growth 115 = .ok (.aload_n 0, 1) := by decide +kernel
theorem dX0_growth_116 : decode cX0_growth 116 = .ok (.getfield 13, 3) := by decide +kernel
theorem dX0_growth_119 : decode cX0_growth 119 = .ok (.iload_n 1, 1) := by decide +kernel
theorem dX0_growth_120 : decode cX0_growth 120 = .ok (.aaload, 1) := by decide +kernel
theorem dX0_growth_121 : decode cX0_growth 121 = .ok (.iconst 5, 1) := by decide +kernel
theorem dX0_growth_122 : decode cX0_growth 122 = .ok (.iaload, 1) := by decide +kernel
theorem dX0_growth_123 : decode cX0_growth 123 = .ok (.if_icmp .ge 8, 3) := by decide +kernel
theorem dX0_growth_126 : decode cX0_growth 126 = .ok (.iload 4, 2) := by decide +kernel
theorem dX0_growth_128 : decode cX0_growth 128 = .ok (.goto 4, 3) := by decide +kernel
theorem dX0_growth_131 : decode cX0_growth 131 = .ok (.iconst 0, 1) := by decide +kernel
theorem dX0_growth_132 : decode cX0_growth 132 = .ok (.ireturn, 1) := by decide +kernel
theorem dX0_growth_133 : decode cX0_growth 133 = .ok (.iconst 0, 1) := by decide +kernel
theorem dX0_growth_134 : decode cX0_growth 134 = .ok (.ireturn, 1) := by decide +kernel
theorem dX0_growth_135 : decode cX0_growth 135 = .ok (.iload 4, 2) := by decide +kernel
theorem dX0_growth_137 : decode cX0_growth 137 = .ok (.ireturn, 1) := by decide +kernel
theorem dX0_isOpen_0 : decode cX0_isOpen 0 = .ok (.aload_n 0, 1) := by decide +kernel
theorem dX0_isOpen_1 : decode cX0_isOpen 1 = .ok (.getfield 13, 3) := by decide +kernel
theorem dX0_isOpen_4 : decode cX0_isOpen 4 = .ok (.iload_n 1, 1) := by decide +kernel
theorem dX0_isOpen_5 : decode cX0_isOpen 5 = .ok (.aaload, 1) := by decide +kernel
theorem dX0_isOpen_6 : decode cX0_isOpen 6 = .ok (.iconst 1, 1) := by decide +kernel
theorem dX0_isOpen_7 : decode cX0_isOpen 7 = .ok (.iaload, 1) := by decide +kernel
theorem dX0_isOpen_8 : decode cX0_isOpen 8 = .ok (.ifCond .le 7, 3) := by decide +kernel
theorem dX0_isOpen_11 : decode cX0_isOpen 11 = .ok (.iconst 1, 1) := by decide +kernel
theorem dX0_isOpen_12 : decode cX0_isOpen 12 = .ok (.goto 4, 3) := by decide +kernel
theorem dX0_isOpen_15 : decode cX0_isOpen 15 = .ok (.iconst 0, 1) := by decide +kernel
theorem dX0_isOpen_16 : decode cX0_isOpen 16 = .ok (.ireturn, 1) := by decide +kernel
theorem dX0_hasDebt_0 : decode cX0_hasDebt 0 = .ok (.iload_n 1, 1) := by decide +kernel
theorem dX0_hasDebt_1 : decode cX0_hasDebt 1 = .ok (.ifCond .lt 15, 3) := by decide +kernel
theorem dX0_hasDebt_4 : decode cX0_hasDebt 4 = .ok (.iload_n 1, 1) := by decide +kernel
theorem dX0_hasDebt_5 : decode cX0_hasDebt 5 = .ok (.aload_n 0, 1) := by decide +kernel
theorem dX0_hasDebt_6 : decode cX0_hasDebt 6 = .ok (.getfield 20, 3) := by decide +kernel
theorem dX0_hasDebt_9 : decode cX0_hasDebt 9 = .ok (.if_icmp .ge 7, 3) := by decide +kernel
theorem dX0_hasDebt_12 : decode cX0_hasDebt 12 = .ok (.iconst 1, 1) := by decide +kernel
theorem dX0_hasDebt_13 : decode cX0_hasDebt 13 = .ok (.goto 4, 3) := by decide +kernel
theorem dX0_hasDebt_16 : decode cX0_hasDebt 16 = .ok (.iconst 0, 1) := by decide +kernel
theorem dX0_hasDebt_17 : decode cX0_hasDebt 17 = .ok (.ireturn, 1) := by decide +kernel
theorem dX0_openCount_0 : decode cX0_openCount 0 = .ok (.iconst 0, 1) := by decide +kernel
theorem dX0_openCount_1 : decode cX0_openCount 1 = .ok (.istore_n 1, 1) := by decide +kernel
theorem dX0_openCount_2 : decode cX0_openCount 2 = .ok (.iconst 0, 1) := by decide +kernel
theorem dX0_openCount_3 : decode cX0_openCount 3 = .ok (.istore_n 2, 1) := by decide +kernel
theorem dX0_openCount_4 : decode cX0_openCount 4 = .ok (.iload_n 2, 1) := by decide +kernel
theorem dX0_openCount_5 : decode cX0_openCount 5 = .ok (.aload_n 0, 1) := by decide +kernel
theorem dX0_openCount_6 : decode cX0_openCount 6 = .ok (.getfield 20, 3) := by decide +kernel
theorem dX0_openCount_9 : decode cX0_openCount 9 = .ok (.if_icmp .ge 28, 3) := by decide +kernel
theorem dX0_openCount_12 : decode cX0_openCount 12 = .ok (.iload_n 1, 1) := by decide +kernel
theorem dX0_openCount_13 : decode cX0_openCount 13 = .ok (.aload_n 0, 1) := by decide +kernel
theorem dX0_openCount_14 : decode cX0_openCount 14 = .ok (.getfield 13, 3) := by decide +kernel
theorem dX0_openCount_17 : decode cX0_openCount 17 = .ok (.iload_n 2, 1) := by decide +kernel
theorem dX0_openCount_18 : decode cX0_openCount 18 = .ok (.aaload, 1) := by decide +kernel
theorem dX0_openCount_19 : decode cX0_openCount 19 = .ok (.iconst 1, 1) := by decide +kernel
theorem dX0_openCount_20 : decode cX0_openCount 20 = .ok (.iaload, 1) := by decide +kernel
theorem dX0_openCount_21 : decode cX0_openCount 21 = .ok (.ifCond .le 7, 3) := by decide +kernel
theorem dX0_openCount_24 : decode cX0_openCount 24 = .ok (.iconst 1, 1) := by decide +kernel
theorem dX0_openCount_25 : decode cX0_openCount 25 = .ok (.goto 4, 3) := by decide +kernel
theorem dX0_openCount_28 : decode cX0_openCount 28 = .ok (.iconst 0, 1) := by decide +kernel
theorem dX0_openCount_29 : decode cX0_openCount 29 = .ok (.iadd, 1) := by decide +kernel
theorem dX0_openCount_30 : decode cX0_openCount 30 = .ok (.istore_n 1, 1) := by decide +kernel
theorem dX0_openCount_31 : decode cX0_openCount 31 = .ok (.iinc 2 1, 3) := by decide +kernel
theorem dX0_openCount_34 : decode cX0_openCount 34 = .ok (.goto (-30), 3) := by decide +kernel
theorem dX0_openCount_37 : decode cX0_openCount 37 = .ok (.iload_n 1, 1) := by decide +kernel
theorem dX0_openCount_38 : decode cX0_openCount 38 = .ok (.ireturn, 1) := by decide +kernel
theorem dX0_sumsTogether_0 : decode cX0_sumsTogether 0 = .ok (.iconst 0, 1) := by decide +kernel
theorem dX0_sumsTogether_1 : decode cX0_sumsTogether 1 = .ok (.istore_n 1, 1) := by decide +kernel
theorem dX0_sumsTogether_2 : decode cX0_sumsTogether 2 = .ok (.iconst 0, 1) := by decide +kernel
theorem dX0_sumsTogether_3 : decode cX0_sumsTogether 3 = .ok (.istore_n 2, 1) := by decide +kernel
theorem dX0_sumsTogether_4 : decode cX0_sumsTogether 4 = .ok (.iload_n 2, 1) := by decide +kernel
theorem dX0_sumsTogether_5 : decode cX0_sumsTogether 5 = .ok (.aload_n 0, 1) := by decide +kernel
theorem dX0_sumsTogether_6 : decode cX0_sumsTogether 6 = .ok (.getfield 20, 3) := by decide +kernel
theorem dX0_sumsTogether_9 : decode cX0_sumsTogether 9 = .ok (.if_icmp .ge 20, 3) := by decide +kernel
theorem dX0_sumsTogether_12 : decode cX0_sumsTogether 12 = .ok (.iload_n 1, 1) := by decide +kernel
theorem dX0_sumsTogether_13 : decode cX0_sumsTogether 13 = .ok (.aload_n 0, 1) := by decide +kernel
theorem dX0_sumsTogether_14 : decode cX0_sumsTogether 14 = .ok (.getfield 13, 3) := by decide +kernel
theorem dX0_sumsTogether_17 : decode cX0_sumsTogether 17 = .ok (.iload_n 2, 1) := by decide +kernel
theorem dX0_sumsTogether_18 : decode cX0_sumsTogether 18 = .ok (.aaload, 1) := by decide +kernel
theorem dX0_sumsTogether_19 : decode cX0_sumsTogether 19 = .ok (.iconst 1, 1) := by decide +kernel
theorem dX0_sumsTogether_20 : decode cX0_sumsTogether 20 = .ok (.iaload, 1) := by decide +kernel
theorem dX0_sumsTogether_21 : decode cX0_sumsTogether 21 = .ok (.iadd, 1) := by decide +kernel
theorem dX0_sumsTogether_22 : decode cX0_sumsTogether 22 = .ok (.istore_n 1, 1) := by decide +kernel
theorem dX0_sumsTogether_23 : decode cX0_sumsTogether 23 = .ok (.iinc 2 1, 3) := by decide +kernel
theorem dX0_sumsTogether_26 : decode cX0_sumsTogether 26 = .ok (.goto (-22), 3) := by decide +kernel
theorem dX0_sumsTogether_29 : decode cX0_sumsTogether 29 = .ok (.iload_n 1, 1) := by decide +kernel
theorem dX0_sumsTogether_30 : decode cX0_sumsTogether 30 = .ok (.ireturn, 1) := by decide +kernel
