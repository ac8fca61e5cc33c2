theorem dJ7_fill_53178_0 : decode cJ7_fill_53178 0 = .ok (.iconst 0, 1) := by decide +kernel
theorem dJ7_fill_53178_1 : decode cJ7_fill_53178 1 = .ok (.istore_n 2, 1) := by decide +kernel
theorem dJ7_fill_53178_2 : decode cJ7_fill_53178 2 = .ok (.aload_n 0, 1) := by decide +kernel
theorem dJ7_fill_53178_3 : decode cJ7_fill_53178 3 = .ok (.arraylength, 1) := by decide +kernel
theorem dJ7_fill_53178_4 : decode cJ7_fill_53178 4 = .ok (.istore_n 3, 1) := by decide +kernel
theorem dJ7_fill_53178_5 : decode cJ7_fill_53178 5 = .ok (.iload_n 2, 1) := by decide +kernel
theorem dJ7_fill_53178_6 : decode cJ7_fill_53178 6 = .ok (.iload_n 3, 1) := by decide +kernel
theorem dJ7_fill_53178_7 : decode cJ7_fill_53178 7 = .ok (.if_icmp .ge 13, 3) := by decide +kernel
theorem dJ7_fill_53178_10 : decode cJ7_fill_53178 10 = .ok (.aload_n 0, 1) := by decide +kernel
theorem dJ7_fill_53178_11 : decode cJ7_fill_53178 11 = .ok (.iload_n 2, 1) := by decide +kernel
theorem dJ7_fill_53178_12 : decode cJ7_fill_53178 12 = .ok (.iload_n 1, 1) := by decide +kernel
theorem dJ7_fill_53178_13 : decode cJ7_fill_53178 13 = .ok (.iastore, 1) := by decide +kernel
theorem dJ7_fill_53178_14 : decode cJ7_fill_53178 14 = .ok (.iinc 2 1, 3) := by decide +kernel
theorem dJ7_fill_53178_17 : decode cJ7_fill_53178 17 = .ok (.goto (-12), 3) := by decide +kernel
theorem dJ7_fill_53178_20 : decode cJ7_fill_53178 20 = .ok (.return_, 1) := by decide +kernel
theorem dX0_init_0 : decode cX0_init 0 = .ok (.aload_n 0, 1) := by decide +kernel
theorem dX0_init_1 : decode cX0_init 1 = .ok (.invokespecial 3, 3) := by decide +kernel
theorem dX0_init_4 : decode cX0_init 4 = .ok (.aload_n 0, 1) := by decide +kernel
theorem dX0_init_5 : decode cX0_init 5 = .ok (.bipush 9, 2) := by decide +kernel
theorem dX0_init_7 : decode cX0_init 7 = .ok (.bipush 9, 2) := by decide +kernel
theorem dX0_init_9 : decode cX0_init 9 = .ok (.multianewarray 11 2, 4) := by decide +kernel
theorem dX0_init_13 : decode cX0_init 13 = .ok (.putfield 13, 3) := by decide +kernel
theorem dX0_init_16 : decode cX0_init 16 = .ok (.aload_n 0, 1) := by decide +kernel
theorem dX0_init_17 : decode cX0_init 17 = .ok (.bipush 12, 2) := by decide +kernel
theorem dX0_init_19 : decode cX0_init 19 = .ok (.newarray .int, 2) := by decide +kernel
theorem dX0_init_21 : decode cX0_init 21 = .ok (.putfield 16, 3) := by decide +kernel
theorem dX0_init_24 : decode cX0_init 24 = .ok (.aload_n 0, 1) := by decide +kernel
theorem dX0_init_25 : decode cX0_init 25 = .ok (.iconst 0, 1) := by decide +kernel
theorem dX0_init_26 : decode cX0_init 26 = .ok (.putfield 20, 3) := by decide +kernel
theorem dX0_init_29 : decode cX0_init 29 = .ok (.aload_n 0, 1) := by decide +kernel
theorem dX0_init_30 : decode cX0_init 30 = .ok (.iconst 0, 1) := by decide +kernel
theorem dX0_init_31 : decode cX0_init 31 = .ok (.putfield 24, 3) := by decide +kernel
theorem dX0_init_34 : decode cX0_init 34 = .ok (.aload_n 0, 1) := by decide +kernel
theorem dX0_init_35 : decode cX0_init 35 = .ok (.iconst 0, 1) := by decide +kernel
theorem dX0_init_36 : decode cX0_init 36 = .ok (.putfield 27, 3) := by decide +kernel
theorem dX0_init_39 : decode cX0_init 39 = .ok (.aload_n 0, 1) := by decide +kernel
theorem dX0_init_40 : decode cX0_init 40 = .ok (.iconst 0, 1) := by decide +kernel
theorem dX0_init_41 : decode cX0_init 41 = .ok (.putfield 30, 3) := by decide +kernel
theorem dX0_init_44 : decode cX0_init 44 = .ok (.aload_n 0, 1) := by decide +kernel
theorem dX0_init_45 : decode cX0_init 45 = .ok (.bipush 10, 2) := by decide +kernel
theorem dX0_init_47 : decode cX0_init 47 = .ok (.putfield 33, 3) := by decide +kernel
theorem dX0_init_50 : decode cX0_init 50 = .ok (.aload_n 0, 1) := by decide +kernel
theorem dX0_init_51 : decode cX0_init 51 = .ok (.bipush 10, 2) := by decide +kernel
theorem dX0_init_53 : decode cX0_init 53 = .ok (.putfield 36, 3) := by decide +kernel
theorem dX0_init_56 : decode cX0_init 56 = .ok (.aload_n 0, 1) := by decide +kernel
theorem dX0_init_57 : decode cX0_init 57 = .ok (.iconst 1, 1) := by decide +kernel
theorem dX0_init_58 : decode cX0_init 58 = .ok (.putfield 39, 3) := by decide +kernel
theorem dX0_init_61 : decode cX0_init 61 = .ok (.aload_n 0, 1) := by decide +kernel
theorem dX0_init_62 : decode cX0_init 62 = .ok (.getfield 16, 3) := by decide +kernel
theorem dX0_init_65 : decode cX0_init 65 = .ok (.bipush 40, 2) := by decide +kernel
theorem dX0_init_67 : decode cX0_init 67 = .ok (.invokestatic 42, 3) := by decide +kernel
theorem dX0_init_70 : decode cX0_init 70 = .ok (.return_, 1) := by decide +kernel
theorem dX0_addDebt_0 : decode cX0_addDebt 0 = .ok (.aload_n 0, 1) := by decide +kernel
theorem dX0_addDebt_1 : decode cX0_addDebt 1 = .ok (.getfield 20, 3) := by decide +kernel
theorem dX0_addDebt_4 : decode cX0_addDebt 4 = .ok (.istore 7, 2) := by decide +kernel
theorem dX0_addDebt_6 : decode cX0_addDebt 6 = .ok (.iload 7, 2) := by decide +kernel
theorem dX0_addDebt_8 : decode cX0_addDebt 8 = .ok (.bipush 9, 2) := by decide +kernel
theorem dX0_addDebt_10 : decode cX0_addDebt 10 = .ok (.if_icmp .ge 87, 3) := by decide +kernel
theorem dX0_addDebt_13 : decode cX0_addDebt 13 = .ok (.aload_n 0, 1) := by decide +kernel
theorem dX0_addDebt_14 : decode cX0_addDebt 14 = .ok (.getfield 13, 3) := by decide +kernel
theorem dX0_addDebt_17 : decode cX0_addDebt 17 = .ok (.iload 7, 2) := by decide +kernel
theorem dX0_addDebt_19 : decode cX0_addDebt 19 = .ok (.aaload, 1) := by decide +kernel
theorem dX0_addDebt_20 : decode cX0_addDebt 20 = .ok (.iconst 0, 1) := by decide +kernel
theorem dX0_addDebt_21 : decode cX0_addDebt 21 = .ok (.invokestatic 42, 3) := by decide +kernel
theorem dX0_addDebt_24 : decode cX0_addDebt 24 = .ok (.aload_n 0, 1) := by decide +kernel
theorem dX0_addDebt_25 : decode cX0_addDebt 25 = .ok (.getfield 13, 3) := by decide +kernel
theorem dX0_addDebt_28 : decode cX0_addDebt 28 = .ok (.iload 7, 2) := by decide +kernel
theorem dX0_addDebt_30 : decode cX0_addDebt 30 = .ok (.aaload, 1) := by decide +kernel
theorem dX0_addDebt_31 : decode cX0_addDebt 31 = .ok (.iconst 0, 1) := by decide +kernel
theorem dX0_addDebt_32 : decode cX0_addDebt 32 = .ok (.iload_n 1, 1) := by decide +kernel
theorem dX0_addDebt_33 : decode cX0_addDebt 33 = .ok (.iastore, 1) := by decide +kernel
theorem dX0_addDebt_34 : decode cX0_addDebt 34 = .ok (.aload_n 0, 1) := by decide +kernel
theorem dX0_addDebt_35 : decode cX0_addDebt 35 = .ok (.getfield 13, 3) := by decide +kernel
theorem dX0_addDebt_38 : decode cX0_addDebt 38 = .ok (.iload 7, 2) := by decide +kernel
theorem dX0_addDebt_40 : decode cX0_addDebt 40 = .ok (.aaload, 1) := by decide +kernel
theorem dX0_addDebt_41 : decode cX0_addDebt 41 = .ok (.iconst 1, 1) := by decide +kernel
theorem dX0_addDebt_42 : decode cX0_addDebt 42 = .ok (.iload_n 2, 1) := by decide +kernel
theorem dX0_addDebt_43 : decode cX0_addDebt 43 = .ok (.iastore, 1) := by decide +kernel
theorem dX0_addDebt_44 : decode cX0_addDebt 44 = .ok (.aload_n 0, 1) := by decide +kernel
theorem dX0_addDebt_45 : decode cX0_addDebt 45 = .ok (.getfield 13, 3) := by decide +kernel
theorem dX0_addDebt_48 : decode cX0_addDebt 48 = .ok (.iload 7, 2) := by decide +kernel
theorem dX0_addDebt_50 : decode cX0_addDebt 50 = .ok (.aaload, 1) := by decide +kernel
theorem dX0_addDebt_51 : decode cX0_addDebt 51 = .ok (.iconst 2, 1) := by decide +kernel
theorem dX0_addDebt_52 : decode cX0_addDebt 52 = .ok (.iload_n 3, 1) := by decide +kernel
theorem dX0_addDebt_53 : decode cX0_addDebt 53 = .ok (.iastore, 1) := by decide +kernel
theorem dX0_addDebt_54 : decode cX0_addDebt 54 = .ok (.aload_n 0, 1) := by decide +kernel
theorem dX0_addDebt_55 : decode cX0_addDebt 55 = .ok (.getfield 13, 3) := by decide +kernel
theorem dX0_addDebt_58 : decode cX0_addDebt 58 = .ok (.iload 7, 2) := by decide +kernel
theorem dX0_addDebt_60 : decode cX0_addDebt 60 = .ok (.aaload, 1) := by decide +kernel
theorem dX0_addDebt_61 : decode cX0_addDebt 61 = .ok (.iconst 3, 1) := by decide +kernel
theorem dX0_addDebt_62 : decode cX0_addDebt 62 = .ok (.iload 4, 2) := by decide +kernel
theorem dX0_addDebt_64 : decode cX0_addDebt 64 = .ok (.iastore, 1) := by decide +kernel
theorem dX0_addDebt_65 : decode cX0_addDebt 65 = .ok (.aload_n 0, 1) := by decide +kernel
theorem dX0_addDebt_66 : decode cX0_addDebt 66 = .ok (.getfield 13, 3) := by decide +kernel
theorem dX0_addDebt_69 : decode cX0_addDebt 69 = .ok (.iload 7, 2) := by decide +kernel
theorem dX0_addDebt_71 : decode cX0_addDebt 71 = .ok (.aaload, 1) := by decide +kernel
theorem dX0_addDebt_72 : decode cX0_addDebt 72 = .ok (.iconst 4, 1) := by decide +kernel
theorem dX0_addDebt_73 : decode cX0_addDebt 73 = .ok (.iload 5, 2) := by decide +kernel
theorem dX0_addDebt_75 : decode cX0_addDebt 75 = .ok (.iastore, 1) := by decide +kernel
theorem dX0_addDebt_76 : decode cX0_addDebt 76 = .ok (.aload_n 0, 1) := by decide +kernel
theorem dX0_addDebt_77 : decode cX0_addDebt 77 = .ok (.getfield 13, 3) := by decide +kernel
theorem dX0_addDebt_80 : decode cX0_addDebt 80 = .ok (.iload 7, 2) := by decide +kernel
theorem dX0_addDebt_82 : decode cX0_addDebt 82 = .ok (.aaload, 1) := by decide +kernel
theorem dX0_addDebt_83 : decode cX0_addDebt 83 = .ok (.iconst 5, 1) := by decide +kernel
theorem dX0_addDebt_84 : decode cX0_addDebt 84 = .ok (.iload 6, 2) := by decide +kernel
theorem dX0_addDebt_86 : decode cX0_addDebt 86 = .ok (.iastore, 1) := by decide +kernel
theorem dX0_addDebt_87 : decode cX0_addDebt 87 = .ok (.aload_n 0, 1) := by decide +kernel
theorem dX0_addDebt_88 : decode cX0_addDebt 88 = .ok (.dup, 1) := by decide +kernel
theorem dX0_addDebt_89 : decode cX0_addDebt 89 = .ok (.getfield 20, 3) := by decide +kernel
theorem dX0_addDebt_92 : decode cX0_addDebt 92 = .ok (.iconst 1, 1) := by decide +kernel
theorem dX0_addDebt_93 : decode cX0_addDebt 93 = .ok (.iadd, 1) := by decide +kernel
theorem dX0_addDebt_94 : decode cX0_addDebt 94 = .ok (.putfield 20, 3) := by decide +kernel
theorem dX0_addDebt_97 : decode cX0_addDebt 97 = .ok (.iload 7, 2) := by decide +kernel
theorem dX0_addDebt_99 : decode cX0_addDebt 99 = .ok (.ireturn, 1) := by decide +kernel
theorem dX0_isAsleep_0 : decode cX0_isAsleep 0 = .ok (.aload_n 0, 1) := by decide +kernel
theorem dX0_isAsleep_1 : decode cX0_isAsleep 1 = .ok (.getfield 13, 3) := by decide +kernel
theorem dX0_isAsleep_4 : decode cX0_isAsleep 4 = .ok (.iload_n 1, 1) := by decide +kernel
theorem dX0_isAsleep_5 : decode cX0_isAsleep 5 = .ok (.aaload, 1) := by decide +kernel
theorem dX0_isAsleep_6 : decode cX0_isAsleep 6 = .ok (.iconst 0, 1) := by decide +kernel
theorem dX0_isAsleep_7 : decode cX0_isAsleep 7 = .ok (.iaload, 1) := by decide +kernel
theorem dX0_isAsleep_8 : decode cX0_isAsleep 8 = .ok (.iconst 3, 1) := by decide +kernel
theorem dX0_isAsleep_9 : decode cX0_isAsleep 9 = .ok (.if_icmp .ne 22, 3) := by decide +kernel
theorem dX0_isAsleep_12 : decode cX0_isAsleep 12 = .ok (.aload_n 0, 1) := by decide +kernel
theorem dX0_isAsleep_13 : decode cX0_isAsleep 13 = .ok (.getfield 24, 3) := by decide +kernel
theorem dX0_isAsleep_16 : decode cX0_isAsleep 16 = .ok (.aload_n 0, 1) := by decide +kernel
theorem dX0_isAsleep_17 : decode cX0_isAsleep 17 = .ok (.getfield 13, 3) := by decide +kernel
theorem dX0_isAsleep_20 : decode cX0_isAsleep 20 = .ok (.iload_n 1, 1) := by decide +kernel
theorem dX0_isAsleep_21 : decode cX0_isAsleep 21 = .ok (.aaload, 1) := by decide +kernel
theorem dX0_isAsleep_22 : decode cX0_isAsleep 22 = .ok (.iconst 2, 1) := by decide +kernel
theorem dX0_isAsleep_23 : decode cX0_isAsleep 23 = .ok (.iaload, 1) := by decide +kernel
theorem dX0_isAsleep_24 : decode cX0_isAsleep 24 = .ok (.if_icmp .ge 7, 3) := by decide +kernel
theorem dX0_isAsleep_27 : decode cX0_isAsleep 27 = .ok (.iconst 1, 1) := by decide +kernel
theorem dX0_isAsleep_28 : decode cX0_isAsleep 28 = .ok (.goto 4, 3) := by decide +kernel
theorem dX0_isAsleep_31 : decode cX0_isAsleep 31 = .ok (.iconst 0, 1) := by decide +kernel
theorem dX0_isAsleep_32 : decode cX0_isAsleep 32 = .ok (.ireturn, 1) := by decide +kernel
theorem dX0_limit_0 : decode cX0_limit 0 = .ok (.aload_n 0, 1) := by decide +kernel
theorem dX0_limit_1 : decode cX0_limit 1 = .ok (.getfield 13, 3) := by decide +kernel
theorem dX0_limit_4 : decode cX0_limit 4 = .ok (.iload_n 1, 1) := by decide +kernel
theorem dX0_limit_5 : decode cX0_limit 5 = .ok (.aaload, 1) := by decide +kernel
theorem dX0_limit_6 : decode cX0_limit 6 = .ok (.iconst 0, 1) := by decide +kernel
theorem dX0_limit_7 : decode cX0_limit 7 = .ok (.iaload, 1) := by decide +kernel
theorem dX0_limit_8 : decode cX0_limit 8 = .ok (.iconst 5, 1) := by decide +kernel
theorem dX0_limit_9 : decode cX0_limit 9 = .ok (.if_icmp .ne 16, 3) := by decide +kernel
theorem dX0_limit_12 : decode cX0_limit 12 = .ok (.iconst 2, 1) := by decide +kernel
theorem dX0_limit_13 : decode cX0_limit 13 = .ok (.aload_n 0, 1) := by decide +kernel
theorem dX0_limit_14 : decode cX0_limit 14 = .ok (.getfield 13, 3) := by decide +kernel
theorem dX0_limit_17 : decode cX0_limit 17 = .ok (.iload_n 1, 1) := by decide +kernel
theorem dX0_limit_18 : decode cX0_limit 18 = .ok (.aaload, 1) := by decide +kernel
theorem dX0_limit_19 : decode cX0_limit 19 = .ok (.iconst 3, 1) := by decide +kernel
theorem dX0_limit_20 : decode cX0_limit 20 = .ok (.iaload, 1) := by decide +kernel
theorem dX0_limit_21 : decode cX0_limit 21 = .ok (.imul, 1) := by decide +kernel
theorem dX0_limit_22 : decode cX0_limit 22 = .ok (.goto 11, 3) := by decide +kernel
theorem dX0_limit_25 : decode cX0_limit 25 = .ok (.aload_n 0, 1) := by decide +kernel
theorem dX0_limit_26 : decode cX0_limit 26 = .ok (.getfield 13, 3) := by decide +kernel
theorem dX0_limit_29 : decode cX0_limit 29 = .ok (.iload_n 1, 1) := by decide +kernel
theorem dX0_limit_30 : decode cX0_limit 30 = .ok (.aaload, 1) := by decide +kernel
theorem dX0_limit_31 : decode cX0_limit 31 = .ok (.iconst 3, 1) := by decide +kernel
theorem dX0_limit_32 : decode cX0_limit 32 = .ok (.iaload, 1) := by decide +kernel
theorem dX0_limit_33 : decode cX0_limit 33 = .ok (.ireturn, 1) := by decide +kernel
theorem dX0_draw_0 : decode cX0_draw 0 = .ok (.aload_n 0, 1) := by decide +kernel
theorem dX0_draw_1 : decode cX0_draw 1 = .ok (.aload_n 0, 1) := by decide +kernel
theorem dX0_draw_2 : decode cX0_draw 2 = .ok (.getfield 39, 3) := by decide +kernel
theorem dX0_draw_5 : decode cX0_draw 5 = .ok (.ldc 100, 2) := by decide +kernel
theorem dX0_draw_7 : decode cX0_draw 7 = .ok (.imul, 1) := by decide +kernel
theorem dX0_draw_8 : decode cX0_draw 8 = .ok (.sipush 12345, 3) := by decide +kernel
theorem dX0_draw_11 : decode cX0_draw 11 = .ok (.iadd, 1) := by decide +kernel
theorem dX0_draw_12 : decode cX0_draw 12 = .ok (.putfield 39, 3) := by decide +kernel
theorem dX0_draw_15 : decode cX0_draw 15 = .ok (.iload_n 1, 1) := by decide +kernel
theorem dX0_draw_16 : decode cX0_draw 16 = .ok (.ifCond .le 15, 3) := by decide +kernel
theorem dX0_draw_19 : decode cX0_draw 19 = .ok (.aload_n 0, 1) := by decide +kernel
theorem dX0_draw_20 : decode cX0_draw 20 = .ok (.getfield 39, 3) := by decide +kernel
theorem dX0_draw_23 : decode cX0_draw 23 = .ok (.bipush 16, 2) := by decide +kernel
theorem dX0_draw_25 : decode cX0_draw 25 = .ok (.iushr, 1) := by decide +kernel
theorem dX0_draw_26 : decode cX0_draw 26 = .ok (.iload_n 1, 1) := by decide +kernel
theorem dX0_draw_27 : decode cX0_draw 27 = .ok (.irem, 1) := by decide +kernel
theorem dX0_draw_28 : decode cX0_draw 28 = .ok (.goto 4, 3) := by decide +kernel
theorem dX0_draw_31 : decode cX0_draw 31 = .ok (.iconst 0, 1) := by decide +kernel
theorem dX0_draw_32 : decode cX0_draw 32 = .ok (.ireturn, 1) := by decide +kernel
theorem dX0_growth_0 : decode cX0_growth 0 = .ok (.aload_n 0, 1) := by decide +kernel
theorem dX0_growth_1 : decode cX0_growth 1 = .ok (.getfield 13, 3) := by decide +kernel
theorem dX0_growth_4 : decode cX0_growth 4 = .ok (.iload_n 1, 1) := by decide +kernel
theorem dX0_growth_5 : decode cX0_growth 5 = .ok (.aaload, 1) := by decide +kernel
theorem dX0_growth_6 : decode cX0_growth 6 = .ok (.iconst 1, 1) := by decide +kernel
theorem dX0_growth_7 : decode cX0_growth 7 = .ok (.iaload, 1) := by decide +kernel
theorem dX0_growth_8 : decode cX0_growth 8 = .ok (.istore_n 3, 1) := by decide +kernel
theorem dX0_growth_9 : decode cX0_growth 9 = .ok (.aload_n 0, 1) := by decide +kernel
theorem dX0_growth_10 : decode cX0_growth 10 = .ok (.getfield 13, 3) := by decide +kernel
theorem dX0_growth_13 : decode cX0_growth 13 = .ok (.iload_n 1, 1) := by decide +kernel
theorem dX0_growth_14 : decode cX0_growth 14 = .ok (.aaload, 1) := by decide +kernel
theorem dX0_growth_15 : decode cX0_growth 15 = .ok (.iconst 2, 1) := by decide +kernel
theorem dX0_growth_16 : decode cX0_growth 16 = .ok (.iaload, 1) := by decide +kernel
theorem dX0_growth_17 : decode cX0_growth 17 = .ok (.istore 4, 2) := by decide +kernel
theorem dX0_growth_19 : decode cX0_growth 19 = .ok (.iload_n 3, 1) := by decide +kernel
theorem dX0_growth_20 : decode cX0_growth 20 = .ok (.ifCond .gt 5, 3) := by decide +kernel
theorem dX0_growth_23 : decode cX0_growth 23 = .ok (.iconst 0, 1) := by decide +kernel
theorem dX0_growth_24 : decode cX0_growth 24 = .ok (.ireturn, 1) := by decide +kernel
theorem dX0_growth_25 : decode cX0_growth 25 = .ok (.aload_n 0, 1) := by decide +kernel
theorem dX0_growth_26 : decode cX0_growth 26 = .ok (.getfield 13, 3) := by decide +kernel
theorem dX0_growth_29 : decode cX0_growth 29 = .ok (.iload_n 1, 1) := by decide +kernel
theorem dX0_growth_30 : decode cX0_growth 30 = .ok (.aaload, 1) := by decide +kernel
theorem dX0_growth_31 : decode cX0_growth 31 = .ok (.iconst 0, 1) := by decide +kernel
theorem dX0_growth_32 : decode cX0_growth 32 = .ok (.iaload, 1) := by decide +kernel
theorem dX0_growth_33 : decode cX0_growth 33 = .ok (.tableswitch 102 1 5 #[35, 43, 66, 81, 100], 35) := by decide +kernel
theorem dX0_growth_68 : decode cX0_growth 68 = .ok (.iload_n 3, 1) := by decide +kernel
theorem dX0_growth_69 : decode cX0_growth 69 = .ok (.iload 4, 2) := by decide +kernel
theorem dX0_growth_71 : decode cX0_growth 71 = .ok (.imul, 1) := by decide +kernel
theorem dX0_growth_72 : decode cX0_growth 72 = .ok (.bipush 100, 2) := by decide +kernel
theorem dX0_growth_74 : decode cX0_growth 74 = .ok (.idiv, 1) := by decide +kernel
theorem dX0_growth_75 : decode cX0_growth 75 = .ok (.ireturn, 1) := by decide +kernel
theorem dX0_growth_76 : decode cX0_growth 76 = .ok (.iload 4, 2) := by decide +kernel
theorem dX0_growth_78 : decode cX0_growth 78 = .ok (.ifCond .le 19, 3) := by decide +kernel
theorem dX0_growth_81 : decode cX0_growth 81 = .ok (.aload_n 0, 1) := by decide +kernel
theorem dX0_growth_82 : decode cX0_growth 82 = .ok (.getfield 24, 3) := by decide +kernel
theorem dX0_growth_85 : decode cX0_growth 85 = .ok (.iconst 1, 1) := by decide +kernel
theorem dX0_growth_86 : decode cX0_growth 86 = .ok (.iadd, 1) := by decide +kernel
theorem dX0_growth_87 : decode cX0_growth 87 = .ok (.iload 4, 2) := by decide +kernel
theorem dX0_growth_89 : decode cX0_growth 89 = .ok (.irem, 1) := by decide +kernel
theorem dX0_growth_90 : decode cX0_growth 90 = .ok (.ifCond .ne 7, 3) := by decide +kernel
theorem dX0_growth_93 : decode cX0_growth 93 = .ok (.iload_n 3, 1) := by decide +kernel
theorem dX0_growth_94 : decode cX0_growth 94 = .ok (.goto 4, 3) := by decide +kernel
theorem dX0_growth_97 : decode cX0_growth 97 = .ok (.iconst 0, 1) := by decide +kernel
theorem dX0_growth_98 : decode cX0_growth 98 = .ok (.ireturn, 1) := by decide +kernel
theorem dX0_growth_99 : decode cX0_growth 99 = .ok (.aload_n 0, 1) := by decide +kernel
theorem dX0_growth_100 : decode cX0_growth 100 = .ok (.getfield 24, 3) := by decide +kernel
theorem dX0_growth_103 : decode cX0_growth 103 = .ok (.iload 4, 2) := by decide +kernel
theorem dX0_growth_105 : decode cX0_growth 105 = .ok (.if_icmp .ge 7, 3) := by decide +kernel
theorem dX0_growth_108 : decode cX0_growth 108 = .ok (.iconst 0, 1) := by decide +kernel
theorem dX0_growth_109 : decode cX0_growth 109 = .ok (.goto 4, 3) := by decide +kernel
theorem dX0_growth_112 : decode cX0_growth 112 = .ok (.iconst 5, 1) := by decide +kernel
theorem dX0_growth_113 : decode cX0_growth 113 = .ok (.ireturn, 1) := by decide +kernel
theorem dX0_growth_114 : decode cX0_growth 114 = .ok (.iload_n 2, 1) := by decide +kernel
theorem dX0_growth_115 : decode cX0_growth 115 = .ok (.aload_n 0, 1) := by decide +kernel
theorem dX0_growth_116 : decode cX0_growth 116 = .ok (.getfield 13, 3) := by decide +kernel
theorem dX0_growth_119 : decode cX0_growth 119 = .ok (.iload_n 1, 1) := by decide +kernel
theorem dX0_growth_120 : decode cX0_growth 120 = .ok (.aaload, 1) := by decide +kernel
theorem dX0_growth_121 : decode cX0_growth 121 = .ok (.iconst 5, 1) := by decide +kernel
theorem dX0_growth_122 : decode cX0_growth 122 = .ok (.iaload, 1) := by decide +kernel
theorem dX0_growth_123 : decode cX0_growth 123 = .ok (.if_icmp .ge 8, 3) := by decide +kernel
theorem dX0_growth_126 : decode cX0_growth 126 = .ok (.iload 4, 2) := by decide +kernel
theorem dX0_growth_128 : decode cX0_growth 128 = .ok (.goto 4, 3) := by decide +kernel
theorem dX0_growth_131 : decode cX0_growth 131 = .ok (.iconst 0, 1) := by decide +kernel
theorem dX0_growth_132 : decode cX0_growth 132 = .ok (.ireturn, 1) := by decide +kernel
theorem dX0_growth_133 : decode cX0_growth 133 = .ok (.iconst 0, 1) := by decide +kernel
theorem dX0_growth_134 : decode cX0_growth 134 = .ok (.ireturn, 1) := by decide +kernel
theorem dX0_growth_135 : decode cX0_growth 135 = .ok (.iload 4, 2) := by decide +kernel
theorem dX0_growth_137 : decode cX0_growth 137 = .ok (.ireturn, 1) := by decide +kernel
theorem dX0_ageDebt_0 : decode cX0_ageDebt 0 = .ok (.aload_n 0, 1) := by decide +kernel
theorem dX0_ageDebt_1 : decode cX0_ageDebt 1 = .ok (.getfield 13, 3) := by decide +kernel
theorem dX0_ageDebt_4 : decode cX0_ageDebt 4 = .ok (.iload_n 1, 1) := by decide +kernel
theorem dX0_ageDebt_5 : decode cX0_ageDebt 5 = .ok (.aaload, 1) := by decide +kernel
theorem dX0_ageDebt_6 : decode cX0_ageDebt 6 = .ok (.astore 4, 2) := by decide +kernel
theorem dX0_ageDebt_8 : decode cX0_ageDebt 8 = .ok (.iload_n 2, 1) := by decide +kernel
theorem dX0_ageDebt_9 : decode cX0_ageDebt 9 = .ok (.aload 4, 2) := by decide +kernel
theorem dX0_ageDebt_11 : decode cX0_ageDebt 11 = .ok (.iconst 5, 1) := by decide +kernel
theorem dX0_ageDebt_12 : decode cX0_ageDebt 12 = .ok (.iaload, 1) := by decide +kernel
theorem dX0_ageDebt_13 : decode cX0_ageDebt 13 = .ok (.if_icmp .ge 15, 3) := by decide +kernel
theorem dX0_ageDebt_16 : decode cX0_ageDebt 16 = .ok (.aload_n 0, 1) := by decide +kernel
theorem dX0_ageDebt_17 : decode cX0_ageDebt 17 = .ok (.iload_n 1, 1) := by decide +kernel
theorem dX0_ageDebt_18 : decode cX0_ageDebt 18 = .ok (.invokevirtual 74, 3) := by decide +kernel
theorem dX0_ageDebt_21 : decode cX0_ageDebt 21 = .ok (.ifCond .ne 7, 3) := by decide +kernel
theorem dX0_ageDebt_24 : decode cX0_ageDebt 24 = .ok (.iconst 1, 1) := by decide +kernel
theorem dX0_ageDebt_25 : decode cX0_ageDebt 25 = .ok (.goto 4, 3) := by decide +kernel
theorem dX0_ageDebt_28 : decode cX0_ageDebt 28 = .ok (.iconst 0, 1) := by decide +kernel
theorem dX0_ageDebt_29 : decode cX0_ageDebt 29 = .ok (.istore 5, 2) := by decide +kernel
theorem dX0_ageDebt_31 : decode cX0_ageDebt 31 = .ok (.aload 4, 2) := by decide +kernel
theorem dX0_ageDebt_33 : decode cX0_ageDebt 33 = .ok (.bipush 6, 2) := by decide +kernel
theorem dX0_ageDebt_35 : decode cX0_ageDebt 35 = .ok (.iload 5, 2) := by decide +kernel
theorem dX0_ageDebt_37 : decode cX0_ageDebt 37 = .ok (.ifCond .eq 13, 3) := by decide +kernel
theorem dX0_ageDebt_40 : decode cX0_ageDebt 40 = .ok (.aload 4, 2) := by decide +kernel
theorem dX0_ageDebt_42 : decode cX0_ageDebt 42 = .ok (.bipush 6, 2) := by decide +kernel
theorem dX0_ageDebt_44 : decode cX0_ageDebt 44 = .ok (.iaload, 1) := by decide +kernel
theorem dX0_ageDebt_45 : decode cX0_ageDebt 45 = .ok (.iconst 1, 1) := by decide +kernel
theorem dX0_ageDebt_46 : decode cX0_ageDebt 46 = .ok (.iadd, 1) := by decide +kernel
theorem dX0_ageDebt_47 : decode cX0_ageDebt 47 = .ok (.goto 4, 3) := by decide +kernel
theorem dX0_ageDebt_50 : decode cX0_ageDebt 50 = .ok (.iconst 0, 1) := by decide +kernel
theorem dX0_ageDebt_51 : decode cX0_ageDebt 51 = .ok (.iastore, 1) := by decide +kernel
theorem dX0_ageDebt_52 : decode cX0_ageDebt 52 = .ok (.aload 4, 2) := by decide +kernel
theorem dX0_ageDebt_54 : decode cX0_ageDebt 54 = .ok (.bipush 6, 2) := by decide +kernel
theorem dX0_ageDebt_56 : decode cX0_ageDebt 56 = .ok (.iaload, 1) := by decide +kernel
theorem dX0_ageDebt_57 : decode cX0_ageDebt 57 = .ok (.aload_n 0, 1) := by decide +kernel
theorem dX0_ageDebt_58 : decode cX0_ageDebt 58 = .ok (.iload_n 1, 1) := by decide +kernel
theorem dX0_ageDebt_59 : decode cX0_ageDebt 59 = .ok (.invokevirtual 77, 3) := by decide +kernel
theorem dX0_ageDebt_62 : decode cX0_ageDebt 62 = .ok (.if_icmp .lt 39, 3) := by decide +kernel
theorem dX0_ageDebt_65 : decode cX0_ageDebt 65 = .ok (.iload_n 3, 1) := by decide +kernel
theorem dX0_ageDebt_66 : decode cX0_ageDebt 66 = .ok (.ifCond .eq 16, 3) := by decide +kernel
theorem dX0_ageDebt_69 : decode cX0_ageDebt 69 = .ok (.aload_n 0, 1) := by decide +kernel
theorem dX0_ageDebt_70 : decode cX0_ageDebt 70 = .ok (.bipush 10, 2) := by decide +kernel
theorem dX0_ageDebt_72 : decode cX0_ageDebt 72 = .ok (.invokevirtual 94, 3) := by decide +kernel
theorem dX0_ageDebt_75 : decode cX0_ageDebt 75 = .ok (.aload_n 0, 1) := by decide +kernel
theorem dX0_ageDebt_76 : decode cX0_ageDebt 76 = .ok (.getfield 36, 3) := by decide +kernel
theorem dX0_ageDebt_79 : decode cX0_ageDebt 79 = .ok (.if_icmp .ge 22, 3) := by decide +kernel
theorem dX0_ageDebt_82 : decode cX0_ageDebt 82 = .ok (.aload_n 0, 1) := by decide +kernel
theorem dX0_ageDebt_83 : decode cX0_ageDebt 83 = .ok (.dup, 1) := by decide +kernel
theorem dX0_ageDebt_84 : decode cX0_ageDebt 84 = .ok (.getfield 30, 3) := by decide +kernel
theorem dX0_ageDebt_87 : decode cX0_ageDebt 87 = .ok (.aload 4, 2) := by decide +kernel
theorem dX0_ageDebt_89 : decode cX0_ageDebt 89 = .ok (.iconst 4, 1) := by decide +kernel
theorem dX0_ageDebt_90 : decode cX0_ageDebt 90 = .ok (.iaload, 1) := by decide +kernel
theorem dX0_ageDebt_91 : decode cX0_ageDebt 91 = .ok (.iadd, 1) := by decide +kernel
theorem dX0_ageDebt_92 : decode cX0_ageDebt 92 = .ok (.putfield 30, 3) := by decide +kernel
theorem dX0_ageDebt_95 : decode cX0_ageDebt 95 = .ok (.aload 4, 2) := by decide +kernel
theorem dX0_ageDebt_97 : decode cX0_ageDebt 97 = .ok (.bipush 6, 2) := by decide +kernel
theorem dX0_ageDebt_99 : decode cX0_ageDebt 99 = .ok (.iconst 0, 1) := by decide +kernel
theorem dX0_ageDebt_100 : decode cX0_ageDebt 100 = .ok (.iastore, 1) := by decide +kernel
theorem dX0_ageDebt_101 : decode cX0_ageDebt 101 = .ok (.aload 4, 2) := by decide +kernel
theorem dX0_ageDebt_103 : decode cX0_ageDebt 103 = .ok (.iconst 1, 1) := by decide +kernel
theorem dX0_ageDebt_104 : decode cX0_ageDebt 104 = .ok (.sipush 9999, 3) := by decide +kernel
theorem dX0_ageDebt_107 : decode cX0_ageDebt 107 = .ok (.aload 4, 2) := by decide +kernel
theorem dX0_ageDebt_109 : decode cX0_ageDebt 109 = .ok (.iconst 1, 1) := by decide +kernel
theorem dX0_ageDebt_110 : decode cX0_ageDebt 110 = .ok (.iaload, 1) := by decide +kernel
theorem dX0_ageDebt_111 : decode cX0_ageDebt 111 = .ok (.aload_n 0, 1) := by decide +kernel
theorem dX0_ageDebt_112 : decode cX0_ageDebt 112 = .ok (.iload_n 1, 1) := by decide +kernel
theorem dX0_ageDebt_113 : decode cX0_ageDebt 113 = .ok (.iload_n 2, 1) := by decide +kernel
theorem dX0_ageDebt_114 : decode cX0_ageDebt 114 = .ok (.invokevirtual 97, 3) := by decide +kernel
theorem dX0_ageDebt_117 : decode cX0_ageDebt 117 = .ok (.iadd, 1) := by decide +kernel
theorem dX0_ageDebt_118 : decode cX0_ageDebt 118 = .ok (.invokestatic 87, 3) := by decide +kernel
theorem dX0_ageDebt_121 : decode cX0_ageDebt 121 = .ok (.iastore, 1) := by decide +kernel
theorem dX0_ageDebt_122 : decode cX0_ageDebt 122 = .ok (.return_, 1) := by decide +kernel
theorem dX0_become_0 : decode cX0_become 0 = .ok (.iconst 0, 1) := by decide +kernel
theorem dX0_become_1 : decode cX0_become 1 = .ok (.istore_n 2, 1) := by decide +kernel
theorem dX0_become_2 : decode cX0_become 2 = .ok (.iload_n 2, 1) := by decide +kernel
theorem dX0_become_3 : decode cX0_become 3 = .ok (.aload_n 1, 1) := by decide +kernel
theorem dX0_become_4 : decode cX0_become 4 = .ok (.getfield 20, 3) := by decide +kernel
theorem dX0_become_7 : decode cX0_become 7 = .ok (.if_icmp .ge 28, 3) := by decide +kernel
theorem dX0_become_10 : decode cX0_become 10 = .ok (.aload_n 1, 1) := by decide +kernel
theorem dX0_become_11 : decode cX0_become 11 = .ok (.getfield 13, 3) := by decide +kernel
theorem dX0_become_14 : decode cX0_become 14 = .ok (.iload_n 2, 1) := by decide +kernel
theorem dX0_become_15 : decode cX0_become 15 = .ok (.aaload, 1) := by decide +kernel
theorem dX0_become_16 : decode cX0_become 16 = .ok (.iconst 0, 1) := by decide +kernel
theorem dX0_become_17 : decode cX0_become 17 = .ok (.aload_n 0, 1) := by decide +kernel
theorem dX0_become_18 : decode cX0_become 18 = .ok (.getfield 13, 3) := by decide +kernel
theorem dX0_become_21 : decode cX0_become 21 = .ok (.iload_n 2, 1) := by decide +kernel
theorem dX0_become_22 : decode cX0_become 22 = .ok (.aaload, 1) := by decide +kernel
theorem dX0_become_23 : decode cX0_become 23 = .ok (.iconst 0, 1) := by decide +kernel
theorem dX0_become_24 : decode cX0_become 24 = .ok (.bipush 9, 2) := by decide +kernel
theorem dX0_become_26 : decode cX0_become 26 = .ok (.invokestatic 54, 3) := by decide +kernel
theorem dX0_become_29 : decode cX0_become 29 = .ok (.iinc 2 1, 3) := by decide +kernel
theorem dX0_become_32 : decode cX0_become 32 = .ok (.goto (-30), 3) := by decide +kernel
theorem dX0_become_35 : decode cX0_become 35 = .ok (.aload_n 1, 1) := by decide +kernel
theorem dX0_become_36 : decode cX0_become 36 = .ok (.getfield 16, 3) := by decide +kernel
theorem dX0_become_39 : decode cX0_become 39 = .ok (.iconst 0, 1) := by decide +kernel
theorem dX0_become_40 : decode cX0_become 40 = .ok (.aload_n 0, 1) := by decide +kernel
theorem dX0_become_41 : decode cX0_become 41 = .ok (.getfield 16, 3) := by decide +kernel
theorem dX0_become_44 : decode cX0_become 44 = .ok (.iconst 0, 1) := by decide +kernel
theorem dX0_become_45 : decode cX0_become 45 = .ok (.bipush 12, 2) := by decide +kernel
theorem dX0_become_47 : decode cX0_become 47 = .ok (.invokestatic 54, 3) := by decide +kernel
theorem dX0_become_50 : decode cX0_become 50 = .ok (.aload_n 0, 1) := by decide +kernel
theorem dX0_become_51 : decode cX0_become 51 = .ok (.aload_n 1, 1) := by decide +kernel
theorem dX0_become_52 : decode cX0_become 52 = .ok (.getfield 20, 3) := by decide +kernel
theorem dX0_become_55 : decode cX0_become 55 = .ok (.putfield 20, 3) := by decide +kernel
theorem dX0_become_58 : decode cX0_become 58 = .ok (.aload_n 0, 1) := by decide +kernel
theorem dX0_become_59 : decode cX0_become 59 = .ok (.aload_n 1, 1) := by decide +kernel
theorem dX0_become_60 : decode cX0_become 60 = .ok (.getfield 24, 3) := by decide +kernel
theorem dX0_become_63 : decode cX0_become 63 = .ok (.putfield 24, 3) := by decide +kernel
theorem dX0_become_66 : decode cX0_become 66 = .ok (.aload_n 0, 1) := by decide +kernel
theorem dX0_become_67 : decode cX0_become 67 = .ok (.aload_n 1, 1) := by decide +kernel
theorem dX0_become_68 : decode cX0_become 68 = .ok (.getfield 27, 3) := by decide +kernel
theorem dX0_become_71 : decode cX0_become 71 = .ok (.putfield 27, 3) := by decide +kernel
theorem dX0_become_74 : decode cX0_become 74 = .ok (.aload_n 0, 1) := by decide +kernel
theorem dX0_become_75 : decode cX0_become 75 = .ok (.aload_n 1, 1) := by decide +kernel
theorem dX0_become_76 : decode cX0_become 76 = .ok (.getfield 30, 3) := by decide +kernel
theorem dX0_become_79 : decode cX0_become 79 = .ok (.putfield 30, 3) := by decide +kernel
theorem dX0_become_82 : decode cX0_become 82 = .ok (.aload_n 0, 1) := by decide +kernel
theorem dX0_become_83 : decode cX0_become 83 = .ok (.aload_n 1, 1) := by decide +kernel
theorem dX0_become_84 : decode cX0_become 84 = .ok (.getfield 33, 3) := by decide +kernel
theorem dX0_become_87 : decode cX0_become 87 = .ok (.putfield 33, 3) := by decide +kernel
theorem dX0_become_90 : decode cX0_become 90 = .ok (.aload_n 0, 1) := by decide +kernel
theorem dX0_become_91 : decode cX0_become 91 = .ok (.aload_n 1, 1) := by decide +kernel
theorem dX0_become_92 : decode cX0_become 92 = .ok (.getfield 36, 3) := by decide +kernel
theorem dX0_become_95 : decode cX0_become 95 = .ok (.putfield 36, 3) := by decide +kernel
theorem dX0_become_98 : decode cX0_become 98 = .ok (.aload_n 0, 1) := by decide +kernel
theorem dX0_become_99 : decode cX0_become 99 = .ok (.aload_n 1, 1) := by decide +kernel
theorem dX0_become_100 : decode cX0_become 100 = .ok (.getfield 39, 3) := by decide +kernel
theorem dX0_become_103 : decode cX0_become 103 = .ok (.putfield 39, 3) := by decide +kernel
theorem dX0_become_106 : decode cX0_become 106 = .ok (.return_, 1) := by decide +kernel
theorem dX0_isOpen_0 : decode cX0_isOpen 0 = .ok (.aload_n 0, 1) := by decide +kernel
theorem dX0_isOpen_1 : decode cX0_isOpen 1 = .ok (.getfield 13, 3) := by decide +kernel
theorem dX0_isOpen_4 : decode cX0_isOpen 4 = .ok (.iload_n 1, 1) := by decide +kernel
theorem dX0_isOpen_5 : decode cX0_isOpen 5 = .ok (.aaload, 1) := by decide +kernel
theorem dX0_isOpen_6 : decode cX0_isOpen 6 = .ok (.iconst 1, 1) := by decide +kernel
theorem dX0_isOpen_7 : decode cX0_isOpen 7 = .ok (.iaload, 1) := by decide +kernel
theorem dX0_isOpen_8 : decode cX0_isOpen 8 = .ok (.ifCond .le 7, 3) := by decide +kernel
theorem dX0_isOpen_11 : decode cX0_isOpen 11 = .ok (.iconst 1, 1) := by decide +kernel
theorem dX0_isOpen_12 : decode cX0_isOpen 12 = .ok (.goto 4, 3) := by decide +kernel
theorem dX0_isOpen_15 : decode cX0_isOpen 15 = .ok (.iconst 0, 1) := by decide +kernel
theorem dX0_isOpen_16 : decode cX0_isOpen 16 = .ok (.ireturn, 1) := by decide +kernel
theorem dX0_canWrite_0 : decode cX0_canWrite 0 = .ok (.aload_n 0, 1) := by decide +kernel
theorem dX0_canWrite_1 : decode cX0_canWrite 1 = .ok (.iload_n 1, 1) := by decide +kernel
theorem dX0_canWrite_2 : decode cX0_canWrite 2 = .ok (.invokevirtual 70, 3) := by decide +kernel
theorem dX0_canWrite_5 : decode cX0_canWrite 5 = .ok (.ifCond .eq 19, 3) := by decide +kernel
theorem dX0_canWrite_8 : decode cX0_canWrite 8 = .ok (.aload_n 0, 1) := by decide +kernel
theorem dX0_canWrite_9 : decode cX0_canWrite 9 = .ok (.getfield 13, 3) := by decide +kernel
theorem dX0_canWrite_12 : decode cX0_canWrite 12 = .ok (.iload_n 1, 1) := by decide +kernel
theorem dX0_canWrite_13 : decode cX0_canWrite 13 = .ok (.aaload, 1) := by decide +kernel
theorem dX0_canWrite_14 : decode cX0_canWrite 14 = .ok (.bipush 7, 2) := by decide +kernel
theorem dX0_canWrite_16 : decode cX0_canWrite 16 = .ok (.iaload, 1) := by decide +kernel
theorem dX0_canWrite_17 : decode cX0_canWrite 17 = .ok (.ifCond .ne 7, 3) := by decide +kernel
theorem dX0_canWrite_20 : decode cX0_canWrite 20 = .ok (.iconst 1, 1) := by decide +kernel
theorem dX0_canWrite_21 : decode cX0_canWrite 21 = .ok (.goto 4, 3) := by decide +kernel
theorem dX0_canWrite_24 : decode cX0_canWrite 24 = .ok (.iconst 0, 1) := by decide +kernel
theorem dX0_canWrite_25 : decode cX0_canWrite 25 = .ok (.ireturn, 1) := by decide +kernel
theorem dJ9_floorMod_7cf53_0 : decode cJ9_floorMod_7cf53 0 = .ok (.iload_n 0, 1) := by decide +kernel
theorem dJ9_floorMod_7cf53_1 : decode cJ9_floorMod_7cf53 1 = .ok (.iload_n 1, 1) := by decide +kernel
theorem dJ9_floorMod_7cf53_2 : decode cJ9_floorMod_7cf53 2 = .ok (.irem, 1) := by decide +kernel
theorem dJ9_floorMod_7cf53_3 : decode cJ9_floorMod_7cf53 3 = .ok (.istore_n 2, 1) := by decide +kernel
theorem dJ9_floorMod_7cf53_4 : decode cJ9_floorMod_7cf53 4 = .ok (.iload_n 0, 1) := by decide +kernel
theorem dJ9_floorMod_7cf53_5 : decode cJ9_floorMod_7cf53 5 = .ok (.iload_n 1, 1) := by decide +kernel
theorem dJ9_floorMod_7cf53_6 : decode cJ9_floorMod_7cf53 6 = .ok (.ixor, 1) := by decide +kernel
theorem dJ9_floorMod_7cf53_7 : decode cJ9_floorMod_7cf53 7 = .ok (.ifCond .ge 11, 3) := by decide +kernel
theorem dJ9_floorMod_7cf53_10 : decode cJ9_floorMod_7cf53 10 = .ok (.iload_n 2, 1) := by decide +kernel
theorem dJ9_floorMod_7cf53_11 : decode cJ9_floorMod_7cf53 11 = .ok (.ifCond .eq 7, 3) := by decide +kernel
theorem dJ9_floorMod_7cf53_14 : decode cJ9_floorMod_7cf53 14 = .ok (.iload_n 2, 1) := by decide +kernel
theorem dJ9_floorMod_7cf53_15 : decode cJ9_floorMod_7cf53 15 = .ok (.iload_n 1, 1) := by decide +kernel
theorem dJ9_floorMod_7cf53_16 : decode cJ9_floorMod_7cf53 16 = .ok (.iadd, 1) := by decide +kernel
theorem dJ9_floorMod_7cf53_17 : decode cJ9_floorMod_7cf53 17 = .ok (.ireturn, 1) := by decide +kernel
theorem dJ9_floorMod_7cf53_18 : decode cJ9_floorMod_7cf53 18 = .ok (.iload_n 2, 1) := by decide +kernel
theorem dJ9_floorMod_7cf53_19 : decode cJ9_floorMod_7cf53 19 = .ok (.ireturn, 1) := by decide +kernel
theorem dX0_incomeIn_0 : decode cX0_incomeIn 0 = .ok (.aload_n 0, 1) := by decide +kernel
theorem dX0_incomeIn_1 : decode cX0_incomeIn 1 = .ok (.getfield 16, 3) := by decide +kernel
theorem dX0_incomeIn_4 : decode cX0_incomeIn 4 = .ok (.aload_n 0, 1) := by decide +kernel
theorem dX0_incomeIn_5 : decode cX0_incomeIn 5 = .ok (.getfield 24, 3) := by decide +kernel
theorem dX0_incomeIn_8 : decode cX0_incomeIn 8 = .ok (.iload_n 1, 1) := by decide +kernel
theorem dX0_incomeIn_9 : decode cX0_incomeIn 9 = .ok (.iadd, 1) := by decide +kernel
theorem dX0_incomeIn_10 : decode cX0_incomeIn 10 = .ok (.bipush 12, 2) := by decide +kernel
theorem dX0_incomeIn_12 : decode cX0_incomeIn 12 = .ok (.invokestatic 64, 3) := by decide +kernel
theorem dX0_incomeIn_15 : decode cX0_incomeIn 15 = .ok (.iaload, 1) := by decide +kernel
theorem dX0_incomeIn_16 : decode cX0_incomeIn 16 = .ok (.ireturn, 1) := by decide +kernel
theorem dX0_coin_0 : decode cX0_coin 0 = .ok (.aload_n 0, 1) := by decide +kernel
theorem dX0_coin_1 : decode cX0_coin 1 = .ok (.getfield 27, 3) := by decide +kernel
theorem dX0_coin_4 : decode cX0_coin 4 = .ok (.aload_n 0, 1) := by decide +kernel
theorem dX0_coin_5 : decode cX0_coin 5 = .ok (.iconst 0, 1) := by decide +kernel
theorem dX0_coin_6 : decode cX0_coin 6 = .ok (.invokevirtual 60, 3) := by decide +kernel
theorem dX0_coin_9 : decode cX0_coin 9 = .ok (.iadd, 1) := by decide +kernel
theorem dX0_coin_10 : decode cX0_coin 10 = .ok (.ireturn, 1) := by decide +kernel
theorem dX0_hasDebt_0 : decode cX0_hasDebt 0 = .ok (.iload_n 1, 1) := by decide +kernel
theorem dX0_hasDebt_1 : decode cX0_hasDebt 1 = .ok (.ifCond .lt 15, 3) := by decide +kernel
theorem dX0_hasDebt_4 : decode cX0_hasDebt 4 = .ok (.iload_n 1, 1) := by decide +kernel
theorem dX0_hasDebt_5 : decode cX0_hasDebt 5 = .ok (.aload_n 0, 1) := by decide +kernel
theorem dX0_hasDebt_6 : decode cX0_hasDebt 6 = .ok (.getfield 20, 3) := by decide +kernel
theorem dX0_hasDebt_9 : decode cX0_hasDebt 9 = .ok (.if_icmp .ge 7, 3) := by decide +kernel
theorem dX0_hasDebt_12 : decode cX0_hasDebt 12 = .ok (.iconst 1, 1) := by decide +kernel
theorem dX0_hasDebt_13 : decode cX0_hasDebt 13 = .ok (.goto 4, 3) := by decide +kernel
theorem dX0_hasDebt_16 : decode cX0_hasDebt 16 = .ok (.iconst 0, 1) := by decide +kernel
theorem dX0_hasDebt_17 : decode cX0_hasDebt 17 = .ok (.ireturn, 1) := by decide +kernel
theorem dX0_hasRoom_0 : decode cX0_hasRoom 0 = .ok (.aload_n 0, 1) := by decide +kernel
theorem dX0_hasRoom_1 : decode cX0_hasRoom 1 = .ok (.getfield 20, 3) := by decide +kernel
theorem dX0_hasRoom_4 : decode cX0_hasRoom 4 = .ok (.bipush 9, 2) := by decide +kernel
theorem dX0_hasRoom_6 : decode cX0_hasRoom 6 = .ok (.if_icmp .ge 7, 3) := by decide +kernel
theorem dX0_hasRoom_9 : decode cX0_hasRoom 9 = .ok (.iconst 1, 1) := by decide +kernel
theorem dX0_hasRoom_10 : decode cX0_hasRoom 10 = .ok (.goto 4, 3) := by decide +kernel
theorem dX0_hasRoom_13 : decode cX0_hasRoom 13 = .ok (.iconst 0, 1) := by decide +kernel
theorem dX0_hasRoom_14 : decode cX0_hasRoom 14 = .ok (.ireturn, 1) := by decide +kernel
theorem dX0_leastsTogether_0 : decode cX0_leastsTogether 0 = .ok (.iconst 0, 1) := by decide +kernel
theorem dX0_leastsTogether_1 : decode cX0_leastsTogether 1 = .ok (.istore_n 1, 1) := by decide +kernel
theorem dX0_leastsTogether_2 : decode cX0_leastsTogether 2 = .ok (.iconst 0, 1) := by decide +kernel
theorem dX0_leastsTogether_3 : decode cX0_leastsTogether 3 = .ok (.istore_n 2, 1) := by decide +kernel
theorem dX0_leastsTogether_4 : decode cX0_leastsTogether 4 = .ok (.iload_n 2, 1) := by decide +kernel
theorem dX0_leastsTogether_5 : decode cX0_leastsTogether 5 = .ok (.aload_n 0, 1) := by decide +kernel
theorem dX0_leastsTogether_6 : decode cX0_leastsTogether 6 = .ok (.getfield 20, 3) := by decide +kernel
theorem dX0_leastsTogether_9 : decode cX0_leastsTogether 9 = .ok (.if_icmp .ge 35, 3) := by decide +kernel
theorem dX0_leastsTogether_12 : decode cX0_leastsTogether 12 = .ok (.iload_n 1, 1) := by decide +kernel
theorem dX0_leastsTogether_13 : decode cX0_leastsTogether 13 = .ok (.aload_n 0, 1) := by decide +kernel
theorem dX0_leastsTogether_14 : decode cX0_leastsTogether 14 = .ok (.getfield 13, 3) := by decide +kernel
theorem dX0_leastsTogether_17 : decode cX0_leastsTogether 17 = .ok (.iload_n 2, 1) := by decide +kernel
theorem dX0_leastsTogether_18 : decode cX0_leastsTogether 18 = .ok (.aaload, 1) := by decide +kernel
theorem dX0_leastsTogether_19 : decode cX0_leastsTogether 19 = .ok (.iconst 1, 1) := by decide +kernel
theorem dX0_leastsTogether_20 : decode cX0_leastsTogether 20 = .ok (.iaload, 1) := by decide +kernel
theorem dX0_leastsTogether_21 : decode cX0_leastsTogether 21 = .ok (.ifCond .le 14, 3) := by decide +kernel
theorem dX0_leastsTogether_24 : decode cX0_leastsTogether 24 = .ok (.aload_n 0, 1) := by decide +kernel
theorem dX0_leastsTogether_25 : decode cX0_leastsTogether 25 = .ok (.getfield 13, 3) := by decide +kernel
theorem dX0_leastsTogether_28 : decode cX0_leastsTogether 28 = .ok (.iload_n 2, 1) := by decide +kernel
theorem dX0_leastsTogether_29 : decode cX0_leastsTogether 29 = .ok (.aaload, 1) := by decide +kernel
theorem dX0_leastsTogether_30 : decode cX0_leastsTogether 30 = .ok (.iconst 5, 1) := by decide +kernel
theorem dX0_leastsTogether_31 : decode cX0_leastsTogether 31 = .ok (.iaload, 1) := by decide +kernel
theorem dX0_leastsTogether_32 : decode cX0_leastsTogether 32 = .ok (.goto 4, 3) := by decide +kernel
theorem dX0_leastsTogether_35 : decode cX0_leastsTogether 35 = .ok (.iconst 0, 1) := by decide +kernel
theorem dX0_leastsTogether_36 : decode cX0_leastsTogether 36 = .ok (.iadd, 1) := by decide +kernel
theorem dX0_leastsTogether_37 : decode cX0_leastsTogether 37 = .ok (.istore_n 1, 1) := by decide +kernel
theorem dX0_leastsTogether_38 : decode cX0_leastsTogether 38 = .ok (.iinc 2 1, 3) := by decide +kernel
theorem dX0_leastsTogether_41 : decode cX0_leastsTogether 41 = .ok (.goto (-37), 3) := by decide +kernel
theorem dX0_leastsTogether_44 : decode cX0_leastsTogether 44 = .ok (.iload_n 1, 1) := by decide +kernel
theorem dX0_leastsTogether_45 : decode cX0_leastsTogether 45 = .ok (.ireturn, 1) := by decide +kernel
theorem dX0_mayBe_0 : decode cX0_mayBe 0 = .ok (.iload_n 0, 1) := by decide +kernel
theorem dX0_mayBe_1 : decode cX0_mayBe 1 = .ok (.ifCond .lt 33, 3) := by decide +kernel
theorem dX0_mayBe_4 : decode cX0_mayBe 4 = .ok (.iload_n 0, 1) := by decide +kernel
theorem dX0_mayBe_5 : decode cX0_mayBe 5 = .ok (.getstatic 48, 3) := by decide +kernel
theorem dX0_mayBe_8 : decode cX0_mayBe 8 = .ok (.arraylength, 1) := by decide +kernel
theorem dX0_mayBe_9 : decode cX0_mayBe 9 = .ok (.if_icmp .ge 25, 3) := by decide +kernel
theorem dX0_mayBe_12 : decode cX0_mayBe 12 = .ok (.iload_n 1, 1) := by decide +kernel
theorem dX0_mayBe_13 : decode cX0_mayBe 13 = .ok (.getstatic 48, 3) := by decide +kernel
theorem dX0_mayBe_16 : decode cX0_mayBe 16 = .ok (.iload_n 0, 1) := by decide +kernel
theorem dX0_mayBe_17 : decode cX0_mayBe 17 = .ok (.iaload, 1) := by decide +kernel
theorem dX0_mayBe_18 : decode cX0_mayBe 18 = .ok (.if_icmp .lt 16, 3) := by decide +kernel
theorem dX0_mayBe_21 : decode cX0_mayBe 21 = .ok (.iload_n 1, 1) := by decide +kernel
theorem dX0_mayBe_22 : decode cX0_mayBe 22 = .ok (.getstatic 51, 3) := by decide +kernel
theorem dX0_mayBe_25 : decode cX0_mayBe 25 = .ok (.iload_n 0, 1) := by decide +kernel
theorem dX0_mayBe_26 : decode cX0_mayBe 26 = .ok (.iaload, 1) := by decide +kernel
theorem dX0_mayBe_27 : decode cX0_mayBe 27 = .ok (.if_icmp .gt 7, 3) := by decide +kernel
theorem dX0_mayBe_30 : decode cX0_mayBe 30 = .ok (.iconst 1, 1) := by decide +kernel
theorem dX0_mayBe_31 : decode cX0_mayBe 31 = .ok (.goto 4, 3) := by decide +kernel
theorem dX0_mayBe_34 : decode cX0_mayBe 34 = .ok (.iconst 0, 1) := by decide +kernel
theorem dX0_mayBe_35 : decode cX0_mayBe 35 = .ok (.ireturn, 1) := by decide +kernel
theorem dX0_openCount_0 : decode cX0_openCount 0 = .ok (.iconst 0, 1) := by decide +kernel
theorem dX0_openCount_1 : decode cX0_openCount 1 = .ok (.istore_n 1, 1) := by decide +kernel
theorem dX0_openCount_2 : decode cX0_openCount 2 = .ok (.iconst 0, 1) := by decide +kernel
theorem dX0_openCount_3 : decode cX0_openCount 3 = .ok (.istore_n 2, 1) := by decide +kernel
theorem dX0_openCount_4 : decode cX0_openCount 4 = .ok (.iload_n 2, 1) := by decide +kernel
theorem dX0_openCount_5 : decode cX0_openCount 5 = .ok (.aload_n 0, 1) := by decide +kernel
theorem dX0_openCount_6 : decode cX0_openCount 6 = .ok (.getfield 20, 3) := by decide +kernel
theorem dX0_openCount_9 : decode cX0_openCount 9 = .ok (.if_icmp .ge 28, 3) := by decide +kernel
theorem dX0_openCount_12 : decode cX0_openCount 12 = .ok (.iload_n 1, 1) := by decide +kernel
theorem dX0_openCount_13 : decode cX0_openCount 13 = .ok (.aload_n 0, 1) := by decide +kernel
theorem dX0_openCount_14 : decode cX0_openCount 14 = .ok (.getfield 13, 3) := by decide +kernel
theorem dX0_openCount_17 : decode cX0_openCount 17 = .ok (.iload_n 2, 1) := by decide +kernel
theorem dX0_openCount_18 : decode cX0_openCount 18 = .ok (.aaload, 1) := by decide +kernel
theorem dX0_openCount_19 : decode cX0_openCount 19 = .ok (.iconst 1, 1) := by decide +kernel
theorem dX0_openCount_20 : decode cX0_openCount 20 = .ok (.iaload, 1) := by decide +kernel
theorem dX0_openCount_21 : decode cX0_openCount 21 = .ok (.ifCond .le 7, 3) := by decide +kernel
theorem dX0_openCount_24 : decode cX0_openCount 24 = .ok (.iconst 1, 1) := by decide +kernel
theorem dX0_openCount_25 : decode cX0_openCount 25 = .ok (.goto 4, 3) := by decide +kernel
theorem dX0_openCount_28 : decode cX0_openCount 28 = .ok (.iconst 0, 1) := by decide +kernel
theorem dX0_openCount_29 : decode cX0_openCount 29 = .ok (.iadd, 1) := by decide +kernel
theorem dX0_openCount_30 : decode cX0_openCount 30 = .ok (.istore_n 1, 1) := by decide +kernel
theorem dX0_openCount_31 : decode cX0_openCount 31 = .ok (.iinc 2 1, 3) := by decide +kernel
theorem dX0_openCount_34 : decode cX0_openCount 34 = .ok (.goto (-30), 3) := by decide +kernel
theorem dX0_openCount_37 : decode cX0_openCount 37 = .ok (.iload_n 1, 1) := by decide +kernel
theorem dX0_openCount_38 : decode cX0_openCount 38 = .ok (.ireturn, 1) := by decide +kernel
theorem dX0_passWeek_0 : decode cX0_passWeek 0 = .ok (.aload_n 0, 1) := by decide +kernel
theorem dX0_passWeek_1 : decode cX0_passWeek 1 = .ok (.invokevirtual 83, 3) := by decide +kernel
theorem dX0_passWeek_4 : decode cX0_passWeek 4 = .ok (.istore_n 3, 1) := by decide +kernel
theorem dX0_passWeek_5 : decode cX0_passWeek 5 = .ok (.iconst 0, 1) := by decide +kernel
theorem dX0_passWeek_6 : decode cX0_passWeek 6 = .ok (.istore 4, 2) := by decide +kernel
theorem dX0_passWeek_8 : decode cX0_passWeek 8 = .ok (.iconst 0, 1) := by decide +kernel
theorem dX0_passWeek_9 : decode cX0_passWeek 9 = .ok (.istore 5, 2) := by decide +kernel
theorem dX0_passWeek_11 : decode cX0_passWeek 11 = .ok (.iload 5, 2) := by decide +kernel
theorem dX0_passWeek_13 : decode cX0_passWeek 13 = .ok (.aload_n 0, 1) := by decide +kernel
theorem dX0_passWeek_14 : decode cX0_passWeek 14 = .ok (.getfield 20, 3) := by decide +kernel
theorem dX0_passWeek_17 : decode cX0_passWeek 17 = .ok (.if_icmp .ge 51, 3) := by decide +kernel
theorem dX0_passWeek_20 : decode cX0_passWeek 20 = .ok (.aload_n 0, 1) := by decide +kernel
theorem dX0_passWeek_21 : decode cX0_passWeek 21 = .ok (.getfield 13, 3) := by decide +kernel
theorem dX0_passWeek_24 : decode cX0_passWeek 24 = .ok (.iload 5, 2) := by decide +kernel
theorem dX0_passWeek_26 : decode cX0_passWeek 26 = .ok (.aaload, 1) := by decide +kernel
theorem dX0_passWeek_27 : decode cX0_passWeek 27 = .ok (.iconst 1, 1) := by decide +kernel
theorem dX0_passWeek_28 : decode cX0_passWeek 28 = .ok (.dup2, 1) := by decide +kernel
theorem dX0_passWeek_29 : decode cX0_passWeek 29 = .ok (.iaload, 1) := by decide +kernel
theorem dX0_passWeek_30 : decode cX0_passWeek 30 = .ok (.aload_n 1, 1) := by decide +kernel
theorem dX0_passWeek_31 : decode cX0_passWeek 31 = .ok (.iload 5, 2) := by decide +kernel
theorem dX0_passWeek_33 : decode cX0_passWeek 33 = .ok (.iaload, 1) := by decide +kernel
theorem dX0_passWeek_34 : decode cX0_passWeek 34 = .ok (.isub, 1) := by decide +kernel
theorem dX0_passWeek_35 : decode cX0_passWeek 35 = .ok (.iastore, 1) := by decide +kernel
theorem dX0_passWeek_36 : decode cX0_passWeek 36 = .ok (.aload_n 0, 1) := by decide +kernel
theorem dX0_passWeek_37 : decode cX0_passWeek 37 = .ok (.getfield 13, 3) := by decide +kernel
theorem dX0_passWeek_40 : decode cX0_passWeek 40 = .ok (.iload 5, 2) := by decide +kernel
theorem dX0_passWeek_42 : decode cX0_passWeek 42 = .ok (.aaload, 1) := by decide +kernel
theorem dX0_passWeek_43 : decode cX0_passWeek 43 = .ok (.bipush 8, 2) := by decide +kernel
theorem dX0_passWeek_45 : decode cX0_passWeek 45 = .ok (.dup2, 1) := by decide +kernel
theorem dX0_passWeek_46 : decode cX0_passWeek 46 = .ok (.iaload, 1) := by decide +kernel
theorem dX0_passWeek_47 : decode cX0_passWeek 47 = .ok (.aload_n 1, 1) := by decide +kernel
theorem dX0_passWeek_48 : decode cX0_passWeek 48 = .ok (.iload 5, 2) := by decide +kernel
theorem dX0_passWeek_50 : decode cX0_passWeek 50 = .ok (.iaload, 1) := by decide +kernel
theorem dX0_passWeek_51 : decode cX0_passWeek 51 = .ok (.iadd, 1) := by decide +kernel
theorem dX0_passWeek_52 : decode cX0_passWeek 52 = .ok (.iastore, 1) := by decide +kernel
theorem dX0_passWeek_53 : decode cX0_passWeek 53 = .ok (.iload 4, 2) := by decide +kernel
theorem dX0_passWeek_55 : decode cX0_passWeek 55 = .ok (.aload_n 1, 1) := by decide +kernel
theorem dX0_passWeek_56 : decode cX0_passWeek 56 = .ok (.iload 5, 2) := by decide +kernel
theorem dX0_passWeek_58 : decode cX0_passWeek 58 = .ok (.iaload, 1) := by decide +kernel
theorem dX0_passWeek_59 : decode cX0_passWeek 59 = .ok (.iadd, 1) := by decide +kernel
theorem dX0_passWeek_60 : decode cX0_passWeek 60 = .ok (.istore 4, 2) := by decide +kernel
theorem dX0_passWeek_62 : decode cX0_passWeek 62 = .ok (.iinc 5 1, 3) := by decide +kernel
theorem dX0_passWeek_65 : decode cX0_passWeek 65 = .ok (.goto (-54), 3) := by decide +kernel
theorem dX0_passWeek_68 : decode cX0_passWeek 68 = .ok (.aload_n 0, 1) := by decide +kernel
theorem dX0_passWeek_69 : decode cX0_passWeek 69 = .ok (.sipush 9999, 3) := by decide +kernel
theorem dX0_passWeek_72 : decode cX0_passWeek 72 = .ok (.iload_n 3, 1) := by decide +kernel
theorem dX0_passWeek_73 : decode cX0_passWeek 73 = .ok (.iload 4, 2) := by decide +kernel
theorem dX0_passWeek_75 : decode cX0_passWeek 75 = .ok (.isub, 1) := by decide +kernel
theorem dX0_passWeek_76 : decode cX0_passWeek 76 = .ok (.invokestatic 87, 3) := by decide +kernel
theorem dX0_passWeek_79 : decode cX0_passWeek 79 = .ok (.putfield 27, 3) := by decide +kernel
theorem dX0_passWeek_82 : decode cX0_passWeek 82 = .ok (.iconst 0, 1) := by decide +kernel
theorem dX0_passWeek_83 : decode cX0_passWeek 83 = .ok (.istore 5, 2) := by decide +kernel
theorem dX0_passWeek_85 : decode cX0_passWeek 85 = .ok (.iload 5, 2) := by decide +kernel
theorem dX0_passWeek_87 : decode cX0_passWeek 87 = .ok (.aload_n 0, 1) := by decide +kernel
theorem dX0_passWeek_88 : decode cX0_passWeek 88 = .ok (.getfield 20, 3) := by decide +kernel
theorem dX0_passWeek_91 : decode cX0_passWeek 91 = .ok (.if_icmp .ge 29, 3) := by decide +kernel
theorem dX0_passWeek_94 : decode cX0_passWeek 94 = .ok (.aload_n 0, 1) := by decide +kernel
theorem dX0_passWeek_95 : decode cX0_passWeek 95 = .ok (.iload 5, 2) := by decide +kernel
theorem dX0_passWeek_97 : decode cX0_passWeek 97 = .ok (.invokevirtual 70, 3) := by decide +kernel
theorem dX0_passWeek_100 : decode cX0_passWeek 100 = .ok (.ifCond .eq 14, 3) := by decide +kernel
theorem dX0_passWeek_103 : decode cX0_passWeek 103 = .ok (.aload_n 0, 1) := by decide +kernel
theorem dX0_passWeek_104 : decode cX0_passWeek 104 = .ok (.iload 5, 2) := by decide +kernel
theorem dX0_passWeek_106 : decode cX0_passWeek 106 = .ok (.aload_n 1, 1) := by decide +kernel
theorem dX0_passWeek_107 : decode cX0_passWeek 107 = .ok (.iload 5, 2) := by decide +kernel
theorem dX0_passWeek_109 : decode cX0_passWeek 109 = .ok (.iaload, 1) := by decide +kernel
theorem dX0_passWeek_110 : decode cX0_passWeek 110 = .ok (.iload_n 2, 1) := by decide +kernel
theorem dX0_passWeek_111 : decode cX0_passWeek 111 = .ok (.invokevirtual 90, 3) := by decide +kernel
theorem dX0_passWeek_114 : decode cX0_passWeek 114 = .ok (.iinc 5 1, 3) := by decide +kernel
theorem dX0_passWeek_117 : decode cX0_passWeek 117 = .ok (.goto (-32), 3) := by decide +kernel
theorem dX0_passWeek_120 : decode cX0_passWeek 120 = .ok (.aload_n 0, 1) := by decide +kernel
theorem dX0_passWeek_121 : decode cX0_passWeek 121 = .ok (.dup, 1) := by decide +kernel
theorem dX0_passWeek_122 : decode cX0_passWeek 122 = .ok (.getfield 24, 3) := by decide +kernel
theorem dX0_passWeek_125 : decode cX0_passWeek 125 = .ok (.iconst 1, 1) := by decide +kernel
theorem dX0_passWeek_126 : decode cX0_passWeek 126 = .ok (.iadd, 1) := by decide +kernel
theorem dX0_passWeek_127 : decode cX0_passWeek 127 = .ok (.putfield 24, 3) := by decide +kernel
theorem dX0_passWeek_130 : decode cX0_passWeek 130 = .ok (.iload 4, 2) := by decide +kernel
theorem dX0_passWeek_132 : decode cX0_passWeek 132 = .ok (.ireturn, 1) := by decide +kernel
theorem dX0_sumsTogether_0 : decode cX0_sumsTogether 0 = .ok (.iconst 0, 1) := by decide +kernel
theorem dX0_sumsTogether_1 : decode cX0_sumsTogether 1 = .ok (.istore_n 1, 1) := by decide +kernel
theorem dX0_sumsTogether_2 : decode cX0_sumsTogether 2 = .ok (.iconst 0, 1) := by decide +kernel
theorem dX0_sumsTogether_3 : decode cX0_sumsTogether 3 = .ok (.istore_n 2, 1) := by decide +kernel
theorem dX0_sumsTogether_4 : decode cX0_sumsTogether 4 = .ok (.iload_n 2, 1) := by decide +kernel
theorem dX0_sumsTogether_5 : decode cX0_sumsTogether 5 = .ok (.aload_n 0, 1) := by decide +kernel
theorem dX0_sumsTogether_6 : decode cX0_sumsTogether 6 = .ok (.getfield 20, 3) := by decide +kernel
theorem dX0_sumsTogether_9 : decode cX0_sumsTogether 9 = .ok (.if_icmp .ge 20, 3) := by decide +kernel
theorem dX0_sumsTogether_12 : decode cX0_sumsTogether 12 = .ok (.iload_n 1, 1) := by decide +kernel
theorem dX0_sumsTogether_13 : decode cX0_sumsTogether 13 = .ok (.aload_n 0, 1) := by decide +kernel
theorem dX0_sumsTogether_14 : decode cX0_sumsTogether 14 = .ok (.getfield 13, 3) := by decide +kernel
theorem dX0_sumsTogether_17 : decode cX0_sumsTogether 17 = .ok (.iload_n 2, 1) := by decide +kernel
theorem dX0_sumsTogether_18 : decode cX0_sumsTogether 18 = .ok (.aaload, 1) := by decide +kernel
theorem dX0_sumsTogether_19 : decode cX0_sumsTogether 19 = .ok (.iconst 1, 1) := by decide +kernel
theorem dX0_sumsTogether_20 : decode cX0_sumsTogether 20 = .ok (.iaload, 1) := by decide +kernel
theorem dX0_sumsTogether_21 : decode cX0_sumsTogether 21 = .ok (.iadd, 1) := by decide +kernel
theorem dX0_sumsTogether_22 : decode cX0_sumsTogether 22 = .ok (.istore_n 1, 1) := by decide +kernel
theorem dX0_sumsTogether_23 : decode cX0_sumsTogether 23 = .ok (.iinc 2 1, 3) := by decide +kernel
theorem dX0_sumsTogether_26 : decode cX0_sumsTogether 26 = .ok (.goto (-22), 3) := by decide +kernel
theorem dX0_sumsTogether_29 : decode cX0_sumsTogether 29 = .ok (.iload_n 1, 1) := by decide +kernel
theorem dX0_sumsTogether_30 : decode cX0_sumsTogether 30 = .ok (.ireturn, 1) := by decide +kernel
theorem dX0_putIntoOne_0 : decode cX0_putIntoOne 0 = .ok (.iconst (-1), 1) := by decide +kernel
theorem dX0_putIntoOne_1 : decode cX0_putIntoOne 1 = .ok (.istore_n 2, 1) := by decide +kernel
theorem dX0_putIntoOne_2 : decode cX0_putIntoOne 2 = .ok (.sipush 9999, 3) := by decide +kernel
theorem dX0_putIntoOne_5 : decode cX0_putIntoOne 5 = .ok (.aload_n 0, 1) := by decide +kernel
theorem dX0_putIntoOne_6 : decode cX0_putIntoOne 6 = .ok (.invokevirtual 101, 3) := by decide +kernel
theorem dX0_putIntoOne_9 : decode cX0_putIntoOne 9 = .ok (.invokestatic 87, 3) := by decide +kernel
theorem dX0_putIntoOne_12 : decode cX0_putIntoOne 12 = .ok (.istore_n 3, 1) := by decide +kernel
theorem dX0_putIntoOne_13 : decode cX0_putIntoOne 13 = .ok (.iconst 0, 1) := by decide +kernel
theorem dX0_putIntoOne_14 : decode cX0_putIntoOne 14 = .ok (.istore 4, 2) := by decide +kernel
theorem dX0_putIntoOne_16 : decode cX0_putIntoOne 16 = .ok (.iload 4, 2) := by decide +kernel
theorem dX0_putIntoOne_18 : decode cX0_putIntoOne 18 = .ok (.aload_n 0, 1) := by decide +kernel
theorem dX0_putIntoOne_19 : decode cX0_putIntoOne 19 = .ok (.getfield 20, 3) := by decide +kernel
theorem dX0_putIntoOne_22 : decode cX0_putIntoOne 22 = .ok (.if_icmp .ge 40, 3) := by decide +kernel
theorem dX0_putIntoOne_25 : decode cX0_putIntoOne 25 = .ok (.aload_n 0, 1) := by decide +kernel
theorem dX0_putIntoOne_26 : decode cX0_putIntoOne 26 = .ok (.iload 4, 2) := by decide +kernel
theorem dX0_putIntoOne_28 : decode cX0_putIntoOne 28 = .ok (.invokevirtual 70, 3) := by decide +kernel
theorem dX0_putIntoOne_31 : decode cX0_putIntoOne 31 = .ok (.ifCond .eq 25, 3) := by decide +kernel
theorem dX0_putIntoOne_34 : decode cX0_putIntoOne 34 = .ok (.iload_n 2, 1) := by decide +kernel
theorem dX0_putIntoOne_35 : decode cX0_putIntoOne 35 = .ok (.iconst (-1), 1) := by decide +kernel
theorem dX0_putIntoOne_36 : decode cX0_putIntoOne 36 = .ok (.if_icmp .ne 8, 3) := by decide +kernel
theorem dX0_putIntoOne_39 : decode cX0_putIntoOne 39 = .ok (.iload 4, 2) := by decide +kernel
theorem dX0_putIntoOne_41 : decode cX0_putIntoOne 41 = .ok (.goto 4, 3) := by decide +kernel
theorem dX0_putIntoOne_44 : decode cX0_putIntoOne 44 = .ok (.iload_n 2, 1) := by decide +kernel
theorem dX0_putIntoOne_45 : decode cX0_putIntoOne 45 = .ok (.istore_n 2, 1) := by decide +kernel
theorem dX0_putIntoOne_46 : decode cX0_putIntoOne 46 = .ok (.aload_n 0, 1) := by decide +kernel
theorem dX0_putIntoOne_47 : decode cX0_putIntoOne 47 = .ok (.getfield 13, 3) := by decide +kernel
theorem dX0_putIntoOne_50 : decode cX0_putIntoOne 50 = .ok (.iload 4, 2) := by decide +kernel
theorem dX0_putIntoOne_52 : decode cX0_putIntoOne 52 = .ok (.aaload, 1) := by decide +kernel
theorem dX0_putIntoOne_53 : decode cX0_putIntoOne 53 = .ok (.iconst 1, 1) := by decide +kernel
theorem dX0_putIntoOne_54 : decode cX0_putIntoOne 54 = .ok (.iconst 0, 1) := by decide +kernel
theorem dX0_putIntoOne_55 : decode cX0_putIntoOne 55 = .ok (.iastore, 1) := by decide +kernel
theorem dX0_putIntoOne_56 : decode cX0_putIntoOne 56 = .ok (.iinc 4 1, 3) := by decide +kernel
theorem dX0_putIntoOne_59 : decode cX0_putIntoOne 59 = .ok (.goto (-43), 3) := by decide +kernel
theorem dX0_putIntoOne_62 : decode cX0_putIntoOne 62 = .ok (.iload_n 2, 1) := by decide +kernel
theorem dX0_putIntoOne_63 : decode cX0_putIntoOne 63 = .ok (.ifCond .lt 48, 3) := by decide +kernel
theorem dX0_putIntoOne_66 : decode cX0_putIntoOne 66 = .ok (.aload_n 0, 1) := by decide +kernel
theorem dX0_putIntoOne_67 : decode cX0_putIntoOne 67 = .ok (.getfield 13, 3) := by decide +kernel
theorem dX0_putIntoOne_70 : decode cX0_putIntoOne 70 = .ok (.iload_n 2, 1) := by decide +kernel
theorem dX0_putIntoOne_71 : decode cX0_putIntoOne 71 = .ok (.aaload, 1) := by decide +kernel
theorem dX0_putIntoOne_72 : decode cX0_putIntoOne 72 = .ok (.astore 4, 2) := by decide +kernel
theorem dX0_putIntoOne_74 : decode cX0_putIntoOne 74 = .ok (.aload 4, 2) := by decide +kernel
theorem dX0_putIntoOne_76 : decode cX0_putIntoOne 76 = .ok (.iconst 0, 1) := by decide +kernel
theorem dX0_putIntoOne_77 : decode cX0_putIntoOne 77 = .ok (.invokestatic 42, 3) := by decide +kernel
theorem dX0_putIntoOne_80 : decode cX0_putIntoOne 80 = .ok (.aload 4, 2) := by decide +kernel
theorem dX0_putIntoOne_82 : decode cX0_putIntoOne 82 = .ok (.iconst 0, 1) := by decide +kernel
theorem dX0_putIntoOne_83 : decode cX0_putIntoOne 83 = .ok (.iconst 1, 1) := by decide +kernel
theorem dX0_putIntoOne_84 : decode cX0_putIntoOne 84 = .ok (.iastore, 1) := by decide +kernel
theorem dX0_putIntoOne_85 : decode cX0_putIntoOne 85 = .ok (.aload 4, 2) := by decide +kernel
theorem dX0_putIntoOne_87 : decode cX0_putIntoOne 87 = .ok (.iconst 1, 1) := by decide +kernel
theorem dX0_putIntoOne_88 : decode cX0_putIntoOne 88 = .ok (.iload_n 3, 1) := by decide +kernel
theorem dX0_putIntoOne_89 : decode cX0_putIntoOne 89 = .ok (.iastore, 1) := by decide +kernel
theorem dX0_putIntoOne_90 : decode cX0_putIntoOne 90 = .ok (.aload 4, 2) := by decide +kernel
theorem dX0_putIntoOne_92 : decode cX0_putIntoOne 92 = .ok (.iconst 2, 1) := by decide +kernel
theorem dX0_putIntoOne_93 : decode cX0_putIntoOne 93 = .ok (.iload_n 1, 1) := by decide +kernel
theorem dX0_putIntoOne_94 : decode cX0_putIntoOne 94 = .ok (.iastore, 1) := by decide +kernel
theorem dX0_putIntoOne_95 : decode cX0_putIntoOne 95 = .ok (.aload 4, 2) := by decide +kernel
theorem dX0_putIntoOne_97 : decode cX0_putIntoOne 97 = .ok (.iconst 3, 1) := by decide +kernel
theorem dX0_putIntoOne_98 : decode cX0_putIntoOne 98 = .ok (.iconst 3, 1) := by decide +kernel
theorem dX0_putIntoOne_99 : decode cX0_putIntoOne 99 = .ok (.iastore, 1) := by decide +kernel
theorem dX0_putIntoOne_100 : decode cX0_putIntoOne 100 = .ok (.aload 4, 2) := by decide +kernel
theorem dX0_putIntoOne_102 : decode cX0_putIntoOne 102 = .ok (.iconst 4, 1) := by decide +kernel
theorem dX0_putIntoOne_103 : decode cX0_putIntoOne 103 = .ok (.bipush 10, 2) := by decide +kernel
theorem dX0_putIntoOne_105 : decode cX0_putIntoOne 105 = .ok (.iastore, 1) := by decide +kernel
theorem dX0_putIntoOne_106 : decode cX0_putIntoOne 106 = .ok (.aload 4, 2) := by decide +kernel
theorem dX0_putIntoOne_108 : decode cX0_putIntoOne 108 = .ok (.iconst 5, 1) := by decide +kernel
theorem dX0_putIntoOne_109 : decode cX0_putIntoOne 109 = .ok (.iconst 5, 1) := by decide +kernel
theorem dX0_putIntoOne_110 : decode cX0_putIntoOne 110 = .ok (.iastore, 1) := by decide +kernel
theorem dX0_putIntoOne_111 : decode cX0_putIntoOne 111 = .ok (.iload_n 2, 1) := by decide +kernel
theorem dX0_putIntoOne_112 : decode cX0_putIntoOne 112 = .ok (.ireturn, 1) := by decide +kernel
theorem dX0_weeksToBite_0 : decode cX0_weeksToBite 0 = .ok (.aload_n 0, 1) := by decide +kernel
theorem dX0_weeksToBite_1 : decode cX0_weeksToBite 1 = .ok (.iload_n 1, 1) := by decide +kernel
theorem dX0_weeksToBite_2 : decode cX0_weeksToBite 2 = .ok (.invokevirtual 70, 3) := by decide +kernel
theorem dX0_weeksToBite_5 : decode cX0_weeksToBite 5 = .ok (.ifCond .ne 5, 3) := by decide +kernel
theorem dX0_weeksToBite_8 : decode cX0_weeksToBite 8 = .ok (.iconst (-1), 1) := by decide +kernel
theorem dX0_weeksToBite_9 : decode cX0_weeksToBite 9 = .ok (.ireturn, 1) := by decide +kernel
theorem dX0_weeksToBite_10 : decode cX0_weeksToBite 10 = .ok (.aload_n 0, 1) := by decide +kernel
theorem dX0_weeksToBite_11 : decode cX0_weeksToBite 11 = .ok (.iload_n 1, 1) := by decide +kernel
theorem dX0_weeksToBite_12 : decode cX0_weeksToBite 12 = .ok (.invokevirtual 74, 3) := by decide +kernel
theorem dX0_weeksToBite_15 : decode cX0_weeksToBite 15 = .ok (.ifCond .eq 23, 3) := by decide +kernel
theorem dX0_weeksToBite_18 : decode cX0_weeksToBite 18 = .ok (.aload_n 0, 1) := by decide +kernel
theorem dX0_weeksToBite_19 : decode cX0_weeksToBite 19 = .ok (.getfield 13, 3) := by decide +kernel
theorem dX0_weeksToBite_22 : decode cX0_weeksToBite 22 = .ok (.iload_n 1, 1) := by decide +kernel
theorem dX0_weeksToBite_23 : decode cX0_weeksToBite 23 = .ok (.aaload, 1) := by decide +kernel
theorem dX0_weeksToBite_24 : decode cX0_weeksToBite 24 = .ok (.iconst 2, 1) := by decide +kernel
theorem dX0_weeksToBite_25 : decode cX0_weeksToBite 25 = .ok (.iaload, 1) := by decide +kernel
theorem dX0_weeksToBite_26 : decode cX0_weeksToBite 26 = .ok (.aload_n 0, 1) := by decide +kernel
theorem dX0_weeksToBite_27 : decode cX0_weeksToBite 27 = .ok (.getfield 24, 3) := by decide +kernel
theorem dX0_weeksToBite_30 : decode cX0_weeksToBite 30 = .ok (.isub, 1) := by decide +kernel
theorem dX0_weeksToBite_31 : decode cX0_weeksToBite 31 = .ok (.aload_n 0, 1) := by decide +kernel
theorem dX0_weeksToBite_32 : decode cX0_weeksToBite 32 = .ok (.iload_n 1, 1) := by decide +kernel
theorem dX0_weeksToBite_33 : decode cX0_weeksToBite 33 = .ok (.invokevirtual 77, 3) := by decide +kernel
theorem dX0_weeksToBite_36 : decode cX0_weeksToBite 36 = .ok (.iadd, 1) := by decide +kernel
theorem dX0_weeksToBite_37 : decode cX0_weeksToBite 37 = .ok (.ireturn, 1) := by decide +kernel
theorem dX0_weeksToBite_38 : decode cX0_weeksToBite 38 = .ok (.iconst 1, 1) := by decide +kernel
theorem dX0_weeksToBite_39 : decode cX0_weeksToBite 39 = .ok (.aload_n 0, 1) := by decide +kernel
theorem dX0_weeksToBite_40 : decode cX0_weeksToBite 40 = .ok (.iload_n 1, 1) := by decide +kernel
theorem dX0_weeksToBite_41 : decode cX0_weeksToBite 41 = .ok (.invokevirtual 77, 3) := by decide +kernel
theorem dX0_weeksToBite_44 : decode cX0_weeksToBite 44 = .ok (.aload_n 0, 1) := by decide +kernel
theorem dX0_weeksToBite_45 : decode cX0_weeksToBite 45 = .ok (.getfield 13, 3) := by decide +kernel
theorem dX0_weeksToBite_48 : decode cX0_weeksToBite 48 = .ok (.iload_n 1, 1) := by decide +kernel
theorem dX0_weeksToBite_49 : decode cX0_weeksToBite 49 = .ok (.aaload, 1) := by decide +kernel
theorem dX0_weeksToBite_50 : decode cX0_weeksToBite 50 = .ok (.bipush 6, 2) := by decide +kernel
theorem dX0_weeksToBite_52 : decode cX0_weeksToBite 52 = .ok (.iaload, 1) := by decide +kernel
theorem dX0_weeksToBite_53 : decode cX0_weeksToBite 53 = .ok (.isub, 1) := by decide +kernel
theorem dX0_weeksToBite_54 : decode cX0_weeksToBite 54 = .ok (.invokestatic 80, 3) := by decide +kernel
theorem dX0_weeksToBite_57 : decode cX0_weeksToBite 57 = .ok (.ireturn, 1) := by decide +kernel
theorem dX0_writeTo_0 : decode cX0_writeTo 0 = .ok (.aload_n 0, 1) := by decide +kernel
theorem dX0_writeTo_1 : decode cX0_writeTo 1 = .ok (.getfield 13, 3) := by decide +kernel
theorem dX0_writeTo_4 : decode cX0_writeTo 4 = .ok (.iload_n 1, 1) := by decide +kernel
theorem dX0_writeTo_5 : decode cX0_writeTo 5 = .ok (.aaload, 1) := by decide +kernel
theorem dX0_writeTo_6 : decode cX0_writeTo 6 = .ok (.bipush 6, 2) := by decide +kernel
theorem dX0_writeTo_8 : decode cX0_writeTo 8 = .ok (.iconst 0, 1) := by decide +kernel
theorem dX0_writeTo_9 : decode cX0_writeTo 9 = .ok (.iastore, 1) := by decide +kernel
theorem dX0_writeTo_10 : decode cX0_writeTo 10 = .ok (.aload_n 0, 1) := by decide +kernel
theorem dX0_writeTo_11 : decode cX0_writeTo 11 = .ok (.getfield 13, 3) := by decide +kernel
theorem dX0_writeTo_14 : decode cX0_writeTo 14 = .ok (.iload_n 1, 1) := by decide +kernel
theorem dX0_writeTo_15 : decode cX0_writeTo 15 = .ok (.aaload, 1) := by decide +kernel
theorem dX0_writeTo_16 : decode cX0_writeTo 16 = .ok (.bipush 7, 2) := by decide +kernel
theorem dX0_writeTo_18 : decode cX0_writeTo 18 = .ok (.iconst 1, 1) := by decide +kernel
theorem dX0_writeTo_19 : decode cX0_writeTo 19 = .ok (.iastore, 1) := by decide +kernel
theorem dX0_writeTo_20 : decode cX0_writeTo 20 = .ok (.return_, 1) := by decide +kernel
theorem dX1_init_0 : decode cX1_init 0 = .ok (.aload_n 0, 1) := by decide +kernel
theorem dX1_init_1 : decode cX1_init 1 = .ok (.invokespecial 3, 3) := by decide +kernel
theorem dX1_init_4 : decode cX1_init 4 = .ok (.aload_n 0, 1) := by decide +kernel
theorem dX1_init_5 : decode cX1_init 5 = .ok (.bipush 9, 2) := by decide +kernel
theorem dX1_init_7 : decode cX1_init 7 = .ok (.newarray .int, 2) := by decide +kernel
theorem dX1_init_9 : decode cX1_init 9 = .ok (.putfield 11, 3) := by decide +kernel
theorem dX1_init_12 : decode cX1_init 12 = .ok (.aload_n 0, 1) := by decide +kernel
theorem dX1_init_13 : decode cX1_init 13 = .ok (.bipush 9, 2) := by decide +kernel
theorem dX1_init_15 : decode cX1_init 15 = .ok (.newarray .long, 2) := by decide +kernel
theorem dX1_init_17 : decode cX1_init 17 = .ok (.putfield 17, 3) := by decide +kernel
theorem dX1_init_20 : decode cX1_init 20 = .ok (.return_, 1) := by decide +kernel
theorem dX1_evenShare_0 : decode cX1_evenShare 0 = .ok (.aload_n 0, 1) := by decide +kernel
theorem dX1_evenShare_1 : decode cX1_evenShare 1 = .ok (.invokevirtual 49, 3) := by decide +kernel
theorem dX1_evenShare_4 : decode cX1_evenShare 4 = .ok (.istore_n 1, 1) := by decide +kernel
theorem dX1_evenShare_5 : decode cX1_evenShare 5 = .ok (.iload_n 1, 1) := by decide +kernel
theorem dX1_evenShare_6 : decode cX1_evenShare 6 = .ok (.ifCond .le 12, 3) := by decide +kernel
theorem dX1_evenShare_9 : decode cX1_evenShare 9 = .ok (.aload_n 0, 1) := by decide +kernel
theorem dX1_evenShare_10 : decode cX1_evenShare 10 = .ok (.invokevirtual 39, 3) := by decide +kernel
theorem dX1_evenShare_13 : decode cX1_evenShare 13 = .ok (.iload_n 1, 1) := by decide +kernel
theorem dX1_evenShare_14 : decode cX1_evenShare 14 = .ok (.idiv, 1) := by decide +kernel
theorem dX1_evenShare_15 : decode cX1_evenShare 15 = .ok (.goto 4, 3) := by decide +kernel
theorem dX1_evenShare_18 : decode cX1_evenShare 18 = .ok (.iconst 0, 1) := by decide +kernel
theorem dX1_evenShare_19 : decode cX1_evenShare 19 = .ok (.ireturn, 1) := by decide +kernel
theorem dX1_turnOf_0 : decode cX1_turnOf 0 = .ok (.iload_n 0, 1) := by decide +kernel
theorem dX1_turnOf_1 : decode cX1_turnOf 1 = .ok (.lookupswitch 65 #[(1, 27), (3, 36)], 27) := by decide +kernel
theorem dX1_turnOf_28 : decode cX1_turnOf 28 = .ok (.aload_n 1, 1) := by decide +kernel
theorem dX1_turnOf_29 : decode cX1_turnOf 29 = .ok (.iload_n 2, 1) := by decide +kernel
theorem dX1_turnOf_30 : decode cX1_turnOf 30 = .ok (.iconst 0, 1) := by decide +kernel
theorem dX1_turnOf_31 : decode cX1_turnOf 31 = .ok (.invokevirtual 84, 3) := by decide +kernel
theorem dX1_turnOf_34 : decode cX1_turnOf 34 = .ok (.ineg, 1) := by decide +kernel
theorem dX1_turnOf_35 : decode cX1_turnOf 35 = .ok (.i2l, 1) := by decide +kernel
theorem dX1_turnOf_36 : decode cX1_turnOf 36 = .ok (.lreturn, 1) := by decide +kernel
theorem dX1_turnOf_37 : decode cX1_turnOf 37 = .ok (.aload_n 1, 1) := by decide +kernel
theorem dX1_turnOf_38 : decode cX1_turnOf 38 = .ok (.iload_n 2, 1) := by decide +kernel
theorem dX1_turnOf_39 : decode cX1_turnOf 39 = .ok (.invokevirtual 87, 3) := by decide +kernel
theorem dX1_turnOf_42 : decode cX1_turnOf 42 = .ok (.aload_n 1, 1) := by decide +kernel
theorem dX1_turnOf_43 : decode cX1_turnOf 43 = .ok (.getfield 67, 3) := by decide +kernel
theorem dX1_turnOf_46 : decode cX1_turnOf 46 = .ok (.iload_n 2, 1) := by decide +kernel
theorem dX1_turnOf_47 : decode cX1_turnOf 47 = .ok (.aaload, 1) := by decide +kernel
theorem dX1_turnOf_48 : decode cX1_turnOf 48 = .ok (.bipush 6, 2) := by decide +kernel
theorem dX1_turnOf_50 : decode cX1_turnOf 50 = .ok (.iaload, 1) := by decide +kernel
theorem dX1_turnOf_51 : decode cX1_turnOf 51 = .ok (.isub, 1) := by decide +kernel
theorem dX1_turnOf_52 : decode cX1_turnOf 52 = .ok (.i2l, 1) := by decide +kernel
theorem dX1_turnOf_53 : decode cX1_turnOf 53 = .ok (.ldc2_w 90, 3) := by decide +kernel
theorem dX1_turnOf_56 : decode cX1_turnOf 56 = .ok (.lmul, 1) := by decide +kernel
theorem dX1_turnOf_57 : decode cX1_turnOf 57 = .ok (.aload_n 1, 1) := by decide +kernel
theorem dX1_turnOf_58 : decode cX1_turnOf 58 = .ok (.iload_n 2, 1) := by decide +kernel
theorem dX1_turnOf_59 : decode cX1_turnOf 59 = .ok (.iconst 0, 1) := by decide +kernel
theorem dX1_turnOf_60 : decode cX1_turnOf 60 = .ok (.invokevirtual 84, 3) := by decide +kernel
theorem dX1_turnOf_63 : decode cX1_turnOf 63 = .ok (.i2l, 1) := by decide +kernel
theorem dX1_turnOf_64 : decode cX1_turnOf 64 = .ok (.lsub, 1) := by decide +kernel
theorem dX1_turnOf_65 : decode cX1_turnOf 65 = .ok (.lreturn, 1) := by decide +kernel
theorem dX1_turnOf_66 : decode cX1_turnOf 66 = .ok (.aload_n 1, 1) := by decide +kernel
theorem dX1_turnOf_67 : decode cX1_turnOf 67 = .ok (.getfield 67, 3) := by decide +kernel
theorem dX1_turnOf_70 : decode cX1_turnOf 70 = .ok (.iload_n 2, 1) := by decide +kernel
theorem dX1_turnOf_71 : decode cX1_turnOf 71 = .ok (.aaload, 1) := by decide +kernel
theorem dX1_turnOf_72 : decode cX1_turnOf 72 = .ok (.iconst 1, 1) := by decide +kernel
theorem dX1_turnOf_73 : decode cX1_turnOf 73 = .ok (.iaload, 1) := by decide +kernel
theorem dX1_turnOf_74 : decode cX1_turnOf 74 = .ok (.i2l, 1) := by decide +kernel
theorem dX1_turnOf_75 : decode cX1_turnOf 75 = .ok (.lreturn, 1) := by decide +kernel
theorem dX1_lineUp_0 : decode cX1_lineUp 0 = .ok (.iconst 0, 1) := by decide +kernel
theorem dX1_lineUp_1 : decode cX1_lineUp 1 = .ok (.istore_n 3, 1) := by decide +kernel
theorem dX1_lineUp_2 : decode cX1_lineUp 2 = .ok (.iload_n 3, 1) := by decide +kernel
theorem dX1_lineUp_3 : decode cX1_lineUp 3 = .ok (.aload_n 2, 1) := by decide +kernel
theorem dX1_lineUp_4 : decode cX1_lineUp 4 = .ok (.getfield 56, 3) := by decide +kernel
theorem dX1_lineUp_7 : decode cX1_lineUp 7 = .ok (.if_icmp .ge 35, 3) := by decide +kernel
theorem dX1_lineUp_10 : decode cX1_lineUp 10 = .ok (.aload_n 0, 1) := by decide +kernel
theorem dX1_lineUp_11 : decode cX1_lineUp 11 = .ok (.getfield 17, 3) := by decide +kernel
theorem dX1_lineUp_14 : decode cX1_lineUp 14 = .ok (.iload_n 3, 1) := by decide +kernel
theorem dX1_lineUp_15 : decode cX1_lineUp 15 = .ok (.aload_n 2, 1) := by decide +kernel
theorem dX1_lineUp_16 : decode cX1_lineUp 16 = .ok (.iload_n 3, 1) := by decide +kernel
theorem dX1_lineUp_17 : decode cX1_lineUp 17 = .ok (.invokevirtual 76, 3) := by decide +kernel
theorem dX1_lineUp_20 : decode cX1_lineUp 20 = .ok (.ifCond .eq 12, 3) := by decide +kernel
theorem dX1_lineUp_23 : decode cX1_lineUp 23 = .ok (.iload_n 1, 1) := by decide +kernel
theorem dX1_lineUp_24 : decode cX1_lineUp 24 = .ok (.aload_n 2, 1) := by decide +kernel
theorem dX1_lineUp_25 : decode cX1_lineUp 25 = .ok (.iload_n 3, 1) := by decide +kernel
theorem dX1_lineUp_26 : decode cX1_lineUp 26 = .ok (.invokestatic 80, 3) := by decide +kernel
theorem dX1_lineUp_29 : decode cX1_lineUp 29 = .ok (.goto 6, 3) := by decide +kernel
theorem dX1_lineUp_32 : decode cX1_lineUp 32 = .ok (.ldc2_w 74, 3) := by decide +kernel
theorem dX1_lineUp_35 : decode cX1_lineUp 35 = .ok (.lastore, 1) := by decide +kernel
theorem dX1_lineUp_36 : decode cX1_lineUp 36 = .ok (.iinc 3 1, 3) := by decide +kernel
theorem dX1_lineUp_39 : decode cX1_lineUp 39 = .ok (.goto (-37), 3) := by decide +kernel
theorem dX1_lineUp_42 : decode cX1_lineUp 42 = .ok (.return_, 1) := by decide +kernel
theorem dX1_nextInLine_0 : decode cX1_nextInLine 0 = .ok (.iconst (-1), 1) := by decide +kernel
theorem dX1_nextInLine_1 : decode cX1_nextInLine 1 = .ok (.istore_n 2, 1) := by decide +kernel
theorem dX1_nextInLine_2 : decode cX1_nextInLine 2 = .ok (.ldc2_w 74, 3) := by decide +kernel
theorem dX1_nextInLine_5 : decode cX1_nextInLine 5 = .ok (.lstore_n 3, 1) := by decide +kernel
theorem dX1_nextInLine_6 : decode cX1_nextInLine 6 = .ok (.iconst 0, 1) := by decide +kernel
theorem dX1_nextInLine_7 : decode cX1_nextInLine 7 = .ok (.istore 5, 2) := by decide +kernel
theorem dX1_nextInLine_9 : decode cX1_nextInLine 9 = .ok (.iload 5, 2) := by decide +kernel
theorem dX1_nextInLine_11 : decode cX1_nextInLine 11 = .ok (.iload_n 1, 1) := by decide +kernel
theorem dX1_nextInLine_12 : decode cX1_nextInLine 12 = .ok (.if_icmp .ge 32, 3) := by decide +kernel
theorem dX1_nextInLine_15 : decode cX1_nextInLine 15 = .ok (.aload_n 0, 1) := by decide +kernel
theorem dX1_nextInLine_16 : decode cX1_nextInLine 16 = .ok (.getfield 17, 3) := by decide +kernel
theorem dX1_nextInLine_19 : decode cX1_nextInLine 19 = .ok (.iload 5, 2) := by decide +kernel
theorem dX1_nextInLine_21 : decode cX1_nextInLine 21 = .ok (.laload, 1) := by decide +kernel
theorem dX1_nextInLine_22 : decode cX1_nextInLine 22 = .ok (.lload_n 3, 1) := by decide +kernel
theorem dX1_nextInLine_23 : decode cX1_nextInLine 23 = .ok (.lcmp, 1) := by decide +kernel
theorem dX1_nextInLine_24 : decode cX1_nextInLine 24 = .ok (.ifCond .ge 14, 3) := by decide +kernel
theorem dX1_nextInLine_27 : decode cX1_nextInLine 27 = .ok (.iload 5, 2) := by decide +kernel
theorem dX1_nextInLine_29 : decode cX1_nextInLine 29 = .ok (.istore_n 2, 1) := by decide +kernel
theorem dX1_nextInLine_30 : decode cX1_nextInLine 30 = .ok (.aload_n 0, 1) := by decide +kernel
theorem dX1_nextInLine_31 : decode cX1_nextInLine 31 = .ok (.getfield 17, 3) := by decide +kernel
theorem dX1_nextInLine_34 : decode cX1_nextInLine 34 = .ok (.iload 5, 2) := by decide +kernel
theorem dX1_nextInLine_36 : decode cX1_nextInLine 36 = .ok (.laload, 1) := by decide +kernel
theorem dX1_nextInLine_37 : decode cX1_nextInLine 37 = .ok (.lstore_n 3, 1) := by decide +kernel
theorem dX1_nextInLine_38 : decode cX1_nextInLine 38 = .ok (.iinc 5 1, 3) := by decide +kernel
theorem dX1_nextInLine_41 : decode cX1_nextInLine 41 = .ok (.goto (-32), 3) := by decide +kernel
theorem dX1_nextInLine_44 : decode cX1_nextInLine 44 = .ok (.iload_n 2, 1) := by decide +kernel
theorem dX1_nextInLine_45 : decode cX1_nextInLine 45 = .ok (.ireturn, 1) := by decide +kernel
theorem dX1_firstInOrder_0 : decode cX1_firstInOrder 0 = .ok (.aload_n 0, 1) := by decide +kernel
theorem dX1_firstInOrder_1 : decode cX1_firstInOrder 1 = .ok (.iload_n 1, 1) := by decide +kernel
theorem dX1_firstInOrder_2 : decode cX1_firstInOrder 2 = .ok (.aload_n 2, 1) := by decide +kernel
theorem dX1_firstInOrder_3 : decode cX1_firstInOrder 3 = .ok (.invokevirtual 52, 3) := by decide +kernel
theorem dX1_firstInOrder_6 : decode cX1_firstInOrder 6 = .ok (.aload_n 0, 1) := by decide +kernel
theorem dX1_firstInOrder_7 : decode cX1_firstInOrder 7 = .ok (.aload_n 2, 1) := by decide +kernel
theorem dX1_firstInOrder_8 : decode cX1_firstInOrder 8 = .ok (.getfield 56, 3) := by decide +kernel
theorem dX1_firstInOrder_11 : decode cX1_firstInOrder 11 = .ok (.invokevirtual 60, 3) := by decide +kernel
theorem dX1_firstInOrder_14 : decode cX1_firstInOrder 14 = .ok (.ireturn, 1) := by decide +kernel
theorem dX1_isUnder_0 : decode cX1_isUnder 0 = .ok (.iload_n 0, 1) := by decide +kernel
theorem dX1_isUnder_1 : decode cX1_isUnder 1 = .ok (.iload_n 1, 1) := by decide +kernel
theorem dX1_isUnder_2 : decode cX1_isUnder 2 = .ok (.if_icmp .eq 28, 3) := by decide +kernel
theorem dX1_isUnder_5 : decode cX1_isUnder 5 = .ok (.iload_n 1, 1) := by decide +kernel
theorem dX1_isUnder_6 : decode cX1_isUnder 6 = .ok (.ifCond .eq 24, 3) := by decide +kernel
theorem dX1_isUnder_9 : decode cX1_isUnder 9 = .ok (.iload_n 0, 1) := by decide +kernel
theorem dX1_isUnder_10 : decode cX1_isUnder 10 = .ok (.iconst 3, 1) := by decide +kernel
theorem dX1_isUnder_11 : decode cX1_isUnder 11 = .ok (.if_icmp .ne 8, 3) := by decide +kernel
theorem dX1_isUnder_14 : decode cX1_isUnder 14 = .ok (.iload_n 1, 1) := by decide +kernel
theorem dX1_isUnder_15 : decode cX1_isUnder 15 = .ok (.iconst 1, 1) := by decide +kernel
theorem dX1_isUnder_16 : decode cX1_isUnder 16 = .ok (.if_icmp .eq 14, 3) := by decide +kernel
theorem dX1_isUnder_19 : decode cX1_isUnder 19 = .ok (.iload_n 0, 1) := by decide +kernel
theorem dX1_isUnder_20 : decode cX1_isUnder 20 = .ok (.bipush 6, 2) := by decide +kernel
theorem dX1_isUnder_22 : decode cX1_isUnder 22 = .ok (.if_icmp .ne 12, 3) := by decide +kernel
theorem dX1_isUnder_25 : decode cX1_isUnder 25 = .ok (.iload_n 1, 1) := by decide +kernel
theorem dX1_isUnder_26 : decode cX1_isUnder 26 = .ok (.iconst 2, 1) := by decide +kernel
theorem dX1_isUnder_27 : decode cX1_isUnder 27 = .ok (.if_icmp .ne 7, 3) := by decide +kernel
theorem dX1_isUnder_30 : decode cX1_isUnder 30 = .ok (.iconst 1, 1) := by decide +kernel
theorem dX1_isUnder_31 : decode cX1_isUnder 31 = .ok (.goto 4, 3) := by decide +kernel
theorem dX1_isUnder_34 : decode cX1_isUnder 34 = .ok (.iconst 0, 1) := by decide +kernel
theorem dX1_isUnder_35 : decode cX1_isUnder 35 = .ok (.ireturn, 1) := by decide +kernel
theorem dX1_payEvenly_0 : decode cX1_payEvenly 0 = .ok (.aload_n 1, 1) := by decide +kernel
theorem dX1_payEvenly_1 : decode cX1_payEvenly 1 = .ok (.invokestatic 64, 3) := by decide +kernel
theorem dX1_payEvenly_4 : decode cX1_payEvenly 4 = .ok (.istore_n 2, 1) := by decide +kernel
theorem dX1_payEvenly_5 : decode cX1_payEvenly 5 = .ok (.iconst 0, 1) := by decide +kernel
theorem dX1_payEvenly_6 : decode cX1_payEvenly 6 = .ok (.istore_n 3, 1) := by decide +kernel
theorem dX1_payEvenly_7 : decode cX1_payEvenly 7 = .ok (.iload_n 3, 1) := by decide +kernel
theorem dX1_payEvenly_8 : decode cX1_payEvenly 8 = .ok (.aload_n 1, 1) := by decide +kernel
theorem dX1_payEvenly_9 : decode cX1_payEvenly 9 = .ok (.getfield 56, 3) := by decide +kernel
theorem dX1_payEvenly_12 : decode cX1_payEvenly 12 = .ok (.if_icmp .ge 27, 3) := by decide +kernel
theorem dX1_payEvenly_15 : decode cX1_payEvenly 15 = .ok (.aload_n 0, 1) := by decide +kernel
theorem dX1_payEvenly_16 : decode cX1_payEvenly 16 = .ok (.getfield 11, 3) := by decide +kernel
theorem dX1_payEvenly_19 : decode cX1_payEvenly 19 = .ok (.iload_n 3, 1) := by decide +kernel
theorem dX1_payEvenly_20 : decode cX1_payEvenly 20 = .ok (.iload_n 2, 1) := by decide +kernel
theorem dX1_payEvenly_21 : decode cX1_payEvenly 21 = .ok (.aload_n 1, 1) := by decide +kernel
theorem dX1_payEvenly_22 : decode cX1_payEvenly 22 = .ok (.getfield 67, 3) := by decide +kernel
theorem dX1_payEvenly_25 : decode cX1_payEvenly 25 = .ok (.iload_n 3, 1) := by decide +kernel
theorem dX1_payEvenly_26 : decode cX1_payEvenly 26 = .ok (.aaload, 1) := by decide +kernel
theorem dX1_payEvenly_27 : decode cX1_payEvenly 27 = .ok (.iconst 1, 1) := by decide +kernel
theorem dX1_payEvenly_28 : decode cX1_payEvenly 28 = .ok (.iaload, 1) := by decide +kernel
theorem dX1_payEvenly_29 : decode cX1_payEvenly 29 = .ok (.invokestatic 71, 3) := by decide +kernel
theorem dX1_payEvenly_32 : decode cX1_payEvenly 32 = .ok (.iastore, 1) := by decide +kernel
theorem dX1_payEvenly_33 : decode cX1_payEvenly 33 = .ok (.iinc 3 1, 3) := by decide +kernel
theorem dX1_payEvenly_36 : decode cX1_payEvenly 36 = .ok (.goto (-29), 3) := by decide +kernel
theorem dX1_payEvenly_39 : decode cX1_payEvenly 39 = .ok (.return_, 1) := by decide +kernel
theorem dX1_payLeasts_0 : decode cX1_payLeasts 0 = .ok (.aload_n 1, 1) := by decide +kernel
theorem dX1_payLeasts_1 : decode cX1_payLeasts 1 = .ok (.invokevirtual 39, 3) := by decide +kernel
theorem dX1_payLeasts_4 : decode cX1_payLeasts 4 = .ok (.istore_n 2, 1) := by decide +kernel
theorem dX1_payLeasts_5 : decode cX1_payLeasts 5 = .ok (.iconst 0, 1) := by decide +kernel
theorem dX1_payLeasts_6 : decode cX1_payLeasts 6 = .ok (.istore_n 3, 1) := by decide +kernel
theorem dX1_payLeasts_7 : decode cX1_payLeasts 7 = .ok (.iload_n 3, 1) := by decide +kernel
theorem dX1_payLeasts_8 : decode cX1_payLeasts 8 = .ok (.aload_n 1, 1) := by decide +kernel
theorem dX1_payLeasts_9 : decode cX1_payLeasts 9 = .ok (.getfield 56, 3) := by decide +kernel
theorem dX1_payLeasts_12 : decode cX1_payLeasts 12 = .ok (.if_icmp .ge 51, 3) := by decide +kernel
theorem dX1_payLeasts_15 : decode cX1_payLeasts 15 = .ok (.aload_n 1, 1) := by decide +kernel
theorem dX1_payLeasts_16 : decode cX1_payLeasts 16 = .ok (.getfield 67, 3) := by decide +kernel
theorem dX1_payLeasts_19 : decode cX1_payLeasts 19 = .ok (.iload_n 3, 1) := by decide +kernel
theorem dX1_payLeasts_20 : decode cX1_payLeasts 20 = .ok (.aaload, 1) := by decide +kernel
theorem dX1_payLeasts_21 : decode cX1_payLeasts 21 = .ok (.iconst 5, 1) := by decide +kernel
theorem dX1_payLeasts_22 : decode cX1_payLeasts 22 = .ok (.iaload, 1) := by decide +kernel
theorem dX1_payLeasts_23 : decode cX1_payLeasts 23 = .ok (.aload_n 1, 1) := by decide +kernel
theorem dX1_payLeasts_24 : decode cX1_payLeasts 24 = .ok (.getfield 67, 3) := by decide +kernel
theorem dX1_payLeasts_27 : decode cX1_payLeasts 27 = .ok (.iload_n 3, 1) := by decide +kernel
theorem dX1_payLeasts_28 : decode cX1_payLeasts 28 = .ok (.aaload, 1) := by decide +kernel
theorem dX1_payLeasts_29 : decode cX1_payLeasts 29 = .ok (.iconst 1, 1) := by decide +kernel
theorem dX1_payLeasts_30 : decode cX1_payLeasts 30 = .ok (.iaload, 1) := by decide +kernel
theorem dX1_payLeasts_31 : decode cX1_payLeasts 31 = .ok (.invokestatic 71, 3) := by decide +kernel
theorem dX1_payLeasts_34 : decode cX1_payLeasts 34 = .ok (.istore 4, 2) := by decide +kernel
theorem dX1_payLeasts_36 : decode cX1_payLeasts 36 = .ok (.aload_n 0, 1) := by decide +kernel
theorem dX1_payLeasts_37 : decode cX1_payLeasts 37 = .ok (.getfield 11, 3) := by decide +kernel
theorem dX1_payLeasts_40 : decode cX1_payLeasts 40 = .ok (.iload_n 3, 1) := by decide +kernel
theorem dX1_payLeasts_41 : decode cX1_payLeasts 41 = .ok (.iload 4, 2) := by decide +kernel
theorem dX1_payLeasts_43 : decode cX1_payLeasts 43 = .ok (.iload_n 2, 1) := by decide +kernel
theorem dX1_payLeasts_44 : decode cX1_payLeasts 44 = .ok (.invokestatic 71, 3) := by decide +kernel
theorem dX1_payLeasts_47 : decode cX1_payLeasts 47 = .ok (.iastore, 1) := by decide +kernel
theorem dX1_payLeasts_48 : decode cX1_payLeasts 48 = .ok (.iload_n 2, 1) := by decide +kernel
theorem dX1_payLeasts_49 : decode cX1_payLeasts 49 = .ok (.aload_n 0, 1) := by decide +kernel
theorem dX1_payLeasts_50 : decode cX1_payLeasts 50 = .ok (.getfield 11, 3) := by decide +kernel
theorem dX1_payLeasts_53 : decode cX1_payLeasts 53 = .ok (.iload_n 3, 1) := by decide +kernel
theorem dX1_payLeasts_54 : decode cX1_payLeasts 54 = .ok (.iaload, 1) := by decide +kernel
theorem dX1_payLeasts_55 : decode cX1_payLeasts 55 = .ok (.isub, 1) := by decide +kernel
theorem dX1_payLeasts_56 : decode cX1_payLeasts 56 = .ok (.istore_n 2, 1) := by decide +kernel
theorem dX1_payLeasts_57 : decode cX1_payLeasts 57 = .ok (.iinc 3 1, 3) := by decide +kernel
theorem dX1_payLeasts_60 : decode cX1_payLeasts 60 = .ok (.goto (-53), 3) := by decide +kernel
theorem dX1_payLeasts_63 : decode cX1_payLeasts 63 = .ok (.iload_n 2, 1) := by decide +kernel
theorem dX1_payLeasts_64 : decode cX1_payLeasts 64 = .ok (.ireturn, 1) := by decide +kernel
theorem dX1_payInOrder_0 : decode cX1_payInOrder 0 = .ok (.iload_n 3, 1) := by decide +kernel
theorem dX1_payInOrder_1 : decode cX1_payInOrder 1 = .ok (.istore 4, 2) := by decide +kernel
theorem dX1_payInOrder_3 : decode cX1_payInOrder 3 = .ok (.aload_n 0, 1) := by decide +kernel
theorem dX1_payInOrder_4 : decode cX1_payInOrder 4 = .ok (.iload_n 1, 1) := by decide +kernel
theorem dX1_payInOrder_5 : decode cX1_payInOrder 5 = .ok (.aload_n 2, 1) := by decide +kernel
theorem dX1_payInOrder_6 : decode cX1_payInOrder 6 = .ok (.invokevirtual 52, 3) := by decide +kernel
theorem dX1_payInOrder_9 : decode cX1_payInOrder 9 = .ok (.iconst 0, 1) := by decide +kernel
theorem dX1_payInOrder_10 : decode cX1_payInOrder 10 = .ok (.istore 5, 2) := by decide +kernel
theorem dX1_payInOrder_12 : decode cX1_payInOrder 12 = .ok (.iload 5, 2) := by decide +kernel
theorem dX1_payInOrder_14 : decode cX1_payInOrder 14 = .ok (.aload_n 2, 1) := by decide +kernel
theorem dX1_payInOrder_15 : decode cX1_payInOrder 15 = .ok (.getfield 56, 3) := by decide +kernel
theorem dX1_payInOrder_18 : decode cX1_payInOrder 18 = .ok (.if_icmp .ge 85, 3) := by decide +kernel
theorem dX1_payInOrder_21 : decode cX1_payInOrder 21 = .ok (.iload 4, 2) := by decide +kernel
theorem dX1_payInOrder_23 : decode cX1_payInOrder 23 = .ok (.ifCond .le 80, 3) := by decide +kernel
theorem dX1_payInOrder_26 : decode cX1_payInOrder 26 = .ok (.aload_n 0, 1) := by decide +kernel
theorem dX1_payInOrder_27 : decode cX1_payInOrder 27 = .ok (.aload_n 2, 1) := by decide +kernel
theorem dX1_payInOrder_28 : decode cX1_payInOrder 28 = .ok (.getfield 56, 3) := by decide +kernel
theorem dX1_payInOrder_31 : decode cX1_payInOrder 31 = .ok (.invokevirtual 60, 3) := by decide +kernel
theorem dX1_payInOrder_34 : decode cX1_payInOrder 34 = .ok (.istore 6, 2) := by decide +kernel
theorem dX1_payInOrder_36 : decode cX1_payInOrder 36 = .ok (.iload 6, 2) := by decide +kernel
theorem dX1_payInOrder_38 : decode cX1_payInOrder 38 = .ok (.ifCond .ge 6, 3) := by decide +kernel
theorem dX1_payInOrder_41 : decode cX1_payInOrder 41 = .ok (.goto 62, 3) := by decide +kernel
theorem dX1_payInOrder_44 : decode cX1_payInOrder 44 = .ok (.iload 4, 2) := by decide +kernel
theorem dX1_payInOrder_46 : decode cX1_payInOrder 46 = .ok (.aload_n 2, 1) := by decide +kernel
theorem dX1_payInOrder_47 : decode cX1_payInOrder 47 = .ok (.getfield 67, 3) := by decide +kernel
theorem dX1_payInOrder_50 : decode cX1_payInOrder 50 = .ok (.iload 6, 2) := by decide +kernel
theorem dX1_payInOrder_52 : decode cX1_payInOrder 52 = .ok (.aaload, 1) := by decide +kernel
theorem dX1_payInOrder_53 : decode cX1_payInOrder 53 = .ok (.iconst 1, 1) := by decide +kernel
theorem dX1_payInOrder_54 : decode cX1_payInOrder 54 = .ok (.iaload, 1) := by decide +kernel
theorem dX1_payInOrder_55 : decode cX1_payInOrder 55 = .ok (.aload_n 0, 1) := by decide +kernel
theorem dX1_payInOrder_56 : decode cX1_payInOrder 56 = .ok (.getfield 11, 3) := by decide +kernel
theorem dX1_payInOrder_59 : decode cX1_payInOrder 59 = .ok (.iload 6, 2) := by decide +kernel
theorem dX1_payInOrder_61 : decode cX1_payInOrder 61 = .ok (.iaload, 1) := by decide +kernel
theorem dX1_payInOrder_62 : decode cX1_payInOrder 62 = .ok (.isub, 1) := by decide +kernel
theorem dX1_payInOrder_63 : decode cX1_payInOrder 63 = .ok (.invokestatic 71, 3) := by decide +kernel
theorem dX1_payInOrder_66 : decode cX1_payInOrder 66 = .ok (.istore 7, 2) := by decide +kernel
theorem dX1_payInOrder_68 : decode cX1_payInOrder 68 = .ok (.aload_n 0, 1) := by decide +kernel
theorem dX1_payInOrder_69 : decode cX1_payInOrder 69 = .ok (.getfield 11, 3) := by decide +kernel
theorem dX1_payInOrder_72 : decode cX1_payInOrder 72 = .ok (.iload 6, 2) := by decide +kernel
theorem dX1_payInOrder_74 : decode cX1_payInOrder 74 = .ok (.dup2, 1) := by decide +kernel
theorem dX1_payInOrder_75 : decode cX1_payInOrder 75 = .ok (.iaload, 1) := by decide +kernel
theorem dX1_payInOrder_76 : decode cX1_payInOrder 76 = .ok (.iload 7, 2) := by decide +kernel
theorem dX1_payInOrder_78 : decode cX1_payInOrder 78 = .ok (.iadd, 1) := by decide +kernel
theorem dX1_payInOrder_79 : decode cX1_payInOrder 79 = .ok (.iastore, 1) := by decide +kernel
theorem dX1_payInOrder_80 : decode cX1_payInOrder 80 = .ok (.iload 4, 2) := by decide +kernel
theorem dX1_payInOrder_82 : decode cX1_payInOrder 82 = .ok (.iload 7, 2) := by decide +kernel
theorem dX1_payInOrder_84 : decode cX1_payInOrder 84 = .ok (.isub, 1) := by decide +kernel
theorem dX1_payInOrder_85 : decode cX1_payInOrder 85 = .ok (.istore 4, 2) := by decide +kernel
theorem dX1_payInOrder_87 : decode cX1_payInOrder 87 = .ok (.aload_n 0, 1) := by decide +kernel
theorem dX1_payInOrder_88 : decode cX1_payInOrder 88 = .ok (.getfield 17, 3) := by decide +kernel
theorem dX1_payInOrder_91 : decode cX1_payInOrder 91 = .ok (.iload 6, 2) := by decide +kernel
theorem dX1_payInOrder_93 : decode cX1_payInOrder 93 = .ok (.ldc2_w 74, 3) := by decide +kernel
theorem dX1_payInOrder_96 : decode cX1_payInOrder 96 = .ok (.lastore, 1) := by decide +kernel
theorem dX1_payInOrder_97 : decode cX1_payInOrder 97 = .ok (.iinc 5 1, 3) := by decide +kernel
theorem dX1_payInOrder_100 : decode cX1_payInOrder 100 = .ok (.goto (-88), 3) := by decide +kernel
theorem dX1_payInOrder_103 : decode cX1_payInOrder 103 = .ok (.return_, 1) := by decide +kernel
theorem dX1_part_0 : decode cX1_part 0 = .ok (.aload_n 0, 1) := by decide +kernel
theorem dX1_part_1 : decode cX1_part 1 = .ok (.getfield 11, 3) := by decide +kernel
theorem dX1_part_4 : decode cX1_part 4 = .ok (.iconst 0, 1) := by decide +kernel
theorem dX1_part_5 : decode cX1_part 5 = .ok (.invokestatic 21, 3) := by decide +kernel
theorem dX1_part_8 : decode cX1_part 8 = .ok (.iload_n 1, 1) := by decide +kernel
theorem dX1_part_9 : decode cX1_part 9 = .ok (.tableswitch 68 4 6 #[27, 35, 49], 27) := by decide +kernel
theorem dX1_part_36 : decode cX1_part 36 = .ok (.aload_n 0, 1) := by decide +kernel
theorem dX1_part_37 : decode cX1_part 37 = .ok (.aload_n 3, 1) := by decide +kernel
theorem dX1_part_38 : decode cX1_part 38 = .ok (.invokevirtual 27, 3) := by decide +kernel
theorem dX1_part_41 : decode cX1_part 41 = .ok (.goto 46, 3) := by decide +kernel
theorem dX1_part_44 : decode cX1_part 44 = .ok (.aload_n 0, 1) := by decide +kernel
theorem dX1_part_45 : decode cX1_part 45 = .ok (.iconst 2, 1) := by decide +kernel
theorem dX1_part_46 : decode cX1_part 46 = .ok (.aload_n 3, 1) := by decide +kernel
theorem dX1_part_47 : decode cX1_part 47 = .ok (.aload_n 0, 1) := by decide +kernel
theorem dX1_part_48 : decode cX1_part 48 = .ok (.aload_n 3, 1) := by decide +kernel
theorem dX1_part_49 : decode cX1_part 49 = .ok (.invokevirtual 31, 3) := by decide +kernel
theorem dX1_part_52 : decode cX1_part 52 = .ok (.invokevirtual 35, 3) := by decide +kernel
theorem dX1_part_55 : decode cX1_part 55 = .ok (.goto 32, 3) := by decide +kernel
theorem dX1_part_58 : decode cX1_part 58 = .ok (.aload_n 0, 1) := by decide +kernel
theorem dX1_part_59 : decode cX1_part 59 = .ok (.iconst 2, 1) := by decide +kernel
theorem dX1_part_60 : decode cX1_part 60 = .ok (.aload_n 3, 1) := by decide +kernel
theorem dX1_part_61 : decode cX1_part 61 = .ok (.iconst 0, 1) := by decide +kernel
theorem dX1_part_62 : decode cX1_part 62 = .ok (.aload_n 3, 1) := by decide +kernel
theorem dX1_part_63 : decode cX1_part 63 = .ok (.invokevirtual 39, 3) := by decide +kernel
theorem dX1_part_66 : decode cX1_part 66 = .ok (.iload_n 2, 1) := by decide +kernel
theorem dX1_part_67 : decode cX1_part 67 = .ok (.isub, 1) := by decide +kernel
theorem dX1_part_68 : decode cX1_part 68 = .ok (.invokestatic 43, 3) := by decide +kernel
theorem dX1_part_71 : decode cX1_part 71 = .ok (.invokevirtual 35, 3) := by decide +kernel
theorem dX1_part_74 : decode cX1_part 74 = .ok (.goto 13, 3) := by decide +kernel
theorem dX1_part_77 : decode cX1_part 77 = .ok (.aload_n 0, 1) := by decide +kernel
theorem dX1_part_78 : decode cX1_part 78 = .ok (.iload_n 1, 1) := by decide +kernel
theorem dX1_part_79 : decode cX1_part 79 = .ok (.aload_n 3, 1) := by decide +kernel
theorem dX1_part_80 : decode cX1_part 80 = .ok (.aload_n 3, 1) := by decide +kernel
theorem dX1_part_81 : decode cX1_part 81 = .ok (.invokevirtual 39, 3) := by decide +kernel
theorem dX1_part_84 : decode cX1_part 84 = .ok (.invokevirtual 35, 3) := by decide +kernel
theorem dX1_part_87 : decode cX1_part 87 = .ok (.return_, 1) := by decide +kernel
theorem dX2_init_0 : decode cX2_init 0 = .ok (.aload_n 0, 1) := by decide +kernel
theorem dX2_init_1 : decode cX2_init 1 = .ok (.invokespecial 3, 3) := by decide +kernel
theorem dX2_init_4 : decode cX2_init 4 = .ok (.aload_n 0, 1) := by decide +kernel
theorem dX2_init_5 : decode cX2_init 5 = .ok (.new 9, 3) := by decide +kernel
theorem dX2_init_8 : decode cX2_init 8 = .ok (.dup, 1) := by decide +kernel
theorem dX2_init_9 : decode cX2_init 9 = .ok (.invokespecial 11, 3) := by decide +kernel
theorem dX2_init_12 : decode cX2_init 12 = .ok (.putfield 12, 3) := by decide +kernel
theorem dX2_init_15 : decode cX2_init 15 = .ok (.aload_n 0, 1) := by decide +kernel
theorem dX2_init_16 : decode cX2_init 16 = .ok (.new 9, 3) := by decide +kernel
theorem dX2_init_19 : decode cX2_init 19 = .ok (.dup, 1) := by decide +kernel
theorem dX2_init_20 : decode cX2_init 20 = .ok (.invokespecial 11, 3) := by decide +kernel
theorem dX2_init_23 : decode cX2_init 23 = .ok (.putfield 18, 3) := by decide +kernel
theorem dX2_init_26 : decode cX2_init 26 = .ok (.aload_n 0, 1) := by decide +kernel
theorem dX2_init_27 : decode cX2_init 27 = .ok (.new 9, 3) := by decide +kernel
theorem dX2_init_30 : decode cX2_init 30 = .ok (.dup, 1) := by decide +kernel
theorem dX2_init_31 : decode cX2_init 31 = .ok (.invokespecial 11, 3) := by decide +kernel
theorem dX2_init_34 : decode cX2_init 34 = .ok (.putfield 21, 3) := by decide +kernel
theorem dX2_init_37 : decode cX2_init 37 = .ok (.aload_n 0, 1) := by decide +kernel
theorem dX2_init_38 : decode cX2_init 38 = .ok (.new 9, 3) := by decide +kernel
theorem dX2_init_41 : decode cX2_init 41 = .ok (.dup, 1) := by decide +kernel
theorem dX2_init_42 : decode cX2_init 42 = .ok (.invokespecial 11, 3) := by decide +kernel
theorem dX2_init_45 : decode cX2_init 45 = .ok (.putfield 24, 3) := by decide +kernel
theorem dX2_init_48 : decode cX2_init 48 = .ok (.aload_n 0, 1) := by decide +kernel
theorem dX2_init_49 : decode cX2_init 49 = .ok (.iconst 3, 1) := by decide +kernel
theorem dX2_init_50 : decode cX2_init 50 = .ok (.bipush 9, 2) := by decide +kernel
theorem dX2_init_52 : decode cX2_init 52 = .ok (.multianewarray 27 2, 4) := by decide +kernel
theorem dX2_init_56 : decode cX2_init 56 = .ok (.putfield 29, 3) := by decide +kernel
theorem dX2_init_59 : decode cX2_init 59 = .ok (.aload_n 0, 1) := by decide +kernel
theorem dX2_init_60 : decode cX2_init 60 = .ok (.iconst 0, 1) := by decide +kernel
theorem dX2_init_61 : decode cX2_init 61 = .ok (.putfield 32, 3) := by decide +kernel
theorem dX2_init_64 : decode cX2_init 64 = .ok (.aload_n 0, 1) := by decide +kernel
theorem dX2_init_65 : decode cX2_init 65 = .ok (.iconst 0, 1) := by decide +kernel
theorem dX2_init_66 : decode cX2_init 66 = .ok (.putfield 36, 3) := by decide +kernel
theorem dX2_init_69 : decode cX2_init 69 = .ok (.aload_n 0, 1) := by decide +kernel
theorem dX2_init_70 : decode cX2_init 70 = .ok (.iconst 0, 1) := by decide +kernel
theorem dX2_init_71 : decode cX2_init 71 = .ok (.putfield 40, 3) := by decide +kernel
theorem dX2_init_74 : decode cX2_init 74 = .ok (.aload_n 0, 1) := by decide +kernel
theorem dX2_init_75 : decode cX2_init 75 = .ok (.bipush 9, 2) := by decide +kernel
theorem dX2_init_77 : decode cX2_init 77 = .ok (.newarray .int, 2) := by decide +kernel
theorem dX2_init_79 : decode cX2_init 79 = .ok (.putfield 43, 3) := by decide +kernel
theorem dX2_init_82 : decode cX2_init 82 = .ok (.return_, 1) := by decide +kernel
theorem dX2_canPlan_0 : decode cX2_canPlan 0 = .ok (.aload_n 0, 1) := by decide +kernel
theorem dX2_canPlan_1 : decode cX2_canPlan 1 = .ok (.invokevirtual 47, 3) := by decide +kernel
theorem dX2_canPlan_4 : decode cX2_canPlan 4 = .ok (.istore_n 2, 1) := by decide +kernel
theorem dX2_canPlan_5 : decode cX2_canPlan 5 = .ok (.iconst 1, 1) := by decide +kernel
theorem dX2_canPlan_6 : decode cX2_canPlan 6 = .ok (.istore_n 3, 1) := by decide +kernel
theorem dX2_canPlan_7 : decode cX2_canPlan 7 = .ok (.iload_n 3, 1) := by decide +kernel
theorem dX2_canPlan_8 : decode cX2_canPlan 8 = .ok (.iload_n 1, 1) := by decide +kernel
theorem dX2_canPlan_9 : decode cX2_canPlan 9 = .ok (.if_icmp .ge 17, 3) := by decide +kernel
theorem dX2_canPlan_12 : decode cX2_canPlan 12 = .ok (.iload_n 2, 1) := by decide +kernel
theorem dX2_canPlan_13 : decode cX2_canPlan 13 = .ok (.aload_n 0, 1) := by decide +kernel
theorem dX2_canPlan_14 : decode cX2_canPlan 14 = .ok (.iload_n 3, 1) := by decide +kernel
theorem dX2_canPlan_15 : decode cX2_canPlan 15 = .ok (.invokevirtual 51, 3) := by decide +kernel
theorem dX2_canPlan_18 : decode cX2_canPlan 18 = .ok (.iadd, 1) := by decide +kernel
theorem dX2_canPlan_19 : decode cX2_canPlan 19 = .ok (.istore_n 2, 1) := by decide +kernel
theorem dX2_canPlan_20 : decode cX2_canPlan 20 = .ok (.iinc 3 1, 3) := by decide +kernel
theorem dX2_canPlan_23 : decode cX2_canPlan 23 = .ok (.goto (-16), 3) := by decide +kernel
theorem dX2_canPlan_26 : decode cX2_canPlan 26 = .ok (.aload_n 0, 1) := by decide +kernel
theorem dX2_canPlan_27 : decode cX2_canPlan 27 = .ok (.invokevirtual 55, 3) := by decide +kernel
theorem dX2_canPlan_30 : decode cX2_canPlan 30 = .ok (.iconst 3, 1) := by decide +kernel
theorem dX2_canPlan_31 : decode cX2_canPlan 31 = .ok (.if_icmp .gt 25, 3) := by decide +kernel
theorem dX2_canPlan_34 : decode cX2_canPlan 34 = .ok (.aload_n 0, 1) := by decide +kernel
theorem dX2_canPlan_35 : decode cX2_canPlan 35 = .ok (.getfield 58, 3) := by decide +kernel
theorem dX2_canPlan_38 : decode cX2_canPlan 38 = .ok (.ifCond .le 18, 3) := by decide +kernel
theorem dX2_canPlan_41 : decode cX2_canPlan 41 = .ok (.iload_n 2, 1) := by decide +kernel
theorem dX2_canPlan_42 : decode cX2_canPlan 42 = .ok (.aload_n 0, 1) := by decide +kernel
theorem dX2_canPlan_43 : decode cX2_canPlan 43 = .ok (.getfield 58, 3) := by decide +kernel
theorem dX2_canPlan_46 : decode cX2_canPlan 46 = .ok (.idiv, 1) := by decide +kernel
theorem dX2_canPlan_47 : decode cX2_canPlan 47 = .ok (.bipush 6, 2) := by decide +kernel
theorem dX2_canPlan_49 : decode cX2_canPlan 49 = .ok (.if_icmp .gt 7, 3) := by decide +kernel
theorem dX2_canPlan_52 : decode cX2_canPlan 52 = .ok (.iconst 1, 1) := by decide +kernel
theorem dX2_canPlan_53 : decode cX2_canPlan 53 = .ok (.goto 4, 3) := by decide +kernel
theorem dX2_canPlan_56 : decode cX2_canPlan 56 = .ok (.iconst 0, 1) := by decide +kernel
theorem dX2_canPlan_57 : decode cX2_canPlan 57 = .ok (.ireturn, 1) := by decide +kernel
theorem dX2_lifeAfter_0 : decode cX2_lifeAfter 0 = .ok (.iload_n 1, 1) := by decide +kernel
theorem dX2_lifeAfter_1 : decode cX2_lifeAfter 1 = .ok (.tableswitch 42 0 2 #[27, 32, 37], 27) := by decide +kernel
theorem dX2_lifeAfter_28 : decode cX2_lifeAfter 28 = .ok (.aload_n 0, 1) := by decide +kernel
theorem dX2_lifeAfter_29 : decode cX2_lifeAfter 29 = .ok (.getfield 12, 3) := by decide +kernel
theorem dX2_lifeAfter_32 : decode cX2_lifeAfter 32 = .ok (.areturn, 1) := by decide +kernel
theorem dX2_lifeAfter_33 : decode cX2_lifeAfter 33 = .ok (.aload_n 0, 1) := by decide +kernel
theorem dX2_lifeAfter_34 : decode cX2_lifeAfter 34 = .ok (.getfield 18, 3) := by decide +kernel
theorem dX2_lifeAfter_37 : decode cX2_lifeAfter 37 = .ok (.areturn, 1) := by decide +kernel
theorem dX2_lifeAfter_38 : decode cX2_lifeAfter 38 = .ok (.aload_n 0, 1) := by decide +kernel
theorem dX2_lifeAfter_39 : decode cX2_lifeAfter 39 = .ok (.getfield 21, 3) := by decide +kernel
theorem dX2_lifeAfter_42 : decode cX2_lifeAfter 42 = .ok (.areturn, 1) := by decide +kernel
theorem dX2_lifeAfter_43 : decode cX2_lifeAfter 43 = .ok (.aload_n 0, 1) := by decide +kernel
theorem dX2_lifeAfter_44 : decode cX2_lifeAfter 44 = .ok (.getfield 24, 3) := by decide +kernel
theorem dX2_lifeAfter_47 : decode cX2_lifeAfter 47 = .ok (.areturn, 1) := by decide +kernel
theorem dX2_tryPayments_0 : decode cX2_tryPayments 0 = .ok (.aload_n 0, 1) := by decide +kernel
theorem dX2_tryPayments_1 : decode cX2_tryPayments 1 = .ok (.iload_n 1, 1) := by decide +kernel
theorem dX2_tryPayments_2 : decode cX2_tryPayments 2 = .ok (.invokevirtual 72, 3) := by decide +kernel
theorem dX2_tryPayments_5 : decode cX2_tryPayments 5 = .ok (.astore 4, 2) := by decide +kernel
theorem dX2_tryPayments_7 : decode cX2_tryPayments 7 = .ok (.aload 4, 2) := by decide +kernel
theorem dX2_tryPayments_9 : decode cX2_tryPayments 9 = .ok (.getfield 86, 3) := by decide +kernel
theorem dX2_tryPayments_12 : decode cX2_tryPayments 12 = .ok (.iload_n 2, 1) := by decide +kernel
theorem dX2_tryPayments_13 : decode cX2_tryPayments 13 = .ok (.aaload, 1) := by decide +kernel
theorem dX2_tryPayments_14 : decode cX2_tryPayments 14 = .ok (.iconst 1, 1) := by decide +kernel
theorem dX2_tryPayments_15 : decode cX2_tryPayments 15 = .ok (.iaload, 1) := by decide +kernel
theorem dX2_tryPayments_16 : decode cX2_tryPayments 16 = .ok (.istore 5, 2) := by decide +kernel
theorem dX2_tryPayments_18 : decode cX2_tryPayments 18 = .ok (.iload 5, 2) := by decide +kernel
theorem dX2_tryPayments_20 : decode cX2_tryPayments 20 = .ok (.iload_n 3, 1) := by decide +kernel
theorem dX2_tryPayments_21 : decode cX2_tryPayments 21 = .ok (.invokestatic 89, 3) := by decide +kernel
theorem dX2_tryPayments_24 : decode cX2_tryPayments 24 = .ok (.istore 6, 2) := by decide +kernel
theorem dX2_tryPayments_26 : decode cX2_tryPayments 26 = .ok (.iconst 1, 1) := by decide +kernel
theorem dX2_tryPayments_27 : decode cX2_tryPayments 27 = .ok (.aload 4, 2) := by decide +kernel
theorem dX2_tryPayments_29 : decode cX2_tryPayments 29 = .ok (.getfield 58, 3) := by decide +kernel
theorem dX2_tryPayments_32 : decode cX2_tryPayments 32 = .ok (.invokestatic 95, 3) := by decide +kernel
theorem dX2_tryPayments_35 : decode cX2_tryPayments 35 = .ok (.istore 7, 2) := by decide +kernel
theorem dX2_tryPayments_37 : decode cX2_tryPayments 37 = .ok (.iconst 0, 1) := by decide +kernel
theorem dX2_tryPayments_38 : decode cX2_tryPayments 38 = .ok (.istore 8, 2) := by decide +kernel
theorem dX2_tryPayments_40 : decode cX2_tryPayments 40 = .ok (.iload 8, 2) := by decide +kernel
theorem dX2_tryPayments_42 : decode cX2_tryPayments 42 = .ok (.iload 6, 2) := by decide +kernel
theorem dX2_tryPayments_44 : decode cX2_tryPayments 44 = .ok (.if_icmp .gt 35, 3) := by decide +kernel
theorem dX2_tryPayments_47 : decode cX2_tryPayments 47 = .ok (.aload_n 0, 1) := by decide +kernel
theorem dX2_tryPayments_48 : decode cX2_tryPayments 48 = .ok (.getfield 29, 3) := by decide +kernel
theorem dX2_tryPayments_51 : decode cX2_tryPayments 51 = .ok (.iload_n 1, 1) := by decide +kernel
theorem dX2_tryPayments_52 : decode cX2_tryPayments 52 = .ok (.aaload, 1) := by decide +kernel
theorem dX2_tryPayments_53 : decode cX2_tryPayments 53 = .ok (.iload_n 2, 1) := by decide +kernel
theorem dX2_tryPayments_54 : decode cX2_tryPayments 54 = .ok (.iload 8, 2) := by decide +kernel
theorem dX2_tryPayments_56 : decode cX2_tryPayments 56 = .ok (.iastore, 1) := by decide +kernel
theorem dX2_tryPayments_57 : decode cX2_tryPayments 57 = .ok (.aload_n 0, 1) := by decide +kernel
theorem dX2_tryPayments_58 : decode cX2_tryPayments 58 = .ok (.iload_n 1, 1) := by decide +kernel
theorem dX2_tryPayments_59 : decode cX2_tryPayments 59 = .ok (.iload_n 2, 1) := by decide +kernel
theorem dX2_tryPayments_60 : decode cX2_tryPayments 60 = .ok (.iconst 1, 1) := by decide +kernel
theorem dX2_tryPayments_61 : decode cX2_tryPayments 61 = .ok (.iadd, 1) := by decide +kernel
theorem dX2_tryPayments_62 : decode cX2_tryPayments 62 = .ok (.iload_n 3, 1) := by decide +kernel
theorem dX2_tryPayments_63 : decode cX2_tryPayments 63 = .ok (.iload 8, 2) := by decide +kernel
theorem dX2_tryPayments_65 : decode cX2_tryPayments 65 = .ok (.isub, 1) := by decide +kernel
theorem dX2_tryPayments_66 : decode cX2_tryPayments 66 = .ok (.invokevirtual 68, 3) := by decide +kernel
theorem dX2_tryPayments_69 : decode cX2_tryPayments 69 = .ok (.iload 8, 2) := by decide +kernel
theorem dX2_tryPayments_71 : decode cX2_tryPayments 71 = .ok (.iload 7, 2) := by decide +kernel
theorem dX2_tryPayments_73 : decode cX2_tryPayments 73 = .ok (.iadd, 1) := by decide +kernel
theorem dX2_tryPayments_74 : decode cX2_tryPayments 74 = .ok (.istore 8, 2) := by decide +kernel
theorem dX2_tryPayments_76 : decode cX2_tryPayments 76 = .ok (.goto (-36), 3) := by decide +kernel
theorem dX2_tryPayments_79 : decode cX2_tryPayments 79 = .ok (.iload 5, 2) := by decide +kernel
theorem dX2_tryPayments_81 : decode cX2_tryPayments 81 = .ok (.iload_n 3, 1) := by decide +kernel
theorem dX2_tryPayments_82 : decode cX2_tryPayments 82 = .ok (.if_icmp .gt 33, 3) := by decide +kernel
theorem dX2_tryPayments_85 : decode cX2_tryPayments 85 = .ok (.iload 5, 2) := by decide +kernel
theorem dX2_tryPayments_87 : decode cX2_tryPayments 87 = .ok (.iload 7, 2) := by decide +kernel
theorem dX2_tryPayments_89 : decode cX2_tryPayments 89 = .ok (.irem, 1) := by decide +kernel
theorem dX2_tryPayments_90 : decode cX2_tryPayments 90 = .ok (.ifCond .eq 25, 3) := by decide +kernel
theorem dX2_tryPayments_93 : decode cX2_tryPayments 93 = .ok (.aload_n 0, 1) := by decide +kernel
theorem dX2_tryPayments_94 : decode cX2_tryPayments 94 = .ok (.getfield 29, 3) := by decide +kernel
theorem dX2_tryPayments_97 : decode cX2_tryPayments 97 = .ok (.iload_n 1, 1) := by decide +kernel
theorem dX2_tryPayments_98 : decode cX2_tryPayments 98 = .ok (.aaload, 1) := by decide +kernel
theorem dX2_tryPayments_99 : decode cX2_tryPayments 99 = .ok (.iload_n 2, 1) := by decide +kernel
theorem dX2_tryPayments_100 : decode cX2_tryPayments 100 = .ok (.iload 5, 2) := by decide +kernel
theorem dX2_tryPayments_102 : decode cX2_tryPayments 102 = .ok (.iastore, 1) := by decide +kernel
theorem dX2_tryPayments_103 : decode cX2_tryPayments 103 = .ok (.aload_n 0, 1) := by decide +kernel
theorem dX2_tryPayments_104 : decode cX2_tryPayments 104 = .ok (.iload_n 1, 1) := by decide +kernel
theorem dX2_tryPayments_105 : decode cX2_tryPayments 105 = .ok (.iload_n 2, 1) := by decide +kernel
theorem dX2_tryPayments_106 : decode cX2_tryPayments 106 = .ok (.iconst 1, 1) := by decide +kernel
theorem dX2_tryPayments_107 : decode cX2_tryPayments 107 = .ok (.iadd, 1) := by decide +kernel
theorem dX2_tryPayments_108 : decode cX2_tryPayments 108 = .ok (.iload_n 3, 1) := by decide +kernel
theorem dX2_tryPayments_109 : decode cX2_tryPayments 109 = .ok (.iload 5, 2) := by decide +kernel
theorem dX2_tryPayments_111 : decode cX2_tryPayments 111 = .ok (.isub, 1) := by decide +kernel
theorem dX2_tryPayments_112 : decode cX2_tryPayments 112 = .ok (.invokevirtual 68, 3) := by decide +kernel
theorem dX2_tryPayments_115 : decode cX2_tryPayments 115 = .ok (.return_, 1) := by decide +kernel
theorem dX2_goOn_0 : decode cX2_goOn 0 = .ok (.iload_n 2, 1) := by decide +kernel
theorem dX2_goOn_1 : decode cX2_goOn 1 = .ok (.aload_n 0, 1) := by decide +kernel
theorem dX2_goOn_2 : decode cX2_goOn 2 = .ok (.iload_n 1, 1) := by decide +kernel
theorem dX2_goOn_3 : decode cX2_goOn 3 = .ok (.invokevirtual 72, 3) := by decide +kernel
theorem dX2_goOn_6 : decode cX2_goOn 6 = .ok (.getfield 76, 3) := by decide +kernel
theorem dX2_goOn_9 : decode cX2_goOn 9 = .ok (.if_icmp .ge 13, 3) := by decide +kernel
theorem dX2_goOn_12 : decode cX2_goOn 12 = .ok (.aload_n 0, 1) := by decide +kernel
theorem dX2_goOn_13 : decode cX2_goOn 13 = .ok (.iload_n 1, 1) := by decide +kernel
theorem dX2_goOn_14 : decode cX2_goOn 14 = .ok (.iload_n 2, 1) := by decide +kernel
theorem dX2_goOn_15 : decode cX2_goOn 15 = .ok (.iload_n 3, 1) := by decide +kernel
theorem dX2_goOn_16 : decode cX2_goOn 16 = .ok (.invokevirtual 79, 3) := by decide +kernel
theorem dX2_goOn_19 : decode cX2_goOn 19 = .ok (.goto 8, 3) := by decide +kernel
theorem dX2_goOn_22 : decode cX2_goOn 22 = .ok (.aload_n 0, 1) := by decide +kernel
theorem dX2_goOn_23 : decode cX2_goOn 23 = .ok (.iload_n 1, 1) := by decide +kernel
theorem dX2_goOn_24 : decode cX2_goOn 24 = .ok (.invokevirtual 82, 3) := by decide +kernel
theorem dX2_goOn_27 : decode cX2_goOn 27 = .ok (.return_, 1) := by decide +kernel
theorem dX2_weigh_0 : decode cX2_weigh 0 = .ok (.aload_n 1, 1) := by decide +kernel
theorem dX2_weigh_1 : decode cX2_weigh 1 = .ok (.getfield 65, 3) := by decide +kernel
theorem dX2_weigh_4 : decode cX2_weigh 4 = .ok (.aload_n 1, 1) := by decide +kernel
theorem dX2_weigh_5 : decode cX2_weigh 5 = .ok (.invokevirtual 105, 3) := by decide +kernel
theorem dX2_weigh_8 : decode cX2_weigh 8 = .ok (.iadd, 1) := by decide +kernel
theorem dX2_weigh_9 : decode cX2_weigh 9 = .ok (.istore_n 2, 1) := by decide +kernel
theorem dX2_weigh_10 : decode cX2_weigh 10 = .ok (.aload_n 0, 1) := by decide +kernel
theorem dX2_weigh_11 : decode cX2_weigh 11 = .ok (.getfield 36, 3) := by decide +kernel
theorem dX2_weigh_14 : decode cX2_weigh 14 = .ok (.ifCond .eq 11, 3) := by decide +kernel
theorem dX2_weigh_17 : decode cX2_weigh 17 = .ok (.iload_n 2, 1) := by decide +kernel
theorem dX2_weigh_18 : decode cX2_weigh 18 = .ok (.aload_n 0, 1) := by decide +kernel
theorem dX2_weigh_19 : decode cX2_weigh 19 = .ok (.getfield 40, 3) := by decide +kernel
theorem dX2_weigh_22 : decode cX2_weigh 22 = .ok (.if_icmp .ge 33, 3) := by decide +kernel
theorem dX2_weigh_25 : decode cX2_weigh 25 = .ok (.aload_n 0, 1) := by decide +kernel
theorem dX2_weigh_26 : decode cX2_weigh 26 = .ok (.iconst 1, 1) := by decide +kernel
theorem dX2_weigh_27 : decode cX2_weigh 27 = .ok (.putfield 36, 3) := by decide +kernel
theorem dX2_weigh_30 : decode cX2_weigh 30 = .ok (.aload_n 0, 1) := by decide +kernel
theorem dX2_weigh_31 : decode cX2_weigh 31 = .ok (.iload_n 2, 1) := by decide +kernel
theorem dX2_weigh_32 : decode cX2_weigh 32 = .ok (.putfield 40, 3) := by decide +kernel
theorem dX2_weigh_35 : decode cX2_weigh 35 = .ok (.aload_n 0, 1) := by decide +kernel
theorem dX2_weigh_36 : decode cX2_weigh 36 = .ok (.getfield 29, 3) := by decide +kernel
theorem dX2_weigh_39 : decode cX2_weigh 39 = .ok (.iconst 0, 1) := by decide +kernel
theorem dX2_weigh_40 : decode cX2_weigh 40 = .ok (.aaload, 1) := by decide +kernel
theorem dX2_weigh_41 : decode cX2_weigh 41 = .ok (.iconst 0, 1) := by decide +kernel
theorem dX2_weigh_42 : decode cX2_weigh 42 = .ok (.aload_n 0, 1) := by decide +kernel
theorem dX2_weigh_43 : decode cX2_weigh 43 = .ok (.getfield 43, 3) := by decide +kernel
theorem dX2_weigh_46 : decode cX2_weigh 46 = .ok (.iconst 0, 1) := by decide +kernel
theorem dX2_weigh_47 : decode cX2_weigh 47 = .ok (.aload_n 0, 1) := by decide +kernel
theorem dX2_weigh_48 : decode cX2_weigh 48 = .ok (.getfield 43, 3) := by decide +kernel
theorem dX2_weigh_51 : decode cX2_weigh 51 = .ok (.arraylength, 1) := by decide +kernel
theorem dX2_weigh_52 : decode cX2_weigh 52 = .ok (.invokestatic 108, 3) := by decide +kernel
theorem dX2_weigh_55 : decode cX2_weigh 55 = .ok (.return_, 1) := by decide +kernel
theorem dX2_endWeek_0 : decode cX2_endWeek 0 = .ok (.aload_n 0, 1) := by decide +kernel
theorem dX2_endWeek_1 : decode cX2_endWeek 1 = .ok (.iload_n 1, 1) := by decide +kernel
theorem dX2_endWeek_2 : decode cX2_endWeek 2 = .ok (.iconst 1, 1) := by decide +kernel
theorem dX2_endWeek_3 : decode cX2_endWeek 3 = .ok (.iadd, 1) := by decide +kernel
theorem dX2_endWeek_4 : decode cX2_endWeek 4 = .ok (.invokevirtual 72, 3) := by decide +kernel
theorem dX2_endWeek_7 : decode cX2_endWeek 7 = .ok (.astore_n 2, 1) := by decide +kernel
theorem dX2_endWeek_8 : decode cX2_endWeek 8 = .ok (.aload_n 2, 1) := by decide +kernel
theorem dX2_endWeek_9 : decode cX2_endWeek 9 = .ok (.aload_n 0, 1) := by decide +kernel
theorem dX2_endWeek_10 : decode cX2_endWeek 10 = .ok (.iload_n 1, 1) := by decide +kernel
theorem dX2_endWeek_11 : decode cX2_endWeek 11 = .ok (.invokevirtual 72, 3) := by decide +kernel
theorem dX2_endWeek_14 : decode cX2_endWeek 14 = .ok (.invokevirtual 61, 3) := by decide +kernel
theorem dX2_endWeek_17 : decode cX2_endWeek 17 = .ok (.aload_n 2, 1) := by decide +kernel
theorem dX2_endWeek_18 : decode cX2_endWeek 18 = .ok (.aload_n 0, 1) := by decide +kernel
theorem dX2_endWeek_19 : decode cX2_endWeek 19 = .ok (.getfield 29, 3) := by decide +kernel
theorem dX2_endWeek_22 : decode cX2_endWeek 22 = .ok (.iload_n 1, 1) := by decide +kernel
theorem dX2_endWeek_23 : decode cX2_endWeek 23 = .ok (.aaload, 1) := by decide +kernel
theorem dX2_endWeek_24 : decode cX2_endWeek 24 = .ok (.iconst 0, 1) := by decide +kernel
theorem dX2_endWeek_25 : decode cX2_endWeek 25 = .ok (.invokevirtual 98, 3) := by decide +kernel
theorem dX2_endWeek_28 : decode cX2_endWeek 28 = .ok (.pop, 1) := by decide +kernel
theorem dX2_endWeek_29 : decode cX2_endWeek 29 = .ok (.iload_n 1, 1) := by decide +kernel
theorem dX2_endWeek_30 : decode cX2_endWeek 30 = .ok (.iconst 1, 1) := by decide +kernel
theorem dX2_endWeek_31 : decode cX2_endWeek 31 = .ok (.iadd, 1) := by decide +kernel
theorem dX2_endWeek_32 : decode cX2_endWeek 32 = .ok (.aload_n 0, 1) := by decide +kernel
theorem dX2_endWeek_33 : decode cX2_endWeek 33 = .ok (.getfield 32, 3) := by decide +kernel
theorem dX2_endWeek_36 : decode cX2_endWeek 36 = .ok (.if_icmp .ge 25, 3) := by decide +kernel
theorem dX2_endWeek_39 : decode cX2_endWeek 39 = .ok (.iload_n 1, 1) := by decide +kernel
theorem dX2_endWeek_40 : decode cX2_endWeek 40 = .ok (.iconst 1, 1) := by decide +kernel
theorem dX2_endWeek_41 : decode cX2_endWeek 41 = .ok (.iadd, 1) := by decide +kernel
theorem dX2_endWeek_42 : decode cX2_endWeek 42 = .ok (.iconst 3, 1) := by decide +kernel
theorem dX2_endWeek_43 : decode cX2_endWeek 43 = .ok (.if_icmp .ge 18, 3) := by decide +kernel
theorem dX2_endWeek_46 : decode cX2_endWeek 46 = .ok (.aload_n 0, 1) := by decide +kernel
theorem dX2_endWeek_47 : decode cX2_endWeek 47 = .ok (.iload_n 1, 1) := by decide +kernel
theorem dX2_endWeek_48 : decode cX2_endWeek 48 = .ok (.iconst 1, 1) := by decide +kernel
theorem dX2_endWeek_49 : decode cX2_endWeek 49 = .ok (.iadd, 1) := by decide +kernel
theorem dX2_endWeek_50 : decode cX2_endWeek 50 = .ok (.iconst 0, 1) := by decide +kernel
theorem dX2_endWeek_51 : decode cX2_endWeek 51 = .ok (.aload_n 2, 1) := by decide +kernel
theorem dX2_endWeek_52 : decode cX2_endWeek 52 = .ok (.invokevirtual 47, 3) := by decide +kernel
theorem dX2_endWeek_55 : decode cX2_endWeek 55 = .ok (.invokevirtual 68, 3) := by decide +kernel
theorem dX2_endWeek_58 : decode cX2_endWeek 58 = .ok (.goto 8, 3) := by decide +kernel
theorem dX2_endWeek_61 : decode cX2_endWeek 61 = .ok (.aload_n 0, 1) := by decide +kernel
theorem dX2_endWeek_62 : decode cX2_endWeek 62 = .ok (.aload_n 2, 1) := by decide +kernel
theorem dX2_endWeek_63 : decode cX2_endWeek 63 = .ok (.invokevirtual 102, 3) := by decide +kernel
theorem dX2_endWeek_66 : decode cX2_endWeek 66 = .ok (.return_, 1) := by decide +kernel
theorem dX2_find_0 : decode cX2_find 0 = .ok (.aload_n 0, 1) := by decide +kernel
theorem dX2_find_1 : decode cX2_find 1 = .ok (.getfield 12, 3) := by decide +kernel
theorem dX2_find_4 : decode cX2_find 4 = .ok (.aload_n 1, 1) := by decide +kernel
theorem dX2_find_5 : decode cX2_find 5 = .ok (.invokevirtual 61, 3) := by decide +kernel
theorem dX2_find_8 : decode cX2_find 8 = .ok (.aload_n 0, 1) := by decide +kernel
theorem dX2_find_9 : decode cX2_find 9 = .ok (.getfield 12, 3) := by decide +kernel
theorem dX2_find_12 : decode cX2_find 12 = .ok (.iconst 0, 1) := by decide +kernel
theorem dX2_find_13 : decode cX2_find 13 = .ok (.putfield 65, 3) := by decide +kernel
theorem dX2_find_16 : decode cX2_find 16 = .ok (.aload_n 0, 1) := by decide +kernel
theorem dX2_find_17 : decode cX2_find 17 = .ok (.iload_n 2, 1) := by decide +kernel
theorem dX2_find_18 : decode cX2_find 18 = .ok (.putfield 32, 3) := by decide +kernel
theorem dX2_find_21 : decode cX2_find 21 = .ok (.aload_n 0, 1) := by decide +kernel
theorem dX2_find_22 : decode cX2_find 22 = .ok (.iconst 0, 1) := by decide +kernel
theorem dX2_find_23 : decode cX2_find 23 = .ok (.putfield 36, 3) := by decide +kernel
theorem dX2_find_26 : decode cX2_find 26 = .ok (.aload_n 0, 1) := by decide +kernel
theorem dX2_find_27 : decode cX2_find 27 = .ok (.iconst 0, 1) := by decide +kernel
theorem dX2_find_28 : decode cX2_find 28 = .ok (.iconst 0, 1) := by decide +kernel
theorem dX2_find_29 : decode cX2_find 29 = .ok (.aload_n 0, 1) := by decide +kernel
theorem dX2_find_30 : decode cX2_find 30 = .ok (.getfield 12, 3) := by decide +kernel
theorem dX2_find_33 : decode cX2_find 33 = .ok (.invokevirtual 47, 3) := by decide +kernel
theorem dX2_find_36 : decode cX2_find 36 = .ok (.invokevirtual 68, 3) := by decide +kernel
theorem dX2_find_39 : decode cX2_find 39 = .ok (.return_, 1) := by decide +kernel
theorem dX3_init_0 : decode cX3_init 0 = .ok (.aload_n 0, 1) := by decide +kernel
theorem dX3_init_1 : decode cX3_init 1 = .ok (.invokespecial 3, 3) := by decide +kernel
theorem dX3_init_4 : decode cX3_init 4 = .ok (.aload_n 0, 1) := by decide +kernel
theorem dX3_init_5 : decode cX3_init 5 = .ok (.bipush 8, 2) := by decide +kernel
theorem dX3_init_7 : decode cX3_init 7 = .ok (.newarray .int, 2) := by decide +kernel
theorem dX3_init_9 : decode cX3_init 9 = .ok (.putfield 11, 3) := by decide +kernel
theorem dX3_init_12 : decode cX3_init 12 = .ok (.aload_n 0, 1) := by decide +kernel
theorem dX3_init_13 : decode cX3_init 13 = .ok (.bipush 8, 2) := by decide +kernel
theorem dX3_init_15 : decode cX3_init 15 = .ok (.newarray .int, 2) := by decide +kernel
theorem dX3_init_17 : decode cX3_init 17 = .ok (.putfield 15, 3) := by decide +kernel
theorem dX3_init_20 : decode cX3_init 20 = .ok (.aload_n 0, 1) := by decide +kernel
theorem dX3_init_21 : decode cX3_init 21 = .ok (.bipush 8, 2) := by decide +kernel
theorem dX3_init_23 : decode cX3_init 23 = .ok (.bipush 40, 2) := by decide +kernel
theorem dX3_init_25 : decode cX3_init 25 = .ok (.multianewarray 18 2, 4) := by decide +kernel
theorem dX3_init_29 : decode cX3_init 29 = .ok (.putfield 20, 3) := by decide +kernel
theorem dX3_init_32 : decode cX3_init 32 = .ok (.aload_n 0, 1) := by decide +kernel
theorem dX3_init_33 : decode cX3_init 33 = .ok (.getfield 11, 3) := by decide +kernel
theorem dX3_init_36 : decode cX3_init 36 = .ok (.iconst (-1), 1) := by decide +kernel
theorem dX3_init_37 : decode cX3_init 37 = .ok (.invokestatic 23, 3) := by decide +kernel
theorem dX3_init_40 : decode cX3_init 40 = .ok (.return_, 1) := by decide +kernel
theorem dX3_isShelf_0 : decode cX3_isShelf 0 = .ok (.iload_n 0, 1) := by decide +kernel
theorem dX3_isShelf_1 : decode cX3_isShelf 1 = .ok (.ifCond .lt 13, 3) := by decide +kernel
theorem dX3_isShelf_4 : decode cX3_isShelf 4 = .ok (.iload_n 0, 1) := by decide +kernel
theorem dX3_isShelf_5 : decode cX3_isShelf 5 = .ok (.bipush 8, 2) := by decide +kernel
theorem dX3_isShelf_7 : decode cX3_isShelf 7 = .ok (.if_icmp .ge 7, 3) := by decide +kernel
theorem dX3_isShelf_10 : decode cX3_isShelf 10 = .ok (.iconst 1, 1) := by decide +kernel
theorem dX3_isShelf_11 : decode cX3_isShelf 11 = .ok (.goto 4, 3) := by decide +kernel
theorem dX3_isShelf_14 : decode cX3_isShelf 14 = .ok (.iconst 0, 1) := by decide +kernel
theorem dX3_isShelf_15 : decode cX3_isShelf 15 = .ok (.ireturn, 1) := by decide +kernel
theorem dX3_thing_0 : decode cX3_thing 0 = .ok (.iload_n 1, 1) := by decide +kernel
theorem dX3_thing_1 : decode cX3_thing 1 = .ok (.invokestatic 29, 3) := by decide +kernel
theorem dX3_thing_4 : decode cX3_thing 4 = .ok (.ifCond .eq 12, 3) := by decide +kernel
theorem dX3_thing_7 : decode cX3_thing 7 = .ok (.aload_n 0, 1) := by decide +kernel
theorem dX3_thing_8 : decode cX3_thing 8 = .ok (.getfield 11, 3) := by decide +kernel
theorem dX3_thing_11 : decode cX3_thing 11 = .ok (.iload_n 1, 1) := by decide +kernel
theorem dX3_thing_12 : decode cX3_thing 12 = .ok (.iaload, 1) := by decide +kernel
theorem dX3_thing_13 : decode cX3_thing 13 = .ok (.goto 4, 3) := by decide +kernel
theorem dX3_thing_16 : decode cX3_thing 16 = .ok (.iconst (-1), 1) := by decide +kernel
theorem dX3_thing_17 : decode cX3_thing 17 = .ok (.ireturn, 1) := by decide +kernel
theorem dX3_isRow_0 : decode cX3_isRow 0 = .ok (.aload_n 0, 1) := by decide +kernel
theorem dX3_isRow_1 : decode cX3_isRow 1 = .ok (.iload_n 1, 1) := by decide +kernel
theorem dX3_isRow_2 : decode cX3_isRow 2 = .ok (.invokevirtual 33, 3) := by decide +kernel
theorem dX3_isRow_5 : decode cX3_isRow 5 = .ok (.ifCond .lt 17, 3) := by decide +kernel
theorem dX3_isRow_8 : decode cX3_isRow 8 = .ok (.aload_n 0, 1) := by decide +kernel
theorem dX3_isRow_9 : decode cX3_isRow 9 = .ok (.iload_n 1, 1) := by decide +kernel
theorem dX3_isRow_10 : decode cX3_isRow 10 = .ok (.invokevirtual 33, 3) := by decide +kernel
theorem dX3_isRow_13 : decode cX3_isRow 13 = .ok (.bipush 10, 2) := by decide +kernel
theorem dX3_isRow_15 : decode cX3_isRow 15 = .ok (.if_icmp .ge 7, 3) := by decide +kernel
theorem dX3_isRow_18 : decode cX3_isRow 18 = .ok (.iconst 1, 1) := by decide +kernel
theorem dX3_isRow_19 : decode cX3_isRow 19 = .ok (.goto 4, 3) := by decide +kernel
theorem dX3_isRow_22 : decode cX3_isRow 22 = .ok (.iconst 0, 1) := by decide +kernel
theorem dX3_isRow_23 : decode cX3_isRow 23 = .ok (.ireturn, 1) := by decide +kernel
theorem dX3_hasCell_0 : decode cX3_hasCell 0 = .ok (.aload_n 0, 1) := by decide +kernel
theorem dX3_hasCell_1 : decode cX3_hasCell 1 = .ok (.iload_n 1, 1) := by decide +kernel
theorem dX3_hasCell_2 : decode cX3_hasCell 2 = .ok (.invokevirtual 40, 3) := by decide +kernel
theorem dX3_hasCell_5 : decode cX3_hasCell 5 = .ok (.ifCond .eq 21, 3) := by decide +kernel
theorem dX3_hasCell_8 : decode cX3_hasCell 8 = .ok (.iload_n 2, 1) := by decide +kernel
theorem dX3_hasCell_9 : decode cX3_hasCell 9 = .ok (.ifCond .lt 17, 3) := by decide +kernel
theorem dX3_hasCell_12 : decode cX3_hasCell 12 = .ok (.iload_n 2, 1) := by decide +kernel
theorem dX3_hasCell_13 : decode cX3_hasCell 13 = .ok (.aload_n 0, 1) := by decide +kernel
theorem dX3_hasCell_14 : decode cX3_hasCell 14 = .ok (.getfield 15, 3) := by decide +kernel
theorem dX3_hasCell_17 : decode cX3_hasCell 17 = .ok (.iload_n 1, 1) := by decide +kernel
theorem dX3_hasCell_18 : decode cX3_hasCell 18 = .ok (.iaload, 1) := by decide +kernel
theorem dX3_hasCell_19 : decode cX3_hasCell 19 = .ok (.if_icmp .ge 7, 3) := by decide +kernel
theorem dX3_hasCell_22 : decode cX3_hasCell 22 = .ok (.iconst 1, 1) := by decide +kernel
theorem dX3_hasCell_23 : decode cX3_hasCell 23 = .ok (.goto 4, 3) := by decide +kernel
theorem dX3_hasCell_26 : decode cX3_hasCell 26 = .ok (.iconst 0, 1) := by decide +kernel
theorem dX3_hasCell_27 : decode cX3_hasCell 27 = .ok (.ireturn, 1) := by decide +kernel
theorem dX3_cell_0 : decode cX3_cell 0 = .ok (.aload_n 0, 1) := by decide +kernel
theorem dX3_cell_1 : decode cX3_cell 1 = .ok (.iload_n 1, 1) := by decide +kernel
theorem dX3_cell_2 : decode cX3_cell 2 = .ok (.iload_n 2, 1) := by decide +kernel
theorem dX3_cell_3 : decode cX3_cell 3 = .ok (.invokevirtual 46, 3) := by decide +kernel
theorem dX3_cell_6 : decode cX3_cell 6 = .ok (.ifCond .eq 14, 3) := by decide +kernel
theorem dX3_cell_9 : decode cX3_cell 9 = .ok (.aload_n 0, 1) := by decide +kernel
theorem dX3_cell_10 : decode cX3_cell 10 = .ok (.getfield 20, 3) := by decide +kernel
theorem dX3_cell_13 : decode cX3_cell 13 = .ok (.iload_n 1, 1) := by decide +kernel
theorem dX3_cell_14 : decode cX3_cell 14 = .ok (.aaload, 1) := by decide +kernel
theorem dX3_cell_15 : decode cX3_cell 15 = .ok (.iload_n 2, 1) := by decide +kernel
theorem dX3_cell_16 : decode cX3_cell 16 = .ok (.laload, 1) := by decide +kernel
theorem dX3_cell_17 : decode cX3_cell 17 = .ok (.goto 4, 3) := by decide +kernel
theorem dX3_cell_20 : decode cX3_cell 20 = .ok (.lconst 0, 1) := by decide +kernel
theorem dX3_cell_21 : decode cX3_cell 21 = .ok (.lreturn, 1) := by decide +kernel
theorem dX3_isRule_0 : decode cX3_isRule 0 = .ok (.aload_n 0, 1) := by decide +kernel
theorem dX3_isRule_1 : decode cX3_isRule 1 = .ok (.iload_n 1, 1) := by decide +kernel
theorem dX3_isRule_2 : decode cX3_isRule 2 = .ok (.invokevirtual 33, 3) := by decide +kernel
theorem dX3_isRule_5 : decode cX3_isRule 5 = .ok (.bipush 10, 2) := by decide +kernel
theorem dX3_isRule_7 : decode cX3_isRule 7 = .ok (.if_icmp .lt 7, 3) := by decide +kernel
theorem dX3_isRule_10 : decode cX3_isRule 10 = .ok (.iconst 1, 1) := by decide +kernel
theorem dX3_isRule_11 : decode cX3_isRule 11 = .ok (.goto 4, 3) := by decide +kernel
theorem dX3_isRule_14 : decode cX3_isRule 14 = .ok (.iconst 0, 1) := by decide +kernel
theorem dX3_isRule_15 : decode cX3_isRule 15 = .ok (.ireturn, 1) := by decide +kernel
theorem dX3_copyTrouble_0 : decode cX3_copyTrouble 0 = .ok (.iload_n 1, 1) := by decide +kernel
theorem dX3_copyTrouble_1 : decode cX3_copyTrouble 1 = .ok (.invokestatic 29, 3) := by decide +kernel
theorem dX3_copyTrouble_4 : decode cX3_copyTrouble 4 = .ok (.ifCond .eq 10, 3) := by decide +kernel
theorem dX3_copyTrouble_7 : decode cX3_copyTrouble 7 = .ok (.iload_n 2, 1) := by decide +kernel
theorem dX3_copyTrouble_8 : decode cX3_copyTrouble 8 = .ok (.invokestatic 29, 3) := by decide +kernel
theorem dX3_copyTrouble_11 : decode cX3_copyTrouble 11 = .ok (.ifCond .ne 6, 3) := by decide +kernel
theorem dX3_copyTrouble_14 : decode cX3_copyTrouble 14 = .ok (.bipush (-2), 2) := by decide +kernel
theorem dX3_copyTrouble_16 : decode cX3_copyTrouble 16 = .ok (.ireturn, 1) := by decide +kernel
theorem dX3_copyTrouble_17 : decode cX3_copyTrouble 17 = .ok (.aload_n 0, 1) := by decide +kernel
theorem dX3_copyTrouble_18 : decode cX3_copyTrouble 18 = .ok (.getfield 11, 3) := by decide +kernel
theorem dX3_copyTrouble_21 : decode cX3_copyTrouble 21 = .ok (.iload_n 1, 1) := by decide +kernel
theorem dX3_copyTrouble_22 : decode cX3_copyTrouble 22 = .ok (.iaload, 1) := by decide +kernel
theorem dX3_copyTrouble_23 : decode cX3_copyTrouble 23 = .ok (.iconst (-1), 1) := by decide +kernel
theorem dX3_copyTrouble_24 : decode cX3_copyTrouble 24 = .ok (.if_icmp .eq 17, 3) := by decide +kernel
theorem dX3_copyTrouble_27 : decode cX3_copyTrouble 27 = .ok (.aload_n 0, 1) := by decide +kernel
theorem dX3_copyTrouble_28 : decode cX3_copyTrouble 28 = .ok (.getfield 11, 3) := by decide +kernel
theorem dX3_copyTrouble_31 : decode cX3_copyTrouble 31 = .ok (.iload_n 2, 1) := by decide +kernel
theorem dX3_copyTrouble_32 : decode cX3_copyTrouble 32 = .ok (.iaload, 1) := by decide +kernel
theorem dX3_copyTrouble_33 : decode cX3_copyTrouble 33 = .ok (.iconst (-1), 1) := by decide +kernel
theorem dX3_copyTrouble_34 : decode cX3_copyTrouble 34 = .ok (.if_icmp .eq 7, 3) := by decide +kernel
theorem dX3_copyTrouble_37 : decode cX3_copyTrouble 37 = .ok (.iconst 1, 1) := by decide +kernel
theorem dX3_copyTrouble_38 : decode cX3_copyTrouble 38 = .ok (.goto 4, 3) := by decide +kernel
theorem dX3_copyTrouble_41 : decode cX3_copyTrouble 41 = .ok (.iconst 0, 1) := by decide +kernel
theorem dX3_copyTrouble_42 : decode cX3_copyTrouble 42 = .ok (.istore_n 3, 1) := by decide +kernel
theorem dX3_copyTrouble_43 : decode cX3_copyTrouble 43 = .ok (.aload_n 0, 1) := by decide +kernel
theorem dX3_copyTrouble_44 : decode cX3_copyTrouble 44 = .ok (.iload_n 1, 1) := by decide +kernel
theorem dX3_copyTrouble_45 : decode cX3_copyTrouble 45 = .ok (.invokevirtual 37, 3) := by decide +kernel
theorem dX3_copyTrouble_48 : decode cX3_copyTrouble 48 = .ok (.ifCond .ne 30, 3) := by decide +kernel
theorem dX3_copyTrouble_51 : decode cX3_copyTrouble 51 = .ok (.aload_n 0, 1) := by decide +kernel
theorem dX3_copyTrouble_52 : decode cX3_copyTrouble 52 = .ok (.iload_n 2, 1) := by decide +kernel
theorem dX3_copyTrouble_53 : decode cX3_copyTrouble 53 = .ok (.invokevirtual 37, 3) := by decide +kernel
theorem dX3_copyTrouble_56 : decode cX3_copyTrouble 56 = .ok (.ifCond .ne 22, 3) := by decide +kernel
theorem dX3_copyTrouble_59 : decode cX3_copyTrouble 59 = .ok (.iload_n 3, 1) := by decide +kernel
theorem dX3_copyTrouble_60 : decode cX3_copyTrouble 60 = .ok (.ifCond .eq 21, 3) := by decide +kernel
theorem dX3_copyTrouble_63 : decode cX3_copyTrouble 63 = .ok (.aload_n 0, 1) := by decide +kernel
theorem dX3_copyTrouble_64 : decode cX3_copyTrouble 64 = .ok (.getfield 11, 3) := by decide +kernel
theorem dX3_copyTrouble_67 : decode cX3_copyTrouble 67 = .ok (.iload_n 1, 1) := by decide +kernel
theorem dX3_copyTrouble_68 : decode cX3_copyTrouble 68 = .ok (.iaload, 1) := by decide +kernel
theorem dX3_copyTrouble_69 : decode cX3_copyTrouble 69 = .ok (.aload_n 0, 1) := by decide +kernel
theorem dX3_copyTrouble_70 : decode cX3_copyTrouble 70 = .ok (.getfield 11, 3) := by decide +kernel
theorem dX3_copyTrouble_73 : decode cX3_copyTrouble 73 = .ok (.iload_n 2, 1) := by decide +kernel
theorem dX3_copyTrouble_74 : decode cX3_copyTrouble 74 = .ok (.iaload, 1) := by decide +kernel
theorem dX3_copyTrouble_75 : decode cX3_copyTrouble 75 = .ok (.if_icmp .eq 6, 3) := by decide +kernel
theorem dX3_copyTrouble_78 : decode cX3_copyTrouble 78 = .ok (.bipush (-3), 2) := by decide +kernel
theorem dX3_copyTrouble_80 : decode cX3_copyTrouble 80 = .ok (.ireturn, 1) := by decide +kernel
theorem dX3_copyTrouble_81 : decode cX3_copyTrouble 81 = .ok (.iload_n 3, 1) := by decide +kernel
theorem dX3_copyTrouble_82 : decode cX3_copyTrouble 82 = .ok (.ifCond .eq 7, 3) := by decide +kernel
theorem dX3_copyTrouble_85 : decode cX3_copyTrouble 85 = .ok (.iconst 0, 1) := by decide +kernel
theorem dX3_copyTrouble_86 : decode cX3_copyTrouble 86 = .ok (.goto 5, 3) := by decide +kernel
theorem dX3_copyTrouble_89 : decode cX3_copyTrouble 89 = .ok (.bipush (-4), 2) := by decide +kernel
theorem dX3_copyTrouble_91 : decode cX3_copyTrouble 91 = .ok (.ireturn, 1) := by decide +kernel
theorem dX3_cut_0 : decode cX3_cut 0 = .ok (.iload_n 0, 1) := by decide +kernel
theorem dX3_cut_1 : decode cX3_cut 1 = .ok (.tableswitch 47 0 3 #[31, 36, 41, 45], 31) := by decide +kernel
theorem dX3_cut_32 : decode cX3_cut 32 = .ok (.lload_n 1, 1) := by decide +kernel
theorem dX3_cut_33 : decode cX3_cut 33 = .ok (.l2i, 1) := by decide +kernel
theorem dX3_cut_34 : decode cX3_cut 34 = .ok (.i2b, 1) := by decide +kernel
theorem dX3_cut_35 : decode cX3_cut 35 = .ok (.i2l, 1) := by decide +kernel
theorem dX3_cut_36 : decode cX3_cut 36 = .ok (.lreturn, 1) := by decide +kernel
theorem dX3_cut_37 : decode cX3_cut 37 = .ok (.lload_n 1, 1) := by decide +kernel
theorem dX3_cut_38 : decode cX3_cut 38 = .ok (.l2i, 1) := by decide +kernel
theorem dX3_cut_39 : decode cX3_cut 39 = .ok (.i2s, 1) := by decide +kernel
theorem dX3_cut_40 : decode cX3_cut 40 = .ok (.i2l, 1) := by decide +kernel
theorem dX3_cut_41 : decode cX3_cut 41 = .ok (.lreturn, 1) := by decide +kernel
theorem dX3_cut_42 : decode cX3_cut 42 = .ok (.lload_n 1, 1) := by decide +kernel
theorem dX3_cut_43 : decode cX3_cut 43 = .ok (.l2i, 1) := by decide +kernel
theorem dX3_cut_44 : decode cX3_cut 44 = .ok (.i2l, 1) := by decide +kernel
theorem dX3_cut_45 : decode cX3_cut 45 = .ok (.lreturn, 1) := by decide +kernel
theorem dX3_cut_46 : decode cX3_cut 46 = .ok (.lload_n 1, 1) := by decide +kernel
theorem dX3_cut_47 : decode cX3_cut 47 = .ok (.lreturn, 1) := by decide +kernel
theorem dX3_cut_48 : decode cX3_cut 48 = .ok (.lload_n 1, 1) := by decide +kernel
theorem dX3_cut_49 : decode cX3_cut 49 = .ok (.lconst 0, 1) := by decide +kernel
theorem dX3_cut_50 : decode cX3_cut 50 = .ok (.lcmp, 1) := by decide +kernel
theorem dX3_cut_51 : decode cX3_cut 51 = .ok (.ifCond .eq 7, 3) := by decide +kernel
theorem dX3_cut_54 : decode cX3_cut 54 = .ok (.lconst 1, 1) := by decide +kernel
theorem dX3_cut_55 : decode cX3_cut 55 = .ok (.goto 4, 3) := by decide +kernel
theorem dX3_cut_58 : decode cX3_cut 58 = .ok (.lconst 0, 1) := by decide +kernel
theorem dX3_cut_59 : decode cX3_cut 59 = .ok (.lreturn, 1) := by decide +kernel
theorem dX3_hasSpan_0 : decode cX3_hasSpan 0 = .ok (.aload_n 0, 1) := by decide +kernel
theorem dX3_hasSpan_1 : decode cX3_hasSpan 1 = .ok (.iload_n 1, 1) := by decide +kernel
theorem dX3_hasSpan_2 : decode cX3_hasSpan 2 = .ok (.invokevirtual 40, 3) := by decide +kernel
theorem dX3_hasSpan_5 : decode cX3_hasSpan 5 = .ok (.ifCond .eq 37, 3) := by decide +kernel
theorem dX3_hasSpan_8 : decode cX3_hasSpan 8 = .ok (.iload_n 2, 1) := by decide +kernel
theorem dX3_hasSpan_9 : decode cX3_hasSpan 9 = .ok (.ifCond .lt 33, 3) := by decide +kernel
theorem dX3_hasSpan_12 : decode cX3_hasSpan 12 = .ok (.iload_n 3, 1) := by decide +kernel
theorem dX3_hasSpan_13 : decode cX3_hasSpan 13 = .ok (.ifCond .lt 29, 3) := by decide +kernel
theorem dX3_hasSpan_16 : decode cX3_hasSpan 16 = .ok (.iload_n 3, 1) := by decide +kernel
theorem dX3_hasSpan_17 : decode cX3_hasSpan 17 = .ok (.aload_n 0, 1) := by decide +kernel
theorem dX3_hasSpan_18 : decode cX3_hasSpan 18 = .ok (.getfield 15, 3) := by decide +kernel
theorem dX3_hasSpan_21 : decode cX3_hasSpan 21 = .ok (.iload_n 1, 1) := by decide +kernel
theorem dX3_hasSpan_22 : decode cX3_hasSpan 22 = .ok (.iaload, 1) := by decide +kernel
theorem dX3_hasSpan_23 : decode cX3_hasSpan 23 = .ok (.if_icmp .gt 19, 3) := by decide +kernel
theorem dX3_hasSpan_26 : decode cX3_hasSpan 26 = .ok (.iload_n 2, 1) := by decide +kernel
theorem dX3_hasSpan_27 : decode cX3_hasSpan 27 = .ok (.aload_n 0, 1) := by decide +kernel
theorem dX3_hasSpan_28 : decode cX3_hasSpan 28 = .ok (.getfield 15, 3) := by decide +kernel
theorem dX3_hasSpan_31 : decode cX3_hasSpan 31 = .ok (.iload_n 1, 1) := by decide +kernel
theorem dX3_hasSpan_32 : decode cX3_hasSpan 32 = .ok (.iaload, 1) := by decide +kernel
theorem dX3_hasSpan_33 : decode cX3_hasSpan 33 = .ok (.iload_n 3, 1) := by decide +kernel
theorem dX3_hasSpan_34 : decode cX3_hasSpan 34 = .ok (.isub, 1) := by decide +kernel
theorem dX3_hasSpan_35 : decode cX3_hasSpan 35 = .ok (.if_icmp .gt 7, 3) := by decide +kernel
theorem dX3_hasSpan_38 : decode cX3_hasSpan 38 = .ok (.iconst 1, 1) := by decide +kernel
theorem dX3_hasSpan_39 : decode cX3_hasSpan 39 = .ok (.goto 4, 3) := by decide +kernel
theorem dX3_hasSpan_42 : decode cX3_hasSpan 42 = .ok (.iconst 0, 1) := by decide +kernel
theorem dX3_hasSpan_43 : decode cX3_hasSpan 43 = .ok (.ireturn, 1) := by decide +kernel
theorem dX3_moveCells_0 : decode cX3_moveCells 0 = .ok (.aload_n 0, 1) := by decide +kernel
theorem dX3_moveCells_1 : decode cX3_moveCells 1 = .ok (.getfield 20, 3) := by decide +kernel
theorem dX3_moveCells_4 : decode cX3_moveCells 4 = .ok (.iload_n 1, 1) := by decide +kernel
theorem dX3_moveCells_5 : decode cX3_moveCells 5 = .ok (.aaload, 1) := by decide +kernel
theorem dX3_moveCells_6 : decode cX3_moveCells 6 = .ok (.iload_n 3, 1) := by decide +kernel
theorem dX3_moveCells_7 : decode cX3_moveCells 7 = .ok (.aload_n 0, 1) := by decide +kernel
theorem dX3_moveCells_8 : decode cX3_moveCells 8 = .ok (.getfield 20, 3) := by decide +kernel
theorem dX3_moveCells_11 : decode cX3_moveCells 11 = .ok (.iload_n 2, 1) := by decide +kernel
theorem dX3_moveCells_12 : decode cX3_moveCells 12 = .ok (.aaload, 1) := by decide +kernel
theorem dX3_moveCells_13 : decode cX3_moveCells 13 = .ok (.iload 4, 2) := by decide +kernel
theorem dX3_moveCells_15 : decode cX3_moveCells 15 = .ok (.iload 5, 2) := by decide +kernel
theorem dX3_moveCells_17 : decode cX3_moveCells 17 = .ok (.invokestatic 54, 3) := by decide +kernel
theorem dX3_moveCells_20 : decode cX3_moveCells 20 = .ok (.return_, 1) := by decide +kernel
theorem dX3_putCell_0 : decode cX3_putCell 0 = .ok (.aload_n 0, 1) := by decide +kernel
theorem dX3_putCell_1 : decode cX3_putCell 1 = .ok (.getfield 20, 3) := by decide +kernel
theorem dX3_putCell_4 : decode cX3_putCell 4 = .ok (.iload_n 1, 1) := by decide +kernel
theorem dX3_putCell_5 : decode cX3_putCell 5 = .ok (.aaload, 1) := by decide +kernel
theorem dX3_putCell_6 : decode cX3_putCell 6 = .ok (.iload_n 2, 1) := by decide +kernel
theorem dX3_putCell_7 : decode cX3_putCell 7 = .ok (.aload_n 0, 1) := by decide +kernel
theorem dX3_putCell_8 : decode cX3_putCell 8 = .ok (.getfield 11, 3) := by decide +kernel
theorem dX3_putCell_11 : decode cX3_putCell 11 = .ok (.iload_n 1, 1) := by decide +kernel
theorem dX3_putCell_12 : decode cX3_putCell 12 = .ok (.iaload, 1) := by decide +kernel
theorem dX3_putCell_13 : decode cX3_putCell 13 = .ok (.lload_n 3, 1) := by decide +kernel
theorem dX3_putCell_14 : decode cX3_putCell 14 = .ok (.invokestatic 50, 3) := by decide +kernel
theorem dX3_putCell_17 : decode cX3_putCell 17 = .ok (.lastore, 1) := by decide +kernel
theorem dX3_putCell_18 : decode cX3_putCell 18 = .ok (.return_, 1) := by decide +kernel
theorem dJ7_fill_d0a16_0 : decode cJ7_fill_d0a16 0 = .ok (.iconst 0, 1) := by decide +kernel
theorem dJ7_fill_d0a16_1 : decode cJ7_fill_d0a16 1 = .ok (.istore_n 3, 1) := by decide +kernel
theorem dJ7_fill_d0a16_2 : decode cJ7_fill_d0a16 2 = .ok (.aload_n 0, 1) := by decide +kernel
theorem dJ7_fill_d0a16_3 : decode cJ7_fill_d0a16 3 = .ok (.arraylength, 1) := by decide +kernel
theorem dJ7_fill_d0a16_4 : decode cJ7_fill_d0a16 4 = .ok (.istore 4, 2) := by decide +kernel
theorem dJ7_fill_d0a16_6 : decode cJ7_fill_d0a16 6 = .ok (.iload_n 3, 1) := by decide +kernel
theorem dJ7_fill_d0a16_7 : decode cJ7_fill_d0a16 7 = .ok (.iload 4, 2) := by decide +kernel
theorem dJ7_fill_d0a16_9 : decode cJ7_fill_d0a16 9 = .ok (.if_icmp .ge 13, 3) := by decide +kernel
theorem dJ7_fill_d0a16_12 : decode cJ7_fill_d0a16 12 = .ok (.aload_n 0, 1) := by decide +kernel
theorem dJ7_fill_d0a16_13 : decode cJ7_fill_d0a16 13 = .ok (.iload_n 3, 1) := by decide +kernel
theorem dJ7_fill_d0a16_14 : decode cJ7_fill_d0a16 14 = .ok (.lload_n 1, 1) := by decide +kernel
theorem dJ7_fill_d0a16_15 : decode cJ7_fill_d0a16 15 = .ok (.lastore, 1) := by decide +kernel
theorem dJ7_fill_d0a16_16 : decode cJ7_fill_d0a16 16 = .ok (.iinc 3 1, 3) := by decide +kernel
theorem dJ7_fill_d0a16_19 : decode cJ7_fill_d0a16 19 = .ok (.goto (-13), 3) := by decide +kernel
theorem dJ7_fill_d0a16_22 : decode cJ7_fill_d0a16 22 = .ok (.return_, 1) := by decide +kernel
theorem dX3_putRow_0 : decode cX3_putRow 0 = .ok (.aload_n 0, 1) := by decide +kernel
theorem dX3_putRow_1 : decode cX3_putRow 1 = .ok (.getfield 11, 3) := by decide +kernel
theorem dX3_putRow_4 : decode cX3_putRow 4 = .ok (.iload_n 1, 1) := by decide +kernel
theorem dX3_putRow_5 : decode cX3_putRow 5 = .ok (.iload_n 2, 1) := by decide +kernel
theorem dX3_putRow_6 : decode cX3_putRow 6 = .ok (.iastore, 1) := by decide +kernel
theorem dX3_putRow_7 : decode cX3_putRow 7 = .ok (.aload_n 0, 1) := by decide +kernel
theorem dX3_putRow_8 : decode cX3_putRow 8 = .ok (.getfield 15, 3) := by decide +kernel
theorem dX3_putRow_11 : decode cX3_putRow 11 = .ok (.iload_n 1, 1) := by decide +kernel
theorem dX3_putRow_12 : decode cX3_putRow 12 = .ok (.iload_n 3, 1) := by decide +kernel
theorem dX3_putRow_13 : decode cX3_putRow 13 = .ok (.iastore, 1) := by decide +kernel
theorem dX3_putRow_14 : decode cX3_putRow 14 = .ok (.aload_n 0, 1) := by decide +kernel
theorem dX3_putRow_15 : decode cX3_putRow 15 = .ok (.getfield 20, 3) := by decide +kernel
theorem dX3_putRow_18 : decode cX3_putRow 18 = .ok (.iload_n 1, 1) := by decide +kernel
theorem dX3_putRow_19 : decode cX3_putRow 19 = .ok (.aaload, 1) := by decide +kernel
theorem dX3_putRow_20 : decode cX3_putRow 20 = .ok (.lconst 0, 1) := by decide +kernel
theorem dX3_putRow_21 : decode cX3_putRow 21 = .ok (.invokestatic 43, 3) := by decide +kernel
theorem dX3_putRow_24 : decode cX3_putRow 24 = .ok (.return_, 1) := by decide +kernel
theorem dX3_putRule_0 : decode cX3_putRule 0 = .ok (.aload_n 0, 1) := by decide +kernel
theorem dX3_putRule_1 : decode cX3_putRule 1 = .ok (.getfield 11, 3) := by decide +kernel
theorem dX3_putRule_4 : decode cX3_putRule 4 = .ok (.iload_n 1, 1) := by decide +kernel
theorem dX3_putRule_5 : decode cX3_putRule 5 = .ok (.bipush 10, 2) := by decide +kernel
theorem dX3_putRule_7 : decode cX3_putRule 7 = .ok (.iload_n 2, 1) := by decide +kernel
theorem dX3_putRule_8 : decode cX3_putRule 8 = .ok (.iadd, 1) := by decide +kernel
theorem dX3_putRule_9 : decode cX3_putRule 9 = .ok (.iastore, 1) := by decide +kernel
theorem dX3_putRule_10 : decode cX3_putRule 10 = .ok (.aload_n 0, 1) := by decide +kernel
theorem dX3_putRule_11 : decode cX3_putRule 11 = .ok (.getfield 15, 3) := by decide +kernel
theorem dX3_putRule_14 : decode cX3_putRule 14 = .ok (.iload_n 1, 1) := by decide +kernel
theorem dX3_putRule_15 : decode cX3_putRule 15 = .ok (.iload_n 3, 1) := by decide +kernel
theorem dX3_putRule_16 : decode cX3_putRule 16 = .ok (.iastore, 1) := by decide +kernel
theorem dX3_putRule_17 : decode cX3_putRule 17 = .ok (.return_, 1) := by decide +kernel
theorem dX3_rowTrouble_0 : decode cX3_rowTrouble 0 = .ok (.iload_n 1, 1) := by decide +kernel
theorem dX3_rowTrouble_1 : decode cX3_rowTrouble 1 = .ok (.invokestatic 29, 3) := by decide +kernel
theorem dX3_rowTrouble_4 : decode cX3_rowTrouble 4 = .ok (.ifCond .ne 6, 3) := by decide +kernel
theorem dX3_rowTrouble_7 : decode cX3_rowTrouble 7 = .ok (.bipush (-2), 2) := by decide +kernel
theorem dX3_rowTrouble_9 : decode cX3_rowTrouble 9 = .ok (.ireturn, 1) := by decide +kernel
theorem dX3_rowTrouble_10 : decode cX3_rowTrouble 10 = .ok (.aload_n 0, 1) := by decide +kernel
theorem dX3_rowTrouble_11 : decode cX3_rowTrouble 11 = .ok (.iload_n 1, 1) := by decide +kernel
theorem dX3_rowTrouble_12 : decode cX3_rowTrouble 12 = .ok (.invokevirtual 37, 3) := by decide +kernel
theorem dX3_rowTrouble_15 : decode cX3_rowTrouble 15 = .ok (.ifCond .eq 6, 3) := by decide +kernel
theorem dX3_rowTrouble_18 : decode cX3_rowTrouble 18 = .ok (.bipush (-3), 2) := by decide +kernel
theorem dX3_rowTrouble_20 : decode cX3_rowTrouble 20 = .ok (.ireturn, 1) := by decide +kernel
theorem dX3_rowTrouble_21 : decode cX3_rowTrouble 21 = .ok (.aload_n 0, 1) := by decide +kernel
theorem dX3_rowTrouble_22 : decode cX3_rowTrouble 22 = .ok (.iload_n 1, 1) := by decide +kernel
theorem dX3_rowTrouble_23 : decode cX3_rowTrouble 23 = .ok (.invokevirtual 40, 3) := by decide +kernel
theorem dX3_rowTrouble_26 : decode cX3_rowTrouble 26 = .ok (.ifCond .eq 7, 3) := by decide +kernel
theorem dX3_rowTrouble_29 : decode cX3_rowTrouble 29 = .ok (.iconst 0, 1) := by decide +kernel
theorem dX3_rowTrouble_30 : decode cX3_rowTrouble 30 = .ok (.goto 5, 3) := by decide +kernel
theorem dX3_rowTrouble_33 : decode cX3_rowTrouble 33 = .ok (.bipush (-4), 2) := by decide +kernel
theorem dX3_rowTrouble_35 : decode cX3_rowTrouble 35 = .ok (.ireturn, 1) := by decide +kernel
theorem dX3_ruleAmount_0 : decode cX3_ruleAmount 0 = .ok (.aload_n 0, 1) := by decide +kernel
theorem dX3_ruleAmount_1 : decode cX3_ruleAmount 1 = .ok (.iload_n 1, 1) := by decide +kernel
theorem dX3_ruleAmount_2 : decode cX3_ruleAmount 2 = .ok (.invokevirtual 37, 3) := by decide +kernel
theorem dX3_ruleAmount_5 : decode cX3_ruleAmount 5 = .ok (.ifCond .eq 12, 3) := by decide +kernel
theorem dX3_ruleAmount_8 : decode cX3_ruleAmount 8 = .ok (.aload_n 0, 1) := by decide +kernel
theorem dX3_ruleAmount_9 : decode cX3_ruleAmount 9 = .ok (.getfield 15, 3) := by decide +kernel
theorem dX3_ruleAmount_12 : decode cX3_ruleAmount 12 = .ok (.iload_n 1, 1) := by decide +kernel
theorem dX3_ruleAmount_13 : decode cX3_ruleAmount 13 = .ok (.iaload, 1) := by decide +kernel
theorem dX3_ruleAmount_14 : decode cX3_ruleAmount 14 = .ok (.goto 4, 3) := by decide +kernel
theorem dX3_ruleAmount_17 : decode cX3_ruleAmount 17 = .ok (.iconst 0, 1) := by decide +kernel
theorem dX3_ruleAmount_18 : decode cX3_ruleAmount 18 = .ok (.ireturn, 1) := by decide +kernel
theorem dX3_ruleKind_0 : decode cX3_ruleKind 0 = .ok (.aload_n 0, 1) := by decide +kernel
theorem dX3_ruleKind_1 : decode cX3_ruleKind 1 = .ok (.iload_n 1, 1) := by decide +kernel
theorem dX3_ruleKind_2 : decode cX3_ruleKind 2 = .ok (.invokevirtual 37, 3) := by decide +kernel
theorem dX3_ruleKind_5 : decode cX3_ruleKind 5 = .ok (.ifCond .eq 15, 3) := by decide +kernel
theorem dX3_ruleKind_8 : decode cX3_ruleKind 8 = .ok (.aload_n 0, 1) := by decide +kernel
theorem dX3_ruleKind_9 : decode cX3_ruleKind 9 = .ok (.getfield 11, 3) := by decide +kernel
theorem dX3_ruleKind_12 : decode cX3_ruleKind 12 = .ok (.iload_n 1, 1) := by decide +kernel
theorem dX3_ruleKind_13 : decode cX3_ruleKind 13 = .ok (.iaload, 1) := by decide +kernel
theorem dX3_ruleKind_14 : decode cX3_ruleKind 14 = .ok (.bipush 10, 2) := by decide +kernel
theorem dX3_ruleKind_16 : decode cX3_ruleKind 16 = .ok (.isub, 1) := by decide +kernel
theorem dX3_ruleKind_17 : decode cX3_ruleKind 17 = .ok (.goto 4, 3) := by decide +kernel
theorem dX3_ruleKind_20 : decode cX3_ruleKind 20 = .ok (.iconst (-1), 1) := by decide +kernel
theorem dX3_ruleKind_21 : decode cX3_ruleKind 21 = .ok (.ireturn, 1) := by decide +kernel
theorem dX3_ruleTrouble_0 : decode cX3_ruleTrouble 0 = .ok (.iload_n 1, 1) := by decide +kernel
theorem dX3_ruleTrouble_1 : decode cX3_ruleTrouble 1 = .ok (.invokestatic 29, 3) := by decide +kernel
theorem dX3_ruleTrouble_4 : decode cX3_ruleTrouble 4 = .ok (.ifCond .ne 6, 3) := by decide +kernel
theorem dX3_ruleTrouble_7 : decode cX3_ruleTrouble 7 = .ok (.bipush (-2), 2) := by decide +kernel
theorem dX3_ruleTrouble_9 : decode cX3_ruleTrouble 9 = .ok (.ireturn, 1) := by decide +kernel
theorem dX3_ruleTrouble_10 : decode cX3_ruleTrouble 10 = .ok (.aload_n 0, 1) := by decide +kernel
theorem dX3_ruleTrouble_11 : decode cX3_ruleTrouble 11 = .ok (.iload_n 1, 1) := by decide +kernel
theorem dX3_ruleTrouble_12 : decode cX3_ruleTrouble 12 = .ok (.invokevirtual 40, 3) := by decide +kernel
theorem dX3_ruleTrouble_15 : decode cX3_ruleTrouble 15 = .ok (.ifCond .eq 6, 3) := by decide +kernel
theorem dX3_ruleTrouble_18 : decode cX3_ruleTrouble 18 = .ok (.bipush (-3), 2) := by decide +kernel
theorem dX3_ruleTrouble_20 : decode cX3_ruleTrouble 20 = .ok (.ireturn, 1) := by decide +kernel
theorem dX3_ruleTrouble_21 : decode cX3_ruleTrouble 21 = .ok (.aload_n 0, 1) := by decide +kernel
theorem dX3_ruleTrouble_22 : decode cX3_ruleTrouble 22 = .ok (.iload_n 1, 1) := by decide +kernel
theorem dX3_ruleTrouble_23 : decode cX3_ruleTrouble 23 = .ok (.invokevirtual 37, 3) := by decide +kernel
theorem dX3_ruleTrouble_26 : decode cX3_ruleTrouble 26 = .ok (.ifCond .eq 7, 3) := by decide +kernel
theorem dX3_ruleTrouble_29 : decode cX3_ruleTrouble 29 = .ok (.iconst 0, 1) := by decide +kernel
theorem dX3_ruleTrouble_30 : decode cX3_ruleTrouble 30 = .ok (.goto 5, 3) := by decide +kernel
theorem dX3_ruleTrouble_33 : decode cX3_ruleTrouble 33 = .ok (.bipush (-4), 2) := by decide +kernel
theorem dX3_ruleTrouble_35 : decode cX3_ruleTrouble 35 = .ok (.ireturn, 1) := by decide +kernel
theorem dX3_usedCount_0 : decode cX3_usedCount 0 = .ok (.iconst 0, 1) := by decide +kernel
theorem dX3_usedCount_1 : decode cX3_usedCount 1 = .ok (.istore_n 1, 1) := by decide +kernel
theorem dX3_usedCount_2 : decode cX3_usedCount 2 = .ok (.iconst 0, 1) := by decide +kernel
theorem dX3_usedCount_3 : decode cX3_usedCount 3 = .ok (.istore_n 2, 1) := by decide +kernel
theorem dX3_usedCount_4 : decode cX3_usedCount 4 = .ok (.iload_n 2, 1) := by decide +kernel
theorem dX3_usedCount_5 : decode cX3_usedCount 5 = .ok (.bipush 8, 2) := by decide +kernel
theorem dX3_usedCount_7 : decode cX3_usedCount 7 = .ok (.if_icmp .ge 27, 3) := by decide +kernel
theorem dX3_usedCount_10 : decode cX3_usedCount 10 = .ok (.iload_n 1, 1) := by decide +kernel
theorem dX3_usedCount_11 : decode cX3_usedCount 11 = .ok (.aload_n 0, 1) := by decide +kernel
theorem dX3_usedCount_12 : decode cX3_usedCount 12 = .ok (.getfield 11, 3) := by decide +kernel
theorem dX3_usedCount_15 : decode cX3_usedCount 15 = .ok (.iload_n 2, 1) := by decide +kernel
theorem dX3_usedCount_16 : decode cX3_usedCount 16 = .ok (.iaload, 1) := by decide +kernel
theorem dX3_usedCount_17 : decode cX3_usedCount 17 = .ok (.iconst (-1), 1) := by decide +kernel
theorem dX3_usedCount_18 : decode cX3_usedCount 18 = .ok (.if_icmp .ne 7, 3) := by decide +kernel
theorem dX3_usedCount_21 : decode cX3_usedCount 21 = .ok (.iconst 0, 1) := by decide +kernel
theorem dX3_usedCount_22 : decode cX3_usedCount 22 = .ok (.goto 4, 3) := by decide +kernel
theorem dX3_usedCount_25 : decode cX3_usedCount 25 = .ok (.iconst 1, 1) := by decide +kernel
theorem dX3_usedCount_26 : decode cX3_usedCount 26 = .ok (.iadd, 1) := by decide +kernel
theorem dX3_usedCount_27 : decode cX3_usedCount 27 = .ok (.istore_n 1, 1) := by decide +kernel
theorem dX3_usedCount_28 : decode cX3_usedCount 28 = .ok (.iinc 2 1, 3) := by decide +kernel
theorem dX3_usedCount_31 : decode cX3_usedCount 31 = .ok (.goto (-27), 3) := by decide +kernel
theorem dX3_usedCount_34 : decode cX3_usedCount 34 = .ok (.iload_n 1, 1) := by decide +kernel
theorem dX3_usedCount_35 : decode cX3_usedCount 35 = .ok (.ireturn, 1) := by decide +kernel
theorem dX4_init_0 : decode cX4_init 0 = .ok (.aload_n 0, 1) := by decide +kernel
theorem dX4_init_1 : decode cX4_init 1 = .ok (.invokespecial 3, 3) := by decide +kernel
theorem dX4_init_4 : decode cX4_init 4 = .ok (.aload_n 0, 1) := by decide +kernel
theorem dX4_init_5 : decode cX4_init 5 = .ok (.sipush 250, 3) := by decide +kernel
theorem dX4_init_8 : decode cX4_init 8 = .ok (.newarray .byte, 2) := by decide +kernel
theorem dX4_init_10 : decode cX4_init 10 = .ok (.putfield 11, 3) := by decide +kernel
theorem dX4_init_13 : decode cX4_init 13 = .ok (.aload_n 0, 1) := by decide +kernel
theorem dX4_init_14 : decode cX4_init 14 = .ok (.iconst 0, 1) := by decide +kernel
theorem dX4_init_15 : decode cX4_init 15 = .ok (.putfield 15, 3) := by decide +kernel
theorem dX4_init_18 : decode cX4_init 18 = .ok (.aload_n 0, 1) := by decide +kernel
theorem dX4_init_19 : decode cX4_init 19 = .ok (.iconst 0, 1) := by decide +kernel
theorem dX4_init_20 : decode cX4_init 20 = .ok (.putfield 19, 3) := by decide +kernel
theorem dX4_init_23 : decode cX4_init 23 = .ok (.aload_n 0, 1) := by decide +kernel
theorem dX4_init_24 : decode cX4_init 24 = .ok (.iconst 0, 1) := by decide +kernel
theorem dX4_init_25 : decode cX4_init 25 = .ok (.putfield 22, 3) := by decide +kernel
theorem dX4_init_28 : decode cX4_init 28 = .ok (.aload_n 0, 1) := by decide +kernel
theorem dX4_init_29 : decode cX4_init 29 = .ok (.iconst 0, 1) := by decide +kernel
theorem dX4_init_30 : decode cX4_init 30 = .ok (.putfield 25, 3) := by decide +kernel
theorem dX4_init_33 : decode cX4_init 33 = .ok (.aload_n 0, 1) := by decide +kernel
theorem dX4_init_34 : decode cX4_init 34 = .ok (.iconst (-1), 1) := by decide +kernel
theorem dX4_init_35 : decode cX4_init 35 = .ok (.putfield 28, 3) := by decide +kernel
theorem dX4_init_38 : decode cX4_init 38 = .ok (.return_, 1) := by decide +kernel
theorem dX4_append_0 : decode cX4_append 0 = .ok (.iload_n 2, 1) := by decide +kernel
theorem dX4_append_1 : decode cX4_append 1 = .ok (.iconst 1, 1) := by decide +kernel
theorem dX4_append_2 : decode cX4_append 2 = .ok (.isub, 1) := by decide +kernel
theorem dX4_append_3 : decode cX4_append 3 = .ok (.istore_n 3, 1) := by decide +kernel
theorem dX4_append_4 : decode cX4_append 4 = .ok (.iload_n 3, 1) := by decide +kernel
theorem dX4_append_5 : decode cX4_append 5 = .ok (.ifCond .lt 45, 3) := by decide +kernel
theorem dX4_append_8 : decode cX4_append 8 = .ok (.aload_n 0, 1) := by decide +kernel
theorem dX4_append_9 : decode cX4_append 9 = .ok (.getfield 15, 3) := by decide +kernel
theorem dX4_append_12 : decode cX4_append 12 = .ok (.sipush 250, 3) := by decide +kernel
theorem dX4_append_15 : decode cX4_append 15 = .ok (.if_icmp .ge 35, 3) := by decide +kernel
theorem dX4_append_18 : decode cX4_append 18 = .ok (.aload_n 0, 1) := by decide +kernel
theorem dX4_append_19 : decode cX4_append 19 = .ok (.getfield 11, 3) := by decide +kernel
theorem dX4_append_22 : decode cX4_append 22 = .ok (.aload_n 0, 1) := by decide +kernel
theorem dX4_append_23 : decode cX4_append 23 = .ok (.getfield 15, 3) := by decide +kernel
theorem dX4_append_26 : decode cX4_append 26 = .ok (.iload_n 1, 1) := by decide +kernel
theorem dX4_append_27 : decode cX4_append 27 = .ok (.bipush 8, 2) := by decide +kernel
theorem dX4_append_29 : decode cX4_append 29 = .ok (.iload_n 3, 1) := by decide +kernel
theorem dX4_append_30 : decode cX4_append 30 = .ok (.imul, 1) := by decide +kernel
theorem dX4_append_31 : decode cX4_append 31 = .ok (.ishr, 1) := by decide +kernel
theorem dX4_append_32 : decode cX4_append 32 = .ok (.i2b, 1) := by decide +kernel
theorem dX4_append_33 : decode cX4_append 33 = .ok (.bastore, 1) := by decide +kernel
theorem dX4_append_34 : decode cX4_append 34 = .ok (.aload_n 0, 1) := by decide +kernel
theorem dX4_append_35 : decode cX4_append 35 = .ok (.dup, 1) := by decide +kernel
theorem dX4_append_36 : decode cX4_append 36 = .ok (.getfield 15, 3) := by decide +kernel
theorem dX4_append_39 : decode cX4_append 39 = .ok (.iconst 1, 1) := by decide +kernel
theorem dX4_append_40 : decode cX4_append 40 = .ok (.iadd, 1) := by decide +kernel
theorem dX4_append_41 : decode cX4_append 41 = .ok (.putfield 15, 3) := by decide +kernel
theorem dX4_append_44 : decode cX4_append 44 = .ok (.iinc 3 (-1), 3) := by decide +kernel
theorem dX4_append_47 : decode cX4_append 47 = .ok (.goto (-43), 3) := by decide +kernel
theorem dX4_append_50 : decode cX4_append 50 = .ok (.return_, 1) := by decide +kernel
theorem dX4_clear_0 : decode cX4_clear 0 = .ok (.aload_n 0, 1) := by decide +kernel
theorem dX4_clear_1 : decode cX4_clear 1 = .ok (.iconst 0, 1) := by decide +kernel
theorem dX4_clear_2 : decode cX4_clear 2 = .ok (.putfield 15, 3) := by decide +kernel
theorem dX4_clear_5 : decode cX4_clear 5 = .ok (.return_, 1) := by decide +kernel
theorem dX4_fail_0 : decode cX4_fail 0 = .ok (.aload_n 0, 1) := by decide +kernel
theorem dX4_fail_1 : decode cX4_fail 1 = .ok (.getfield 28, 3) := by decide +kernel
theorem dX4_fail_4 : decode cX4_fail 4 = .ok (.iconst (-1), 1) := by decide +kernel
theorem dX4_fail_5 : decode cX4_fail 5 = .ok (.if_icmp .ne 11, 3) := by decide +kernel
theorem dX4_fail_8 : decode cX4_fail 8 = .ok (.aload_n 0, 1) := by decide +kernel
theorem dX4_fail_9 : decode cX4_fail 9 = .ok (.aload_n 0, 1) := by decide +kernel
theorem dX4_fail_10 : decode cX4_fail 10 = .ok (.getfield 22, 3) := by decide +kernel
theorem dX4_fail_13 : decode cX4_fail 13 = .ok (.putfield 28, 3) := by decide +kernel
theorem dX4_fail_16 : decode cX4_fail 16 = .ok (.return_, 1) := by decide +kernel
theorem dX4_hasRoom_0 : decode cX4_hasRoom 0 = .ok (.aload_n 0, 1) := by decide +kernel
theorem dX4_hasRoom_1 : decode cX4_hasRoom 1 = .ok (.getfield 15, 3) := by decide +kernel
theorem dX4_hasRoom_4 : decode cX4_hasRoom 4 = .ok (.iload_n 1, 1) := by decide +kernel
theorem dX4_hasRoom_5 : decode cX4_hasRoom 5 = .ok (.iadd, 1) := by decide +kernel
theorem dX4_hasRoom_6 : decode cX4_hasRoom 6 = .ok (.sipush 250, 3) := by decide +kernel
theorem dX4_hasRoom_9 : decode cX4_hasRoom 9 = .ok (.if_icmp .gt 7, 3) := by decide +kernel
theorem dX4_hasRoom_12 : decode cX4_hasRoom 12 = .ok (.iconst 1, 1) := by decide +kernel
theorem dX4_hasRoom_13 : decode cX4_hasRoom 13 = .ok (.goto 4, 3) := by decide +kernel
theorem dX4_hasRoom_16 : decode cX4_hasRoom 16 = .ok (.iconst 0, 1) := by decide +kernel
theorem dX4_hasRoom_17 : decode cX4_hasRoom 17 = .ok (.ireturn, 1) := by decide +kernel
theorem dX4_isWord_0 : decode cX4_isWord 0 = .ok (.aload_n 0, 1) := by decide +kernel
theorem dX4_isWord_1 : decode cX4_isWord 1 = .ok (.getfield 28, 3) := by decide +kernel
theorem dX4_isWord_4 : decode cX4_isWord 4 = .ok (.iconst (-1), 1) := by decide +kernel
theorem dX4_isWord_5 : decode cX4_isWord 5 = .ok (.if_icmp .ne 27, 3) := by decide +kernel
theorem dX4_isWord_8 : decode cX4_isWord 8 = .ok (.aload_n 0, 1) := by decide +kernel
theorem dX4_isWord_9 : decode cX4_isWord 9 = .ok (.getfield 19, 3) := by decide +kernel
theorem dX4_isWord_12 : decode cX4_isWord 12 = .ok (.iconst 1, 1) := by decide +kernel
theorem dX4_isWord_13 : decode cX4_isWord 13 = .ok (.if_icmp .ne 19, 3) := by decide +kernel
theorem dX4_isWord_16 : decode cX4_isWord 16 = .ok (.aload_n 0, 1) := by decide +kernel
theorem dX4_isWord_17 : decode cX4_isWord 17 = .ok (.getfield 25, 3) := by decide +kernel
theorem dX4_isWord_20 : decode cX4_isWord 20 = .ok (.aload_n 0, 1) := by decide +kernel
theorem dX4_isWord_21 : decode cX4_isWord 21 = .ok (.getfield 22, 3) := by decide +kernel
theorem dX4_isWord_24 : decode cX4_isWord 24 = .ok (.isub, 1) := by decide +kernel
theorem dX4_isWord_25 : decode cX4_isWord 25 = .ok (.aload_n 1, 1) := by decide +kernel
theorem dX4_isWord_26 : decode cX4_isWord 26 = .ok (.invokevirtual 123, 3) := by decide +kernel
theorem dX4_isWord_29 : decode cX4_isWord 29 = .ok (.if_icmp .eq 5, 3) := by decide +kernel
theorem dX4_isWord_32 : decode cX4_isWord 32 = .ok (.iconst 0, 1) := by decide +kernel
theorem dX4_isWord_33 : decode cX4_isWord 33 = .ok (.ireturn, 1) := by decide +kernel
theorem dX4_isWord_34 : decode cX4_isWord 34 = .ok (.iconst 0, 1) := by decide +kernel
theorem dX4_isWord_35 : decode cX4_isWord 35 = .ok (.istore_n 2, 1) := by decide +kernel
theorem dX4_isWord_36 : decode cX4_isWord 36 = .ok (.iload_n 2, 1) := by decide +kernel
theorem dX4_isWord_37 : decode cX4_isWord 37 = .ok (.aload_n 1, 1) := by decide +kernel
theorem dX4_isWord_38 : decode cX4_isWord 38 = .ok (.invokevirtual 123, 3) := by decide +kernel
theorem dX4_isWord_41 : decode cX4_isWord 41 = .ok (.if_icmp .ge 30, 3) := by decide +kernel
theorem dX4_isWord_44 : decode cX4_isWord 44 = .ok (.aload_n 0, 1) := by decide +kernel
theorem dX4_isWord_45 : decode cX4_isWord 45 = .ok (.getfield 11, 3) := by decide +kernel
theorem dX4_isWord_48 : decode cX4_isWord 48 = .ok (.aload_n 0, 1) := by decide +kernel
theorem dX4_isWord_49 : decode cX4_isWord 49 = .ok (.getfield 22, 3) := by decide +kernel
theorem dX4_isWord_52 : decode cX4_isWord 52 = .ok (.iload_n 2, 1) := by decide +kernel
theorem dX4_isWord_53 : decode cX4_isWord 53 = .ok (.iadd, 1) := by decide +kernel
theorem dX4_isWord_54 : decode cX4_isWord 54 = .ok (.baload, 1) := by decide +kernel
theorem dX4_isWord_55 : decode cX4_isWord 55 = .ok (.aload_n 1, 1) := by decide +kernel
theorem dX4_isWord_56 : decode cX4_isWord 56 = .ok (.iload_n 2, 1) := by decide +kernel
theorem dX4_isWord_57 : decode cX4_isWord 57 = .ok (.invokevirtual 128, 3) := by decide +kernel
theorem dX4_isWord_60 : decode cX4_isWord 60 = .ok (.if_icmp .eq 5, 3) := by decide +kernel
theorem dX4_isWord_63 : decode cX4_isWord 63 = .ok (.iconst 0, 1) := by decide +kernel
theorem dX4_isWord_64 : decode cX4_isWord 64 = .ok (.ireturn, 1) := by decide +kernel
theorem dX4_isWord_65 : decode cX4_isWord 65 = .ok (.iinc 2 1, 3) := by decide +kernel
theorem dX4_isWord_68 : decode cX4_isWord 68 = .ok (.goto (-32), 3) := by decide +kernel
theorem dX4_isWord_71 : decode cX4_isWord 71 = .ok (.iconst 1, 1) := by decide +kernel
theorem dX4_isWord_72 : decode cX4_isWord 72 = .ok (.ireturn, 1) := by decide +kernel
theorem dX4_numberHere_0 : decode cX4_numberHere 0 = .ok (.aload_n 0, 1) := by decide +kernel
theorem dX4_numberHere_1 : decode cX4_numberHere 1 = .ok (.getfield 28, 3) := by decide +kernel
theorem dX4_numberHere_4 : decode cX4_numberHere 4 = .ok (.iconst (-1), 1) := by decide +kernel
theorem dX4_numberHere_5 : decode cX4_numberHere 5 = .ok (.if_icmp .ne 24, 3) := by decide +kernel
theorem dX4_numberHere_8 : decode cX4_numberHere 8 = .ok (.aload_n 0, 1) := by decide +kernel
theorem dX4_numberHere_9 : decode cX4_numberHere 9 = .ok (.getfield 19, 3) := by decide +kernel
theorem dX4_numberHere_12 : decode cX4_numberHere 12 = .ok (.iconst 2, 1) := by decide +kernel
theorem dX4_numberHere_13 : decode cX4_numberHere 13 = .ok (.if_icmp .ne 16, 3) := by decide +kernel
theorem dX4_numberHere_16 : decode cX4_numberHere 16 = .ok (.aload_n 0, 1) := by decide +kernel
theorem dX4_numberHere_17 : decode cX4_numberHere 17 = .ok (.getfield 25, 3) := by decide +kernel
theorem dX4_numberHere_20 : decode cX4_numberHere 20 = .ok (.aload_n 0, 1) := by decide +kernel
theorem dX4_numberHere_21 : decode cX4_numberHere 21 = .ok (.getfield 22, 3) := by decide +kernel
theorem dX4_numberHere_24 : decode cX4_numberHere 24 = .ok (.isub, 1) := by decide +kernel
theorem dX4_numberHere_25 : decode cX4_numberHere 25 = .ok (.iconst 3, 1) := by decide +kernel
theorem dX4_numberHere_26 : decode cX4_numberHere 26 = .ok (.if_icmp .le 5, 3) := by decide +kernel
theorem dX4_numberHere_29 : decode cX4_numberHere 29 = .ok (.iconst (-1), 1) := by decide +kernel
theorem dX4_numberHere_30 : decode cX4_numberHere 30 = .ok (.ireturn, 1) := by decide +kernel
theorem dX4_numberHere_31 : decode cX4_numberHere 31 = .ok (.iconst 0, 1) := by decide +kernel
theorem dX4_numberHere_32 : decode cX4_numberHere 32 = .ok (.istore_n 1, 1) := by decide +kernel
theorem dX4_numberHere_33 : decode cX4_numberHere 33 = .ok (.aload_n 0, 1) := by decide +kernel
theorem dX4_numberHere_34 : decode cX4_numberHere 34 = .ok (.getfield 22, 3) := by decide +kernel
theorem dX4_numberHere_37 : decode cX4_numberHere 37 = .ok (.istore_n 2, 1) := by decide +kernel
theorem dX4_numberHere_38 : decode cX4_numberHere 38 = .ok (.iload_n 2, 1) := by decide +kernel
theorem dX4_numberHere_39 : decode cX4_numberHere 39 = .ok (.aload_n 0, 1) := by decide +kernel
theorem dX4_numberHere_40 : decode cX4_numberHere 40 = .ok (.getfield 25, 3) := by decide +kernel
theorem dX4_numberHere_43 : decode cX4_numberHere 43 = .ok (.if_icmp .ge 24, 3) := by decide +kernel
theorem dX4_numberHere_46 : decode cX4_numberHere 46 = .ok (.bipush 10, 2) := by decide +kernel
theorem dX4_numberHere_48 : decode cX4_numberHere 48 = .ok (.iload_n 1, 1) := by decide +kernel
theorem dX4_numberHere_49 : decode cX4_numberHere 49 = .ok (.imul, 1) := by decide +kernel
theorem dX4_numberHere_50 : decode cX4_numberHere 50 = .ok (.aload_n 0, 1) := by decide +kernel
theorem dX4_numberHere_51 : decode cX4_numberHere 51 = .ok (.getfield 11, 3) := by decide +kernel
theorem dX4_numberHere_54 : decode cX4_numberHere 54 = .ok (.iload_n 2, 1) := by decide +kernel
theorem dX4_numberHere_55 : decode cX4_numberHere 55 = .ok (.baload, 1) := by decide +kernel
theorem dX4_numberHere_56 : decode cX4_numberHere 56 = .ok (.iadd, 1) := by decide +kernel
theorem dX4_numberHere_57 : decode cX4_numberHere 57 = .ok (.bipush 48, 2) := by decide +kernel
theorem dX4_numberHere_59 : decode cX4_numberHere 59 = .ok (.isub, 1) := by decide +kernel
theorem dX4_numberHere_60 : decode cX4_numberHere 60 = .ok (.istore_n 1, 1) := by decide +kernel
theorem dX4_numberHere_61 : decode cX4_numberHere 61 = .ok (.iinc 2 1, 3) := by decide +kernel
theorem dX4_numberHere_64 : decode cX4_numberHere 64 = .ok (.goto (-26), 3) := by decide +kernel
theorem dX4_numberHere_67 : decode cX4_numberHere 67 = .ok (.iload_n 1, 1) := by decide +kernel
theorem dX4_numberHere_68 : decode cX4_numberHere 68 = .ok (.ireturn, 1) := by decide +kernel
theorem dX4_sortAt_0 : decode cX4_sortAt 0 = .ok (.iload_n 1, 1) := by decide +kernel
theorem dX4_sortAt_1 : decode cX4_sortAt 1 = .ok (.ifCond .lt 11, 3) := by decide +kernel
theorem dX4_sortAt_4 : decode cX4_sortAt 4 = .ok (.iload_n 1, 1) := by decide +kernel
theorem dX4_sortAt_5 : decode cX4_sortAt 5 = .ok (.aload_n 0, 1) := by decide +kernel
theorem dX4_sortAt_6 : decode cX4_sortAt 6 = .ok (.getfield 15, 3) := by decide +kernel
theorem dX4_sortAt_9 : decode cX4_sortAt 9 = .ok (.if_icmp .lt 5, 3) := by decide +kernel
theorem dX4_sortAt_12 : decode cX4_sortAt 12 = .ok (.iconst 0, 1) := by decide +kernel
theorem dX4_sortAt_13 : decode cX4_sortAt 13 = .ok (.ireturn, 1) := by decide +kernel
theorem dX4_sortAt_14 : decode cX4_sortAt 14 = .ok (.aload_n 0, 1) := by decide +kernel
theorem dX4_sortAt_15 : decode cX4_sortAt 15 = .ok (.getfield 11, 3) := by decide +kernel
theorem dX4_sortAt_18 : decode cX4_sortAt 18 = .ok (.iload_n 1, 1) := by decide +kernel
theorem dX4_sortAt_19 : decode cX4_sortAt 19 = .ok (.baload, 1) := by decide +kernel
theorem dX4_sortAt_20 : decode cX4_sortAt 20 = .ok (.istore_n 2, 1) := by decide +kernel
theorem dX4_sortAt_21 : decode cX4_sortAt 21 = .ok (.iload_n 2, 1) := by decide +kernel
theorem dX4_sortAt_22 : decode cX4_sortAt 22 = .ok (.bipush 97, 2) := by decide +kernel
theorem dX4_sortAt_24 : decode cX4_sortAt 24 = .ok (.if_icmp .lt 11, 3) := by decide +kernel
theorem dX4_sortAt_27 : decode cX4_sortAt 27 = .ok (.iload_n 2, 1) := by decide +kernel
theorem dX4_sortAt_28 : decode cX4_sortAt 28 = .ok (.bipush 122, 2) := by decide +kernel
theorem dX4_sortAt_30 : decode cX4_sortAt 30 = .ok (.if_icmp .gt 5, 3) := by decide +kernel
theorem dX4_sortAt_33 : decode cX4_sortAt 33 = .ok (.iconst 1, 1) := by decide +kernel
theorem dX4_sortAt_34 : decode cX4_sortAt 34 = .ok (.ireturn, 1) := by decide +kernel
theorem dX4_sortAt_35 : decode cX4_sortAt 35 = .ok (.iload_n 2, 1) := by decide +kernel
theorem dX4_sortAt_36 : decode cX4_sortAt 36 = .ok (.bipush 48, 2) := by decide +kernel
theorem dX4_sortAt_38 : decode cX4_sortAt 38 = .ok (.if_icmp .lt 11, 3) := by decide +kernel
theorem dX4_sortAt_41 : decode cX4_sortAt 41 = .ok (.iload_n 2, 1) := by decide +kernel
theorem dX4_sortAt_42 : decode cX4_sortAt 42 = .ok (.bipush 57, 2) := by decide +kernel
theorem dX4_sortAt_44 : decode cX4_sortAt 44 = .ok (.if_icmp .gt 5, 3) := by decide +kernel
theorem dX4_sortAt_47 : decode cX4_sortAt 47 = .ok (.iconst 2, 1) := by decide +kernel
theorem dX4_sortAt_48 : decode cX4_sortAt 48 = .ok (.ireturn, 1) := by decide +kernel
theorem dX4_sortAt_49 : decode cX4_sortAt 49 = .ok (.iload_n 2, 1) := by decide +kernel
theorem dX4_sortAt_50 : decode cX4_sortAt 50 = .ok (.bipush 59, 2) := by decide +kernel
theorem dX4_sortAt_52 : decode cX4_sortAt 52 = .ok (.if_icmp .ne 7, 3) := by decide +kernel
theorem dX4_sortAt_55 : decode cX4_sortAt 55 = .ok (.iconst 3, 1) := by decide +kernel
theorem dX4_sortAt_56 : decode cX4_sortAt 56 = .ok (.goto 4, 3) := by decide +kernel
theorem dX4_sortAt_59 : decode cX4_sortAt 59 = .ok (.iconst 4, 1) := by decide +kernel
theorem dX4_sortAt_60 : decode cX4_sortAt 60 = .ok (.ireturn, 1) := by decide +kernel
theorem dX4_step_0 : decode cX4_step 0 = .ok (.aload_n 0, 1) := by decide +kernel
theorem dX4_step_1 : decode cX4_step 1 = .ok (.aload_n 0, 1) := by decide +kernel
theorem dX4_step_2 : decode cX4_step 2 = .ok (.getfield 25, 3) := by decide +kernel
theorem dX4_step_5 : decode cX4_step 5 = .ok (.putfield 22, 3) := by decide +kernel
theorem dX4_step_8 : decode cX4_step 8 = .ok (.aload_n 0, 1) := by decide +kernel
theorem dX4_step_9 : decode cX4_step 9 = .ok (.getfield 22, 3) := by decide +kernel
theorem dX4_step_12 : decode cX4_step 12 = .ok (.aload_n 0, 1) := by decide +kernel
theorem dX4_step_13 : decode cX4_step 13 = .ok (.getfield 15, 3) := by decide +kernel
theorem dX4_step_16 : decode cX4_step 16 = .ok (.if_icmp .ge 30, 3) := by decide +kernel
theorem dX4_step_19 : decode cX4_step 19 = .ok (.aload_n 0, 1) := by decide +kernel
theorem dX4_step_20 : decode cX4_step 20 = .ok (.getfield 11, 3) := by decide +kernel
theorem dX4_step_23 : decode cX4_step 23 = .ok (.aload_n 0, 1) := by decide +kernel
theorem dX4_step_24 : decode cX4_step 24 = .ok (.getfield 22, 3) := by decide +kernel
theorem dX4_step_27 : decode cX4_step 27 = .ok (.baload, 1) := by decide +kernel
theorem dX4_step_28 : decode cX4_step 28 = .ok (.bipush 32, 2) := by decide +kernel
theorem dX4_step_30 : decode cX4_step 30 = .ok (.if_icmp .ne 16, 3) := by decide +kernel
theorem dX4_step_33 : decode cX4_step 33 = .ok (.aload_n 0, 1) := by decide +kernel
theorem dX4_step_34 : decode cX4_step 34 = .ok (.dup, 1) := by decide +kernel
theorem dX4_step_35 : decode cX4_step 35 = .ok (.getfield 22, 3) := by decide +kernel
theorem dX4_step_38 : decode cX4_step 38 = .ok (.iconst 1, 1) := by decide +kernel
theorem dX4_step_39 : decode cX4_step 39 = .ok (.iadd, 1) := by decide +kernel
theorem dX4_step_40 : decode cX4_step 40 = .ok (.putfield 22, 3) := by decide +kernel
theorem dX4_step_43 : decode cX4_step 43 = .ok (.goto (-35), 3) := by decide +kernel
theorem dX4_step_46 : decode cX4_step 46 = .ok (.aload_n 0, 1) := by decide +kernel
theorem dX4_step_47 : decode cX4_step 47 = .ok (.aload_n 0, 1) := by decide +kernel
theorem dX4_step_48 : decode cX4_step 48 = .ok (.getfield 22, 3) := by decide +kernel
theorem dX4_step_51 : decode cX4_step 51 = .ok (.putfield 25, 3) := by decide +kernel
theorem dX4_step_54 : decode cX4_step 54 = .ok (.aload_n 0, 1) := by decide +kernel
theorem dX4_step_55 : decode cX4_step 55 = .ok (.aload_n 0, 1) := by decide +kernel
theorem dX4_step_56 : decode cX4_step 56 = .ok (.aload_n 0, 1) := by decide +kernel
theorem dX4_step_57 : decode cX4_step 57 = .ok (.getfield 22, 3) := by decide +kernel
theorem dX4_step_60 : decode cX4_step 60 = .ok (.invokevirtual 132, 3) := by decide +kernel
theorem dX4_step_63 : decode cX4_step 63 = .ok (.putfield 19, 3) := by decide +kernel
theorem dX4_step_66 : decode cX4_step 66 = .ok (.aload_n 0, 1) := by decide +kernel
theorem dX4_step_67 : decode cX4_step 67 = .ok (.getfield 19, 3) := by decide +kernel
theorem dX4_step_70 : decode cX4_step 70 = .ok (.ifCond .eq 13, 3) := by decide +kernel
theorem dX4_step_73 : decode cX4_step 73 = .ok (.aload_n 0, 1) := by decide +kernel
theorem dX4_step_74 : decode cX4_step 74 = .ok (.dup, 1) := by decide +kernel
theorem dX4_step_75 : decode cX4_step 75 = .ok (.getfield 25, 3) := by decide +kernel
theorem dX4_step_78 : decode cX4_step 78 = .ok (.iconst 1, 1) := by decide +kernel
theorem dX4_step_79 : decode cX4_step 79 = .ok (.iadd, 1) := by decide +kernel
theorem dX4_step_80 : decode cX4_step 80 = .ok (.putfield 25, 3) := by decide +kernel
theorem dX4_step_83 : decode cX4_step 83 = .ok (.aload_n 0, 1) := by decide +kernel
theorem dX4_step_84 : decode cX4_step 84 = .ok (.getfield 25, 3) := by decide +kernel
theorem dX4_step_87 : decode cX4_step 87 = .ok (.aload_n 0, 1) := by decide +kernel
theorem dX4_step_88 : decode cX4_step 88 = .ok (.getfield 15, 3) := by decide +kernel
theorem dX4_step_91 : decode cX4_step 91 = .ok (.if_icmp .ge 47, 3) := by decide +kernel
theorem dX4_step_94 : decode cX4_step 94 = .ok (.aload_n 0, 1) := by decide +kernel
theorem dX4_step_95 : decode cX4_step 95 = .ok (.getfield 19, 3) := by decide +kernel
theorem dX4_step_98 : decode cX4_step 98 = .ok (.iconst 1, 1) := by decide +kernel
theorem dX4_step_99 : decode cX4_step 99 = .ok (.if_icmp .eq 11, 3) := by decide +kernel
theorem dX4_step_102 : decode cX4_step 102 = .ok (.aload_n 0, 1) := by decide +kernel
theorem dX4_step_103 : decode cX4_step 103 = .ok (.getfield 19, 3) := by decide +kernel
theorem dX4_step_106 : decode cX4_step 106 = .ok (.iconst 2, 1) := by decide +kernel
theorem dX4_step_107 : decode cX4_step 107 = .ok (.if_icmp .ne 31, 3) := by decide +kernel
theorem dX4_step_110 : decode cX4_step 110 = .ok (.aload_n 0, 1) := by decide +kernel
theorem dX4_step_111 : decode cX4_step 111 = .ok (.aload_n 0, 1) := by decide +kernel
theorem dX4_step_112 : decode cX4_step 112 = .ok (.getfield 25, 3) := by decide +kernel
theorem dX4_step_115 : decode cX4_step 115 = .ok (.invokevirtual 132, 3) := by decide +kernel
theorem dX4_step_118 : decode cX4_step 118 = .ok (.aload_n 0, 1) := by decide +kernel
theorem dX4_step_119 : decode cX4_step 119 = .ok (.getfield 19, 3) := by decide +kernel
theorem dX4_step_122 : decode cX4_step 122 = .ok (.if_icmp .ne 16, 3) := by decide +kernel
theorem dX4_step_125 : decode cX4_step 125 = .ok (.aload_n 0, 1) := by decide +kernel
theorem dX4_step_126 : decode cX4_step 126 = .ok (.dup, 1) := by decide +kernel
theorem dX4_step_127 : decode cX4_step 127 = .ok (.getfield 25, 3) := by decide +kernel
theorem dX4_step_130 : decode cX4_step 130 = .ok (.iconst 1, 1) := by decide +kernel
theorem dX4_step_131 : decode cX4_step 131 = .ok (.iadd, 1) := by decide +kernel
theorem dX4_step_132 : decode cX4_step 132 = .ok (.putfield 25, 3) := by decide +kernel
theorem dX4_step_135 : decode cX4_step 135 = .ok (.goto (-52), 3) := by decide +kernel
theorem dX4_step_138 : decode cX4_step 138 = .ok (.return_, 1) := by decide +kernel
theorem dX4_readNumber_0 : decode cX4_readNumber 0 = .ok (.aload_n 0, 1) := by decide +kernel
theorem dX4_readNumber_1 : decode cX4_readNumber 1 = .ok (.invokevirtual 116, 3) := by decide +kernel
theorem dX4_readNumber_4 : decode cX4_readNumber 4 = .ok (.istore_n 3, 1) := by decide +kernel
theorem dX4_readNumber_5 : decode cX4_readNumber 5 = .ok (.iload_n 3, 1) := by decide +kernel
theorem dX4_readNumber_6 : decode cX4_readNumber 6 = .ok (.iload_n 1, 1) := by decide +kernel
theorem dX4_readNumber_7 : decode cX4_readNumber 7 = .ok (.if_icmp .lt 8, 3) := by decide +kernel
theorem dX4_readNumber_10 : decode cX4_readNumber 10 = .ok (.iload_n 3, 1) := by decide +kernel
theorem dX4_readNumber_11 : decode cX4_readNumber 11 = .ok (.iload_n 2, 1) := by decide +kernel
theorem dX4_readNumber_12 : decode cX4_readNumber 12 = .ok (.if_icmp .le 9, 3) := by decide +kernel
theorem dX4_readNumber_15 : decode cX4_readNumber 15 = .ok (.aload_n 0, 1) := by decide +kernel
theorem dX4_readNumber_16 : decode cX4_readNumber 16 = .ok (.invokevirtual 77, 3) := by decide +kernel
theorem dX4_readNumber_19 : decode cX4_readNumber 19 = .ok (.iload_n 1, 1) := by decide +kernel
theorem dX4_readNumber_20 : decode cX4_readNumber 20 = .ok (.ireturn, 1) := by decide +kernel
theorem dX4_readNumber_21 : decode cX4_readNumber 21 = .ok (.aload_n 0, 1) := by decide +kernel
theorem dX4_readNumber_22 : decode cX4_readNumber 22 = .ok (.invokevirtual 31, 3) := by decide +kernel
theorem dX4_readNumber_25 : decode cX4_readNumber 25 = .ok (.iload_n 3, 1) := by decide +kernel
theorem dX4_readNumber_26 : decode cX4_readNumber 26 = .ok (.ireturn, 1) := by decide +kernel
theorem dX4_readColumn_0 : decode cX4_readColumn 0 = .ok (.aload_n 0, 1) := by decide +kernel
theorem dX4_readColumn_1 : decode cX4_readColumn 1 = .ok (.getstatic 110, 3) := by decide +kernel
theorem dX4_readColumn_4 : decode cX4_readColumn 4 = .ok (.iload_n 1, 1) := by decide +kernel
theorem dX4_readColumn_5 : decode cX4_readColumn 5 = .ok (.iaload, 1) := by decide +kernel
theorem dX4_readColumn_6 : decode cX4_readColumn 6 = .ok (.getstatic 113, 3) := by decide +kernel
theorem dX4_readColumn_9 : decode cX4_readColumn 9 = .ok (.iload_n 1, 1) := by decide +kernel
theorem dX4_readColumn_10 : decode cX4_readColumn 10 = .ok (.iaload, 1) := by decide +kernel
theorem dX4_readColumn_11 : decode cX4_readColumn 11 = .ok (.invokevirtual 58, 3) := by decide +kernel
theorem dX4_readColumn_14 : decode cX4_readColumn 14 = .ok (.ireturn, 1) := by decide +kernel
theorem dX4_take_0 : decode cX4_take 0 = .ok (.aload_n 0, 1) := by decide +kernel
theorem dX4_take_1 : decode cX4_take 1 = .ok (.aload_n 1, 1) := by decide +kernel
theorem dX4_take_2 : decode cX4_take 2 = .ok (.invokevirtual 120, 3) := by decide +kernel
theorem dX4_take_5 : decode cX4_take 5 = .ok (.istore_n 2, 1) := by decide +kernel
theorem dX4_take_6 : decode cX4_take 6 = .ok (.iload_n 2, 1) := by decide +kernel
theorem dX4_take_7 : decode cX4_take 7 = .ok (.ifCond .eq 7, 3) := by decide +kernel
theorem dX4_take_10 : decode cX4_take 10 = .ok (.aload_n 0, 1) := by decide +kernel
theorem dX4_take_11 : decode cX4_take 11 = .ok (.invokevirtual 31, 3) := by decide +kernel
theorem dX4_take_14 : decode cX4_take 14 = .ok (.iload_n 2, 1) := by decide +kernel
theorem dX4_take_15 : decode cX4_take 15 = .ok (.ireturn, 1) := by decide +kernel
theorem dX4_readDebt_0 : decode cX4_readDebt 0 = .ok (.aload_n 0, 1) := by decide +kernel
theorem dX4_readDebt_1 : decode cX4_readDebt 1 = .ok (.iconst 1, 1) := by decide +kernel
theorem dX4_readDebt_2 : decode cX4_readDebt 2 = .ok (.invokevirtual 80, 3) := by decide +kernel
theorem dX4_readDebt_5 : decode cX4_readDebt 5 = .ok (.istore_n 2, 1) := by decide +kernel
theorem dX4_readDebt_6 : decode cX4_readDebt 6 = .ok (.aload_n 0, 1) := by decide +kernel
theorem dX4_readDebt_7 : decode cX4_readDebt 7 = .ok (.ldc 84, 2) := by decide +kernel
theorem dX4_readDebt_9 : decode cX4_readDebt 9 = .ok (.invokevirtual 49, 3) := by decide +kernel
theorem dX4_readDebt_12 : decode cX4_readDebt 12 = .ok (.ifCond .ne 7, 3) := by decide +kernel
theorem dX4_readDebt_15 : decode cX4_readDebt 15 = .ok (.aload_n 0, 1) := by decide +kernel
theorem dX4_readDebt_16 : decode cX4_readDebt 16 = .ok (.invokevirtual 77, 3) := by decide +kernel
theorem dX4_readDebt_19 : decode cX4_readDebt 19 = .ok (.aload_n 0, 1) := by decide +kernel
theorem dX4_readDebt_20 : decode cX4_readDebt 20 = .ok (.iconst 0, 1) := by decide +kernel
theorem dX4_readDebt_21 : decode cX4_readDebt 21 = .ok (.invokevirtual 80, 3) := by decide +kernel
theorem dX4_readDebt_24 : decode cX4_readDebt 24 = .ok (.istore_n 3, 1) := by decide +kernel
theorem dX4_readDebt_25 : decode cX4_readDebt 25 = .ok (.aload_n 0, 1) := by decide +kernel
theorem dX4_readDebt_26 : decode cX4_readDebt 26 = .ok (.ldc 86, 2) := by decide +kernel
theorem dX4_readDebt_28 : decode cX4_readDebt 28 = .ok (.invokevirtual 49, 3) := by decide +kernel
theorem dX4_readDebt_31 : decode cX4_readDebt 31 = .ok (.ifCond .eq 11, 3) := by decide +kernel
theorem dX4_readDebt_34 : decode cX4_readDebt 34 = .ok (.aload_n 0, 1) := by decide +kernel
theorem dX4_readDebt_35 : decode cX4_readDebt 35 = .ok (.iconst 2, 1) := by decide +kernel
theorem dX4_readDebt_36 : decode cX4_readDebt 36 = .ok (.invokevirtual 80, 3) := by decide +kernel
theorem dX4_readDebt_39 : decode cX4_readDebt 39 = .ok (.goto 4, 3) := by decide +kernel
theorem dX4_readDebt_42 : decode cX4_readDebt 42 = .ok (.iconst 0, 1) := by decide +kernel
theorem dX4_readDebt_43 : decode cX4_readDebt 43 = .ok (.istore 4, 2) := by decide +kernel
theorem dX4_readDebt_45 : decode cX4_readDebt 45 = .ok (.aload_n 0, 1) := by decide +kernel
theorem dX4_readDebt_46 : decode cX4_readDebt 46 = .ok (.ldc 88, 2) := by decide +kernel
theorem dX4_readDebt_48 : decode cX4_readDebt 48 = .ok (.invokevirtual 49, 3) := by decide +kernel
theorem dX4_readDebt_51 : decode cX4_readDebt 51 = .ok (.ifCond .eq 11, 3) := by decide +kernel
theorem dX4_readDebt_54 : decode cX4_readDebt 54 = .ok (.aload_n 0, 1) := by decide +kernel
theorem dX4_readDebt_55 : decode cX4_readDebt 55 = .ok (.iconst 3, 1) := by decide +kernel
theorem dX4_readDebt_56 : decode cX4_readDebt 56 = .ok (.invokevirtual 80, 3) := by decide +kernel
theorem dX4_readDebt_59 : decode cX4_readDebt 59 = .ok (.goto 4, 3) := by decide +kernel
theorem dX4_readDebt_62 : decode cX4_readDebt 62 = .ok (.iconst 3, 1) := by decide +kernel
theorem dX4_readDebt_63 : decode cX4_readDebt 63 = .ok (.istore 5, 2) := by decide +kernel
theorem dX4_readDebt_65 : decode cX4_readDebt 65 = .ok (.aload_n 0, 1) := by decide +kernel
theorem dX4_readDebt_66 : decode cX4_readDebt 66 = .ok (.ldc 90, 2) := by decide +kernel
theorem dX4_readDebt_68 : decode cX4_readDebt 68 = .ok (.invokevirtual 49, 3) := by decide +kernel
theorem dX4_readDebt_71 : decode cX4_readDebt 71 = .ok (.ifCond .eq 11, 3) := by decide +kernel
theorem dX4_readDebt_74 : decode cX4_readDebt 74 = .ok (.aload_n 0, 1) := by decide +kernel
theorem dX4_readDebt_75 : decode cX4_readDebt 75 = .ok (.iconst 4, 1) := by decide +kernel
theorem dX4_readDebt_76 : decode cX4_readDebt 76 = .ok (.invokevirtual 80, 3) := by decide +kernel
theorem dX4_readDebt_79 : decode cX4_readDebt 79 = .ok (.goto 5, 3) := by decide +kernel
theorem dX4_readDebt_82 : decode cX4_readDebt 82 = .ok (.bipush 10, 2) := by decide +kernel
theorem dX4_readDebt_84 : decode cX4_readDebt 84 = .ok (.istore 6, 2) := by decide +kernel
theorem dX4_readDebt_86 : decode cX4_readDebt 86 = .ok (.aload_n 0, 1) := by decide +kernel
theorem dX4_readDebt_87 : decode cX4_readDebt 87 = .ok (.ldc 92, 2) := by decide +kernel
theorem dX4_readDebt_89 : decode cX4_readDebt 89 = .ok (.invokevirtual 49, 3) := by decide +kernel
theorem dX4_readDebt_92 : decode cX4_readDebt 92 = .ok (.ifCond .eq 11, 3) := by decide +kernel
theorem dX4_readDebt_95 : decode cX4_readDebt 95 = .ok (.aload_n 0, 1) := by decide +kernel
theorem dX4_readDebt_96 : decode cX4_readDebt 96 = .ok (.iconst 5, 1) := by decide +kernel
theorem dX4_readDebt_97 : decode cX4_readDebt 97 = .ok (.invokevirtual 80, 3) := by decide +kernel
theorem dX4_readDebt_100 : decode cX4_readDebt 100 = .ok (.goto 4, 3) := by decide +kernel
theorem dX4_readDebt_103 : decode cX4_readDebt 103 = .ok (.iconst 5, 1) := by decide +kernel
theorem dX4_readDebt_104 : decode cX4_readDebt 104 = .ok (.istore 7, 2) := by decide +kernel
theorem dX4_readDebt_106 : decode cX4_readDebt 106 = .ok (.aload_n 1, 1) := by decide +kernel
theorem dX4_readDebt_107 : decode cX4_readDebt 107 = .ok (.iload_n 3, 1) := by decide +kernel
theorem dX4_readDebt_108 : decode cX4_readDebt 108 = .ok (.iload_n 2, 1) := by decide +kernel
theorem dX4_readDebt_109 : decode cX4_readDebt 109 = .ok (.iload 4, 2) := by decide +kernel
theorem dX4_readDebt_111 : decode cX4_readDebt 111 = .ok (.iload 5, 2) := by decide +kernel
theorem dX4_readDebt_113 : decode cX4_readDebt 113 = .ok (.iload 6, 2) := by decide +kernel
theorem dX4_readDebt_115 : decode cX4_readDebt 115 = .ok (.iload 7, 2) := by decide +kernel
theorem dX4_readDebt_117 : decode cX4_readDebt 117 = .ok (.invokevirtual 94, 3) := by decide +kernel
theorem dX4_readDebt_120 : decode cX4_readDebt 120 = .ok (.pop, 1) := by decide +kernel
theorem dX4_readDebt_121 : decode cX4_readDebt 121 = .ok (.return_, 1) := by decide +kernel
theorem dX4_readIncome_0 : decode cX4_readIncome 0 = .ok (.aload_n 0, 1) := by decide +kernel
theorem dX4_readIncome_1 : decode cX4_readIncome 1 = .ok (.iconst 0, 1) := by decide +kernel
theorem dX4_readIncome_2 : decode cX4_readIncome 2 = .ok (.bipush 99, 2) := by decide +kernel
theorem dX4_readIncome_4 : decode cX4_readIncome 4 = .ok (.invokevirtual 58, 3) := by decide +kernel
theorem dX4_readIncome_7 : decode cX4_readIncome 7 = .ok (.istore_n 2, 1) := by decide +kernel
theorem dX4_readIncome_8 : decode cX4_readIncome 8 = .ok (.aload_n 0, 1) := by decide +kernel
theorem dX4_readIncome_9 : decode cX4_readIncome 9 = .ok (.ldc 98, 2) := by decide +kernel
theorem dX4_readIncome_11 : decode cX4_readIncome 11 = .ok (.invokevirtual 49, 3) := by decide +kernel
theorem dX4_readIncome_14 : decode cX4_readIncome 14 = .ok (.ifCond .eq 19, 3) := by decide +kernel
theorem dX4_readIncome_17 : decode cX4_readIncome 17 = .ok (.aload_n 1, 1) := by decide +kernel
theorem dX4_readIncome_18 : decode cX4_readIncome 18 = .ok (.getfield 100, 3) := by decide +kernel
theorem dX4_readIncome_21 : decode cX4_readIncome 21 = .ok (.aload_n 0, 1) := by decide +kernel
theorem dX4_readIncome_22 : decode cX4_readIncome 22 = .ok (.iconst 0, 1) := by decide +kernel
theorem dX4_readIncome_23 : decode cX4_readIncome 23 = .ok (.bipush 11, 2) := by decide +kernel
theorem dX4_readIncome_25 : decode cX4_readIncome 25 = .ok (.invokevirtual 58, 3) := by decide +kernel
theorem dX4_readIncome_28 : decode cX4_readIncome 28 = .ok (.iload_n 2, 1) := by decide +kernel
theorem dX4_readIncome_29 : decode cX4_readIncome 29 = .ok (.iastore, 1) := by decide +kernel
theorem dX4_readIncome_30 : decode cX4_readIncome 30 = .ok (.goto 11, 3) := by decide +kernel
theorem dX4_readIncome_33 : decode cX4_readIncome 33 = .ok (.aload_n 1, 1) := by decide +kernel
theorem dX4_readIncome_34 : decode cX4_readIncome 34 = .ok (.getfield 100, 3) := by decide +kernel
theorem dX4_readIncome_37 : decode cX4_readIncome 37 = .ok (.iload_n 2, 1) := by decide +kernel
theorem dX4_readIncome_38 : decode cX4_readIncome 38 = .ok (.invokestatic 104, 3) := by decide +kernel
theorem dX4_readIncome_41 : decode cX4_readIncome 41 = .ok (.return_, 1) := by decide +kernel
theorem dX4_readSign_0 : decode cX4_readSign 0 = .ok (.aload_n 0, 1) := by decide +kernel
theorem dX4_readSign_1 : decode cX4_readSign 1 = .ok (.getfield 19, 3) := by decide +kernel
theorem dX4_readSign_4 : decode cX4_readSign 4 = .ok (.iconst 3, 1) := by decide +kernel
theorem dX4_readSign_5 : decode cX4_readSign 5 = .ok (.if_icmp .ne 10, 3) := by decide +kernel
theorem dX4_readSign_8 : decode cX4_readSign 8 = .ok (.aload_n 0, 1) := by decide +kernel
theorem dX4_readSign_9 : decode cX4_readSign 9 = .ok (.invokevirtual 31, 3) := by decide +kernel
theorem dX4_readSign_12 : decode cX4_readSign 12 = .ok (.goto 7, 3) := by decide +kernel
theorem dX4_readSign_15 : decode cX4_readSign 15 = .ok (.aload_n 0, 1) := by decide +kernel
theorem dX4_readSign_16 : decode cX4_readSign 16 = .ok (.invokevirtual 77, 3) := by decide +kernel
theorem dX4_readSign_19 : decode cX4_readSign 19 = .ok (.return_, 1) := by decide +kernel
theorem dX4_readStatement_0 : decode cX4_readStatement 0 = .ok (.aload_n 1, 1) := by decide +kernel
theorem dX4_readStatement_1 : decode cX4_readStatement 1 = .ok (.invokevirtual 41, 3) := by decide +kernel
theorem dX4_readStatement_4 : decode cX4_readStatement 4 = .ok (.ifCond .eq 20, 3) := by decide +kernel
theorem dX4_readStatement_7 : decode cX4_readStatement 7 = .ok (.aload_n 0, 1) := by decide +kernel
theorem dX4_readStatement_8 : decode cX4_readStatement 8 = .ok (.ldc 47, 2) := by decide +kernel
theorem dX4_readStatement_10 : decode cX4_readStatement 10 = .ok (.invokevirtual 49, 3) := by decide +kernel
theorem dX4_readStatement_13 : decode cX4_readStatement 13 = .ok (.ifCond .eq 11, 3) := by decide +kernel
theorem dX4_readStatement_16 : decode cX4_readStatement 16 = .ok (.aload_n 0, 1) := by decide +kernel
theorem dX4_readStatement_17 : decode cX4_readStatement 17 = .ok (.aload_n 1, 1) := by decide +kernel
theorem dX4_readStatement_18 : decode cX4_readStatement 18 = .ok (.invokevirtual 53, 3) := by decide +kernel
theorem dX4_readStatement_21 : decode cX4_readStatement 21 = .ok (.goto 94, 3) := by decide +kernel
theorem dX4_readStatement_24 : decode cX4_readStatement 24 = .ok (.aload_n 0, 1) := by decide +kernel
theorem dX4_readStatement_25 : decode cX4_readStatement 25 = .ok (.ldc 56, 2) := by decide +kernel
theorem dX4_readStatement_27 : decode cX4_readStatement 27 = .ok (.invokevirtual 49, 3) := by decide +kernel
theorem dX4_readStatement_30 : decode cX4_readStatement 30 = .ok (.ifCond .eq 18, 3) := by decide +kernel
theorem dX4_readStatement_33 : decode cX4_readStatement 33 = .ok (.aload_n 1, 1) := by decide +kernel
theorem dX4_readStatement_34 : decode cX4_readStatement 34 = .ok (.aload_n 0, 1) := by decide +kernel
theorem dX4_readStatement_35 : decode cX4_readStatement 35 = .ok (.iconst 0, 1) := by decide +kernel
theorem dX4_readStatement_36 : decode cX4_readStatement 36 = .ok (.sipush 999, 3) := by decide +kernel
theorem dX4_readStatement_39 : decode cX4_readStatement 39 = .ok (.invokevirtual 58, 3) := by decide +kernel
theorem dX4_readStatement_42 : decode cX4_readStatement 42 = .ok (.putfield 62, 3) := by decide +kernel
theorem dX4_readStatement_45 : decode cX4_readStatement 45 = .ok (.goto 70, 3) := by decide +kernel
theorem dX4_readStatement_48 : decode cX4_readStatement 48 = .ok (.aload_n 0, 1) := by decide +kernel
theorem dX4_readStatement_49 : decode cX4_readStatement 49 = .ok (.ldc 64, 2) := by decide +kernel
theorem dX4_readStatement_51 : decode cX4_readStatement 51 = .ok (.invokevirtual 49, 3) := by decide +kernel
theorem dX4_readStatement_54 : decode cX4_readStatement 54 = .ok (.ifCond .eq 11, 3) := by decide +kernel
theorem dX4_readStatement_57 : decode cX4_readStatement 57 = .ok (.aload_n 0, 1) := by decide +kernel
theorem dX4_readStatement_58 : decode cX4_readStatement 58 = .ok (.aload_n 1, 1) := by decide +kernel
theorem dX4_readStatement_59 : decode cX4_readStatement 59 = .ok (.invokevirtual 66, 3) := by decide +kernel
theorem dX4_readStatement_62 : decode cX4_readStatement 62 = .ok (.goto 53, 3) := by decide +kernel
theorem dX4_readStatement_65 : decode cX4_readStatement 65 = .ok (.aload_n 0, 1) := by decide +kernel
theorem dX4_readStatement_66 : decode cX4_readStatement 66 = .ok (.ldc 69, 2) := by decide +kernel
theorem dX4_readStatement_68 : decode cX4_readStatement 68 = .ok (.invokevirtual 49, 3) := by decide +kernel
theorem dX4_readStatement_71 : decode cX4_readStatement 71 = .ok (.ifCond .eq 17, 3) := by decide +kernel
theorem dX4_readStatement_74 : decode cX4_readStatement 74 = .ok (.aload_n 1, 1) := by decide +kernel
theorem dX4_readStatement_75 : decode cX4_readStatement 75 = .ok (.aload_n 0, 1) := by decide +kernel
theorem dX4_readStatement_76 : decode cX4_readStatement 76 = .ok (.iconst 1, 1) := by decide +kernel
theorem dX4_readStatement_77 : decode cX4_readStatement 77 = .ok (.bipush 50, 2) := by decide +kernel
theorem dX4_readStatement_79 : decode cX4_readStatement 79 = .ok (.invokevirtual 58, 3) := by decide +kernel
theorem dX4_readStatement_82 : decode cX4_readStatement 82 = .ok (.putfield 71, 3) := by decide +kernel
theorem dX4_readStatement_85 : decode cX4_readStatement 85 = .ok (.goto 30, 3) := by decide +kernel
theorem dX4_readStatement_88 : decode cX4_readStatement 88 = .ok (.aload_n 0, 1) := by decide +kernel
theorem dX4_readStatement_89 : decode cX4_readStatement 89 = .ok (.ldc 73, 2) := by decide +kernel
theorem dX4_readStatement_91 : decode cX4_readStatement 91 = .ok (.invokevirtual 49, 3) := by decide +kernel
theorem dX4_readStatement_94 : decode cX4_readStatement 94 = .ok (.ifCond .eq 17, 3) := by decide +kernel
theorem dX4_readStatement_97 : decode cX4_readStatement 97 = .ok (.aload_n 1, 1) := by decide +kernel
theorem dX4_readStatement_98 : decode cX4_readStatement 98 = .ok (.aload_n 0, 1) := by decide +kernel
theorem dX4_readStatement_99 : decode cX4_readStatement 99 = .ok (.iconst 0, 1) := by decide +kernel
theorem dX4_readStatement_100 : decode cX4_readStatement 100 = .ok (.bipush 10, 2) := by decide +kernel
theorem dX4_readStatement_102 : decode cX4_readStatement 102 = .ok (.invokevirtual 58, 3) := by decide +kernel
theorem dX4_readStatement_105 : decode cX4_readStatement 105 = .ok (.putfield 75, 3) := by decide +kernel
theorem dX4_readStatement_108 : decode cX4_readStatement 108 = .ok (.goto 7, 3) := by decide +kernel
theorem dX4_readStatement_111 : decode cX4_readStatement 111 = .ok (.aload_n 0, 1) := by decide +kernel
theorem dX4_readStatement_112 : decode cX4_readStatement 112 = .ok (.invokevirtual 77, 3) := by decide +kernel
theorem dX4_readStatement_115 : decode cX4_readStatement 115 = .ok (.return_, 1) := by decide +kernel
theorem dX4_size_0 : decode cX4_size 0 = .ok (.aload_n 0, 1) := by decide +kernel
theorem dX4_size_1 : decode cX4_size 1 = .ok (.getfield 15, 3) := by decide +kernel
theorem dX4_size_4 : decode cX4_size 4 = .ok (.ireturn, 1) := by decide +kernel
theorem dX4_tellTo_0 : decode cX4_tellTo 0 = .ok (.iconst 0, 1) := by decide +kernel
theorem dX4_tellTo_1 : decode cX4_tellTo 1 = .ok (.istore_n 2, 1) := by decide +kernel
theorem dX4_tellTo_2 : decode cX4_tellTo 2 = .ok (.aload_n 0, 1) := by decide +kernel
theorem dX4_tellTo_3 : decode cX4_tellTo 3 = .ok (.iconst (-1), 1) := by decide +kernel
theorem dX4_tellTo_4 : decode cX4_tellTo 4 = .ok (.putfield 28, 3) := by decide +kernel
theorem dX4_tellTo_7 : decode cX4_tellTo 7 = .ok (.aload_n 0, 1) := by decide +kernel
theorem dX4_tellTo_8 : decode cX4_tellTo 8 = .ok (.iconst 0, 1) := by decide +kernel
theorem dX4_tellTo_9 : decode cX4_tellTo 9 = .ok (.putfield 25, 3) := by decide +kernel
theorem dX4_tellTo_12 : decode cX4_tellTo 12 = .ok (.aload_n 0, 1) := by decide +kernel
theorem dX4_tellTo_13 : decode cX4_tellTo 13 = .ok (.invokevirtual 31, 3) := by decide +kernel
theorem dX4_tellTo_16 : decode cX4_tellTo 16 = .ok (.aload_n 0, 1) := by decide +kernel
theorem dX4_tellTo_17 : decode cX4_tellTo 17 = .ok (.aload_n 1, 1) := by decide +kernel
theorem dX4_tellTo_18 : decode cX4_tellTo 18 = .ok (.invokevirtual 34, 3) := by decide +kernel
theorem dX4_tellTo_21 : decode cX4_tellTo 21 = .ok (.iinc 2 1, 3) := by decide +kernel
theorem dX4_tellTo_24 : decode cX4_tellTo 24 = .ok (.aload_n 0, 1) := by decide +kernel
theorem dX4_tellTo_25 : decode cX4_tellTo 25 = .ok (.getfield 28, 3) := by decide +kernel
theorem dX4_tellTo_28 : decode cX4_tellTo 28 = .ok (.iconst (-1), 1) := by decide +kernel
theorem dX4_tellTo_29 : decode cX4_tellTo 29 = .ok (.if_icmp .ne 32, 3) := by decide +kernel
theorem dX4_tellTo_32 : decode cX4_tellTo 32 = .ok (.aload_n 0, 1) := by decide +kernel
theorem dX4_tellTo_33 : decode cX4_tellTo 33 = .ok (.getfield 19, 3) := by decide +kernel
theorem dX4_tellTo_36 : decode cX4_tellTo 36 = .ok (.ifCond .eq 25, 3) := by decide +kernel
theorem dX4_tellTo_39 : decode cX4_tellTo 39 = .ok (.iload_n 2, 1) := by decide +kernel
theorem dX4_tellTo_40 : decode cX4_tellTo 40 = .ok (.sipush 250, 3) := by decide +kernel
theorem dX4_tellTo_43 : decode cX4_tellTo 43 = .ok (.if_icmp .gt 18, 3) := by decide +kernel
theorem dX4_tellTo_46 : decode cX4_tellTo 46 = .ok (.aload_n 0, 1) := by decide +kernel
theorem dX4_tellTo_47 : decode cX4_tellTo 47 = .ok (.invokevirtual 38, 3) := by decide +kernel
theorem dX4_tellTo_50 : decode cX4_tellTo 50 = .ok (.aload_n 0, 1) := by decide +kernel
theorem dX4_tellTo_51 : decode cX4_tellTo 51 = .ok (.aload_n 1, 1) := by decide +kernel
theorem dX4_tellTo_52 : decode cX4_tellTo 52 = .ok (.invokevirtual 34, 3) := by decide +kernel
theorem dX4_tellTo_55 : decode cX4_tellTo 55 = .ok (.iinc 2 1, 3) := by decide +kernel
theorem dX4_tellTo_58 : decode cX4_tellTo 58 = .ok (.goto (-34), 3) := by decide +kernel
theorem dX4_tellTo_61 : decode cX4_tellTo 61 = .ok (.aload_n 0, 1) := by decide +kernel
theorem dX4_tellTo_62 : decode cX4_tellTo 62 = .ok (.getfield 28, 3) := by decide +kernel
theorem dX4_tellTo_65 : decode cX4_tellTo 65 = .ok (.iconst (-1), 1) := by decide +kernel
theorem dX4_tellTo_66 : decode cX4_tellTo 66 = .ok (.if_icmp .ne 7, 3) := by decide +kernel
theorem dX4_tellTo_69 : decode cX4_tellTo 69 = .ok (.iload_n 2, 1) := by decide +kernel
theorem dX4_tellTo_70 : decode cX4_tellTo 70 = .ok (.goto 10, 3) := by decide +kernel
theorem dX4_tellTo_73 : decode cX4_tellTo 73 = .ok (.bipush (-20), 2) := by decide +kernel
theorem dX4_tellTo_75 : decode cX4_tellTo 75 = .ok (.aload_n 0, 1) := by decide +kernel
theorem dX4_tellTo_76 : decode cX4_tellTo 76 = .ok (.getfield 28, 3) := by decide +kernel
theorem dX4_tellTo_79 : decode cX4_tellTo 79 = .ok (.isub, 1) := by decide +kernel
theorem dX4_tellTo_80 : decode cX4_tellTo 80 = .ok (.ireturn, 1) := by decide +kernel
theorem dX5_init_0 : decode cX5_init 0 = .ok (.aload_n 0, 1) := by decide +kernel
theorem dX5_init_1 : decode cX5_init 1 = .ok (.invokespecial 3, 3) := by decide +kernel
theorem dX5_init_4 : decode cX5_init 4 = .ok (.aload_n 0, 1) := by decide +kernel
theorem dX5_init_5 : decode cX5_init 5 = .ok (.new 9, 3) := by decide +kernel
theorem dX5_init_8 : decode cX5_init 8 = .ok (.dup, 1) := by decide +kernel
theorem dX5_init_9 : decode cX5_init 9 = .ok (.invokespecial 11, 3) := by decide +kernel
theorem dX5_init_12 : decode cX5_init 12 = .ok (.putfield 12, 3) := by decide +kernel
theorem dX5_init_15 : decode cX5_init 15 = .ok (.aload_n 0, 1) := by decide +kernel
theorem dX5_init_16 : decode cX5_init 16 = .ok (.new 18, 3) := by decide +kernel
theorem dX5_init_19 : decode cX5_init 19 = .ok (.dup, 1) := by decide +kernel
theorem dX5_init_20 : decode cX5_init 20 = .ok (.invokespecial 20, 3) := by decide +kernel
theorem dX5_init_23 : decode cX5_init 23 = .ok (.putfield 21, 3) := by decide +kernel
theorem dX5_init_26 : decode cX5_init 26 = .ok (.aload_n 0, 1) := by decide +kernel
theorem dX5_init_27 : decode cX5_init 27 = .ok (.iconst 0, 1) := by decide +kernel
theorem dX5_init_28 : decode cX5_init 28 = .ok (.putfield 25, 3) := by decide +kernel
theorem dX5_init_31 : decode cX5_init 31 = .ok (.aload_n 0, 1) := by decide +kernel
theorem dX5_init_32 : decode cX5_init 32 = .ok (.iconst (-1), 1) := by decide +kernel
theorem dX5_init_33 : decode cX5_init 33 = .ok (.putfield 29, 3) := by decide +kernel
theorem dX5_init_36 : decode cX5_init 36 = .ok (.return_, 1) := by decide +kernel
theorem dX5_begin_0 : decode cX5_begin 0 = .ok (.aload_n 0, 1) := by decide +kernel
theorem dX5_begin_1 : decode cX5_begin 1 = .ok (.getfield 12, 3) := by decide +kernel
theorem dX5_begin_4 : decode cX5_begin 4 = .ok (.aload_n 1, 1) := by decide +kernel
theorem dX5_begin_5 : decode cX5_begin 5 = .ok (.invokevirtual 32, 3) := by decide +kernel
theorem dX5_begin_8 : decode cX5_begin 8 = .ok (.aload_n 0, 1) := by decide +kernel
theorem dX5_begin_9 : decode cX5_begin 9 = .ok (.getfield 12, 3) := by decide +kernel
theorem dX5_begin_12 : decode cX5_begin 12 = .ok (.iconst 0, 1) := by decide +kernel
theorem dX5_begin_13 : decode cX5_begin 13 = .ok (.putfield 36, 3) := by decide +kernel
theorem dX5_begin_16 : decode cX5_begin 16 = .ok (.aload_n 0, 1) := by decide +kernel
theorem dX5_begin_17 : decode cX5_begin 17 = .ok (.iconst 0, 1) := by decide +kernel
theorem dX5_begin_18 : decode cX5_begin 18 = .ok (.putfield 25, 3) := by decide +kernel
theorem dX5_begin_21 : decode cX5_begin 21 = .ok (.aload_n 0, 1) := by decide +kernel
theorem dX5_begin_22 : decode cX5_begin 22 = .ok (.iconst (-1), 1) := by decide +kernel
theorem dX5_begin_23 : decode cX5_begin 23 = .ok (.putfield 29, 3) := by decide +kernel
theorem dX5_begin_26 : decode cX5_begin 26 = .ok (.return_, 1) := by decide +kernel
theorem dX5_lookWhetherFree_0 : decode cX5_lookWhetherFree 0 = .ok (.aload_n 0, 1) := by decide +kernel
theorem dX5_lookWhetherFree_1 : decode cX5_lookWhetherFree 1 = .ok (.getfield 29, 3) := by decide +kernel
theorem dX5_lookWhetherFree_4 : decode cX5_lookWhetherFree 4 = .ok (.iconst (-1), 1) := by decide +kernel
theorem dX5_lookWhetherFree_5 : decode cX5_lookWhetherFree 5 = .ok (.if_icmp .ne 18, 3) := by decide +kernel
theorem dX5_lookWhetherFree_8 : decode cX5_lookWhetherFree 8 = .ok (.aload_n 0, 1) := by decide +kernel
theorem dX5_lookWhetherFree_9 : decode cX5_lookWhetherFree 9 = .ok (.getfield 12, 3) := by decide +kernel
theorem dX5_lookWhetherFree_12 : decode cX5_lookWhetherFree 12 = .ok (.invokevirtual 64, 3) := by decide +kernel
theorem dX5_lookWhetherFree_15 : decode cX5_lookWhetherFree 15 = .ok (.ifCond .ne 8, 3) := by decide +kernel
theorem dX5_lookWhetherFree_18 : decode cX5_lookWhetherFree 18 = .ok (.aload_n 0, 1) := by decide +kernel
theorem dX5_lookWhetherFree_19 : decode cX5_lookWhetherFree 19 = .ok (.iload_n 1, 1) := by decide +kernel
theorem dX5_lookWhetherFree_20 : decode cX5_lookWhetherFree 20 = .ok (.putfield 29, 3) := by decide +kernel
theorem dX5_lookWhetherFree_23 : decode cX5_lookWhetherFree 23 = .ok (.return_, 1) := by decide +kernel
theorem dX5_goOn_0 : decode cX5_goOn 0 = .ok (.aload_n 1, 1) := by decide +kernel
theorem dX5_goOn_1 : decode cX5_goOn 1 = .ok (.iload_n 2, 1) := by decide +kernel
theorem dX5_goOn_2 : decode cX5_goOn 2 = .ok (.invokevirtual 39, 3) := by decide +kernel
theorem dX5_goOn_5 : decode cX5_goOn 5 = .ok (.istore 4, 2) := by decide +kernel
theorem dX5_goOn_7 : decode cX5_goOn 7 = .ok (.aload_n 1, 1) := by decide +kernel
theorem dX5_goOn_8 : decode cX5_goOn 8 = .ok (.iload_n 2, 1) := by decide +kernel
theorem dX5_goOn_9 : decode cX5_goOn 9 = .ok (.invokevirtual 45, 3) := by decide +kernel
theorem dX5_goOn_12 : decode cX5_goOn 12 = .ok (.istore 5, 2) := by decide +kernel
theorem dX5_goOn_14 : decode cX5_goOn 14 = .ok (.aload_n 0, 1) := by decide +kernel
theorem dX5_goOn_15 : decode cX5_goOn 15 = .ok (.iconst 0, 1) := by decide +kernel
theorem dX5_goOn_16 : decode cX5_goOn 16 = .ok (.invokevirtual 48, 3) := by decide +kernel
theorem dX5_goOn_19 : decode cX5_goOn 19 = .ok (.iconst 1, 1) := by decide +kernel
theorem dX5_goOn_20 : decode cX5_goOn 20 = .ok (.istore 6, 2) := by decide +kernel
theorem dX5_goOn_22 : decode cX5_goOn 22 = .ok (.iload 6, 2) := by decide +kernel
theorem dX5_goOn_24 : decode cX5_goOn 24 = .ok (.iload_n 3, 1) := by decide +kernel
theorem dX5_goOn_25 : decode cX5_goOn 25 = .ok (.if_icmp .gt 54, 3) := by decide +kernel
theorem dX5_goOn_28 : decode cX5_goOn 28 = .ok (.aload_n 0, 1) := by decide +kernel
theorem dX5_goOn_29 : decode cX5_goOn 29 = .ok (.getfield 21, 3) := by decide +kernel
theorem dX5_goOn_32 : decode cX5_goOn 32 = .ok (.iload 4, 2) := by decide +kernel
theorem dX5_goOn_34 : decode cX5_goOn 34 = .ok (.iload 5, 2) := by decide +kernel
theorem dX5_goOn_36 : decode cX5_goOn 36 = .ok (.aload_n 0, 1) := by decide +kernel
theorem dX5_goOn_37 : decode cX5_goOn 37 = .ok (.getfield 12, 3) := by decide +kernel
theorem dX5_goOn_40 : decode cX5_goOn 40 = .ok (.invokevirtual 52, 3) := by decide +kernel
theorem dX5_goOn_43 : decode cX5_goOn 43 = .ok (.aload_n 0, 1) := by decide +kernel
theorem dX5_goOn_44 : decode cX5_goOn 44 = .ok (.dup, 1) := by decide +kernel
theorem dX5_goOn_45 : decode cX5_goOn 45 = .ok (.getfield 25, 3) := by decide +kernel
theorem dX5_goOn_48 : decode cX5_goOn 48 = .ok (.aload_n 0, 1) := by decide +kernel
theorem dX5_goOn_49 : decode cX5_goOn 49 = .ok (.getfield 12, 3) := by decide +kernel
theorem dX5_goOn_52 : decode cX5_goOn 52 = .ok (.aload_n 0, 1) := by decide +kernel
theorem dX5_goOn_53 : decode cX5_goOn 53 = .ok (.getfield 21, 3) := by decide +kernel
theorem dX5_goOn_56 : decode cX5_goOn 56 = .ok (.getfield 56, 3) := by decide +kernel
theorem dX5_goOn_59 : decode cX5_goOn 59 = .ok (.iconst 0, 1) := by decide +kernel
theorem dX5_goOn_60 : decode cX5_goOn 60 = .ok (.invokevirtual 60, 3) := by decide +kernel
theorem dX5_goOn_63 : decode cX5_goOn 63 = .ok (.iadd, 1) := by decide +kernel
theorem dX5_goOn_64 : decode cX5_goOn 64 = .ok (.putfield 25, 3) := by decide +kernel
theorem dX5_goOn_67 : decode cX5_goOn 67 = .ok (.aload_n 0, 1) := by decide +kernel
theorem dX5_goOn_68 : decode cX5_goOn 68 = .ok (.iload 6, 2) := by decide +kernel
theorem dX5_goOn_70 : decode cX5_goOn 70 = .ok (.invokevirtual 48, 3) := by decide +kernel
theorem dX5_goOn_73 : decode cX5_goOn 73 = .ok (.iinc 6 1, 3) := by decide +kernel
theorem dX5_goOn_76 : decode cX5_goOn 76 = .ok (.goto (-54), 3) := by decide +kernel
theorem dX5_goOn_79 : decode cX5_goOn 79 = .ok (.return_, 1) := by decide +kernel
theorem dX5_loss_0 : decode cX5_loss 0 = .ok (.aload_n 0, 1) := by decide +kernel
theorem dX5_loss_1 : decode cX5_loss 1 = .ok (.getfield 12, 3) := by decide +kernel
theorem dX5_loss_4 : decode cX5_loss 4 = .ok (.getfield 36, 3) := by decide +kernel
theorem dX5_loss_7 : decode cX5_loss 7 = .ok (.aload_n 0, 1) := by decide +kernel
theorem dX5_loss_8 : decode cX5_loss 8 = .ok (.getfield 12, 3) := by decide +kernel
theorem dX5_loss_11 : decode cX5_loss 11 = .ok (.invokevirtual 68, 3) := by decide +kernel
theorem dX5_loss_14 : decode cX5_loss 14 = .ok (.iadd, 1) := by decide +kernel
theorem dX5_loss_15 : decode cX5_loss 15 = .ok (.ireturn, 1) := by decide +kernel
