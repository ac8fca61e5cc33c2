theorem dX6_init_0 : decode cX6_init 0 = .ok (.aload_n 0, 1) := by decide +kernel
theorem dX6_init_1 : decode cX6_init 1 = .ok (.invokespecial 1, 3) := by decide +kernel
theorem dX6_init_4 : decode cX6_init 4 = .ok (.aload_n 0, 1) := by decide +kernel
theorem dX6_init_5 : decode cX6_init 5 = .ok (.new 7, 3) := by decide +kernel
theorem dX6_init_8 : decode cX6_init 8 = .ok (.dup, 1) := by decide +kernel
theorem dX6_init_9 : decode cX6_init 9 = .ok (.invokespecial 9, 3) := by decide +kernel
theorem dX6_init_12 : decode cX6_init 12 = .ok (.putfield 10, 3) := by decide +kernel
theorem dX6_init_15 : decode cX6_init 15 = .ok (.aload_n 0, 1) := by decide +kernel
theorem dX6_init_16 : decode cX6_init 16 = .ok (.new 7, 3) := by decide +kernel
theorem dX6_init_19 : decode cX6_init 19 = .ok (.dup, 1) := by decide +kernel
theorem dX6_init_20 : decode cX6_init 20 = .ok (.invokespecial 9, 3) := by decide +kernel
theorem dX6_init_23 : decode cX6_init 23 = .ok (.putfield 16, 3) := by decide +kernel
theorem dX6_init_26 : decode cX6_init 26 = .ok (.aload_n 0, 1) := by decide +kernel
theorem dX6_init_27 : decode cX6_init 27 = .ok (.new 7, 3) := by decide +kernel
theorem dX6_init_30 : decode cX6_init 30 = .ok (.dup, 1) := by decide +kernel
theorem dX6_init_31 : decode cX6_init 31 = .ok (.invokespecial 9, 3) := by decide +kernel
theorem dX6_init_34 : decode cX6_init 34 = .ok (.putfield 19, 3) := by decide +kernel
theorem dX6_init_37 : decode cX6_init 37 = .ok (.aload_n 0, 1) := by decide +kernel
theorem dX6_init_38 : decode cX6_init 38 = .ok (.new 22, 3) := by decide +kernel
theorem dX6_init_41 : decode cX6_init 41 = .ok (.dup, 1) := by decide +kernel
theorem dX6_init_42 : decode cX6_init 42 = .ok (.invokespecial 24, 3) := by decide +kernel
theorem dX6_init_45 : decode cX6_init 45 = .ok (.putfield 25, 3) := by decide +kernel
theorem dX6_init_48 : decode cX6_init 48 = .ok (.aload_n 0, 1) := by decide +kernel
theorem dX6_init_49 : decode cX6_init 49 = .ok (.new 29, 3) := by decide +kernel
theorem dX6_init_52 : decode cX6_init 52 = .ok (.dup, 1) := by decide +kernel
theorem dX6_init_53 : decode cX6_init 53 = .ok (.invokespecial 31, 3) := by decide +kernel
theorem dX6_init_56 : decode cX6_init 56 = .ok (.putfield 32, 3) := by decide +kernel
theorem dX6_init_59 : decode cX6_init 59 = .ok (.aload_n 0, 1) := by decide +kernel
theorem dX6_init_60 : decode cX6_init 60 = .ok (.new 36, 3) := by decide +kernel
theorem dX6_init_63 : decode cX6_init 63 = .ok (.dup, 1) := by decide +kernel
theorem dX6_init_64 : decode cX6_init 64 = .ok (.invokespecial 38, 3) := by decide +kernel
theorem dX6_init_67 : decode cX6_init 67 = .ok (.putfield 39, 3) := by decide +kernel
theorem dX6_init_70 : decode cX6_init 70 = .ok (.aload_n 0, 1) := by decide +kernel
theorem dX6_init_71 : decode cX6_init 71 = .ok (.new 43, 3) := by decide +kernel
theorem dX6_init_74 : decode cX6_init 74 = .ok (.dup, 1) := by decide +kernel
theorem dX6_init_75 : decode cX6_init 75 = .ok (.invokespecial 45, 3) := by decide +kernel
theorem dX6_init_78 : decode cX6_init 78 = .ok (.putfield 46, 3) := by decide +kernel
theorem dX6_init_81 : decode cX6_init 81 = .ok (.aload_n 0, 1) := by decide +kernel
theorem dX6_init_82 : decode cX6_init 82 = .ok (.new 50, 3) := by decide +kernel
theorem dX6_init_85 : decode cX6_init 85 = .ok (.dup, 1) := by decide +kernel
theorem dX6_init_86 : decode cX6_init 86 = .ok (.invokespecial 52, 3) := by decide +kernel
theorem dX6_init_89 : decode cX6_init 89 = .ok (.putfield 53, 3) := by decide +kernel
theorem dX6_init_92 : decode cX6_init 92 = .ok (.aload_n 0, 1) := by decide +kernel
theorem dX6_init_93 : decode cX6_init 93 = .ok (.bipush 9, 2) := by decide +kernel
theorem dX6_init_95 : decode cX6_init 95 = .ok (.newarray .int, 2) := by decide +kernel
theorem dX6_init_97 : decode cX6_init 97 = .ok (.putfield 57, 3) := by decide +kernel
theorem dX6_init_100 : decode cX6_init 100 = .ok (.aload_n 0, 1) := by decide +kernel
theorem dX6_init_101 : decode cX6_init 101 = .ok (.iconst 5, 1) := by decide +kernel
theorem dX6_init_102 : decode cX6_init 102 = .ok (.newarray .int, 2) := by decide +kernel
theorem dX6_init_104 : decode cX6_init 104 = .ok (.putfield 61, 3) := by decide +kernel
theorem dX6_init_107 : decode cX6_init 107 = .ok (.aload_n 0, 1) := by decide +kernel
theorem dX6_init_108 : decode cX6_init 108 = .ok (.iconst 0, 1) := by decide +kernel
theorem dX6_init_109 : decode cX6_init 109 = .ok (.putfield 64, 3) := by decide +kernel
theorem dX6_init_112 : decode cX6_init 112 = .ok (.return_, 1) := by decide +kernel
theorem dX6_within_0 : decode cX6_within 0 = .ok (.iload_n 0, 1) := by decide +kernel
theorem dX6_within_1 : decode cX6_within 1 = .ok (.iload_n 1, 1) := by decide +kernel
theorem dX6_within_2 : decode cX6_within 2 = .ok (.if_icmp .lt 12, 3) := by decide +kernel
theorem dX6_within_5 : decode cX6_within 5 = .ok (.iload_n 0, 1) := by decide +kernel
theorem dX6_within_6 : decode cX6_within 6 = .ok (.iload_n 2, 1) := by decide +kernel
theorem dX6_within_7 : decode cX6_within 7 = .ok (.if_icmp .gt 7, 3) := by decide +kernel
theorem dX6_within_10 : decode cX6_within 10 = .ok (.iconst 1, 1) := by decide +kernel
theorem dX6_within_11 : decode cX6_within 11 = .ok (.goto 4, 3) := by decide +kernel
theorem dX6_within_14 : decode cX6_within 14 = .ok (.iconst 0, 1) := by decide +kernel
theorem dX6_within_15 : decode cX6_within 15 = .ok (.ireturn, 1) := by decide +kernel
theorem dX6_refuse_0 : decode cX6_refuse 0 = .ok (.iload_n 1, 1) := by decide +kernel
theorem dX6_refuse_1 : decode cX6_refuse 1 = .ok (.bipush (-6), 2) := by decide +kernel
theorem dX6_refuse_3 : decode cX6_refuse 3 = .ok (.bipush (-2), 2) := by decide +kernel
theorem dX6_refuse_5 : decode cX6_refuse 5 = .ok (.invokestatic 72, 3) := by decide +kernel
theorem dX6_refuse_8 : decode cX6_refuse 8 = .ok (.ifCond .eq 16, 3) := by decide +kernel
theorem dX6_refuse_11 : decode cX6_refuse 11 = .ok (.aload_n 0, 1) := by decide +kernel
theorem dX6_refuse_12 : decode cX6_refuse 12 = .ok (.getfield 61, 3) := by decide +kernel
theorem dX6_refuse_15 : decode cX6_refuse 15 = .ok (.bipush (-2), 2) := by decide +kernel
theorem dX6_refuse_17 : decode cX6_refuse 17 = .ok (.iload_n 1, 1) := by decide +kernel
theorem dX6_refuse_18 : decode cX6_refuse 18 = .ok (.isub, 1) := by decide +kernel
theorem dX6_refuse_19 : decode cX6_refuse 19 = .ok (.dup2, 1) := by decide +kernel
theorem dX6_refuse_20 : decode cX6_refuse 20 = .ok (.iaload, 1) := by decide +kernel
theorem dX6_refuse_21 : decode cX6_refuse 21 = .ok (.iconst 1, 1) := by decide +kernel
theorem dX6_refuse_22 : decode cX6_refuse 22 = .ok (.iadd, 1) := by decide +kernel
theorem dX6_refuse_23 : decode cX6_refuse 23 = .ok (.iastore, 1) := by decide +kernel
theorem dX6_refuse_24 : decode cX6_refuse 24 = .ok (.iload_n 1, 1) := by decide +kernel
theorem dX6_refuse_25 : decode cX6_refuse 25 = .ok (.ireturn, 1) := by decide +kernel
theorem dX6_all_0 : decode cX6_all 0 = .ok (.iconst 2, 1) := by decide +kernel
theorem dX6_all_1 : decode cX6_all 1 = .ok (.iload_n 1, 1) := by decide +kernel
theorem dX6_all_2 : decode cX6_all 2 = .ok (.invokestatic 141, 3) := by decide +kernel
theorem dX6_all_5 : decode cX6_all 5 = .ok (.ifCond .ne 10, 3) := by decide +kernel
theorem dX6_all_8 : decode cX6_all 8 = .ok (.aload_n 0, 1) := by decide +kernel
theorem dX6_all_9 : decode cX6_all 9 = .ok (.bipush (-2), 2) := by decide +kernel
theorem dX6_all_11 : decode cX6_all 11 = .ok (.invokevirtual 76, 3) := by decide +kernel
theorem dX6_all_14 : decode cX6_all 14 = .ok (.ireturn, 1) := by decide +kernel
theorem dX6_all_15 : decode cX6_all 15 = .ok (.aload_n 0, 1) := by decide +kernel
theorem dX6_all_16 : decode cX6_all 16 = .ok (.getfield 10, 3) := by decide +kernel
theorem dX6_all_19 : decode cX6_all 19 = .ok (.invokevirtual 269, 3) := by decide +kernel
theorem dX6_all_22 : decode cX6_all 22 = .ok (.ifCond .ne 10, 3) := by decide +kernel
theorem dX6_all_25 : decode cX6_all 25 = .ok (.aload_n 0, 1) := by decide +kernel
theorem dX6_all_26 : decode cX6_all 26 = .ok (.bipush (-5), 2) := by decide +kernel
theorem dX6_all_28 : decode cX6_all 28 = .ok (.invokevirtual 76, 3) := by decide +kernel
theorem dX6_all_31 : decode cX6_all 31 = .ok (.ireturn, 1) := by decide +kernel
theorem dX6_all_32 : decode cX6_all 32 = .ok (.aload_n 0, 1) := by decide +kernel
theorem dX6_all_33 : decode cX6_all 33 = .ok (.getfield 10, 3) := by decide +kernel
theorem dX6_all_36 : decode cX6_all 36 = .ok (.iload_n 1, 1) := by decide +kernel
theorem dX6_all_37 : decode cX6_all 37 = .ok (.invokevirtual 272, 3) := by decide +kernel
theorem dX6_all_40 : decode cX6_all 40 = .ok (.ireturn, 1) := by decide +kernel
theorem dX6_alter_0 : decode cX6_alter 0 = .ok (.aload_n 0, 1) := by decide +kernel
theorem dX6_alter_1 : decode cX6_alter 1 = .ok (.getfield 10, 3) := by decide +kernel
theorem dX6_alter_4 : decode cX6_alter 4 = .ok (.iload_n 1, 1) := by decide +kernel
theorem dX6_alter_5 : decode cX6_alter 5 = .ok (.invokevirtual 152, 3) := by decide +kernel
theorem dX6_alter_8 : decode cX6_alter 8 = .ok (.ifCond .eq 22, 3) := by decide +kernel
theorem dX6_alter_11 : decode cX6_alter 11 = .ok (.iload_n 2, 1) := by decide +kernel
theorem dX6_alter_12 : decode cX6_alter 12 = .ok (.iconst 0, 1) := by decide +kernel
theorem dX6_alter_13 : decode cX6_alter 13 = .ok (.iconst 3, 1) := by decide +kernel
theorem dX6_alter_14 : decode cX6_alter 14 = .ok (.invokestatic 72, 3) := by decide +kernel
theorem dX6_alter_17 : decode cX6_alter 17 = .ok (.ifCond .eq 13, 3) := by decide +kernel
theorem dX6_alter_20 : decode cX6_alter 20 = .ok (.iconst 2, 1) := by decide +kernel
theorem dX6_alter_21 : decode cX6_alter 21 = .ok (.iload_n 2, 1) := by decide +kernel
theorem dX6_alter_22 : decode cX6_alter 22 = .ok (.iadd, 1) := by decide +kernel
theorem dX6_alter_23 : decode cX6_alter 23 = .ok (.iload_n 3, 1) := by decide +kernel
theorem dX6_alter_24 : decode cX6_alter 24 = .ok (.invokestatic 141, 3) := by decide +kernel
theorem dX6_alter_27 : decode cX6_alter 27 = .ok (.ifCond .ne 10, 3) := by decide +kernel
theorem dX6_alter_30 : decode cX6_alter 30 = .ok (.aload_n 0, 1) := by decide +kernel
theorem dX6_alter_31 : decode cX6_alter 31 = .ok (.bipush (-2), 2) := by decide +kernel
theorem dX6_alter_33 : decode cX6_alter 33 = .ok (.invokevirtual 76, 3) := by decide +kernel
theorem dX6_alter_36 : decode cX6_alter 36 = .ok (.ireturn, 1) := by decide +kernel
theorem dX6_alter_37 : decode cX6_alter 37 = .ok (.aload_n 0, 1) := by decide +kernel
theorem dX6_alter_38 : decode cX6_alter 38 = .ok (.getfield 10, 3) := by decide +kernel
theorem dX6_alter_41 : decode cX6_alter 41 = .ok (.getfield 155, 3) := by decide +kernel
theorem dX6_alter_44 : decode cX6_alter 44 = .ok (.iload_n 1, 1) := by decide +kernel
theorem dX6_alter_45 : decode cX6_alter 45 = .ok (.aaload, 1) := by decide +kernel
theorem dX6_alter_46 : decode cX6_alter 46 = .ok (.iconst 2, 1) := by decide +kernel
theorem dX6_alter_47 : decode cX6_alter 47 = .ok (.iload_n 2, 1) := by decide +kernel
theorem dX6_alter_48 : decode cX6_alter 48 = .ok (.iadd, 1) := by decide +kernel
theorem dX6_alter_49 : decode cX6_alter 49 = .ok (.iaload, 1) := by decide +kernel
theorem dX6_alter_50 : decode cX6_alter 50 = .ok (.istore 4, 2) := by decide +kernel
theorem dX6_alter_52 : decode cX6_alter 52 = .ok (.aload_n 0, 1) := by decide +kernel
theorem dX6_alter_53 : decode cX6_alter 53 = .ok (.getfield 10, 3) := by decide +kernel
theorem dX6_alter_56 : decode cX6_alter 56 = .ok (.getfield 155, 3) := by decide +kernel
theorem dX6_alter_59 : decode cX6_alter 59 = .ok (.iload_n 1, 1) := by decide +kernel
theorem dX6_alter_60 : decode cX6_alter 60 = .ok (.aaload, 1) := by decide +kernel
theorem dX6_alter_61 : decode cX6_alter 61 = .ok (.iconst 2, 1) := by decide +kernel
theorem dX6_alter_62 : decode cX6_alter 62 = .ok (.iload_n 2, 1) := by decide +kernel
theorem dX6_alter_63 : decode cX6_alter 63 = .ok (.iadd, 1) := by decide +kernel
theorem dX6_alter_64 : decode cX6_alter 64 = .ok (.iload_n 3, 1) := by decide +kernel
theorem dX6_alter_65 : decode cX6_alter 65 = .ok (.iastore, 1) := by decide +kernel
theorem dX6_alter_66 : decode cX6_alter 66 = .ok (.iload 4, 2) := by decide +kernel
theorem dX6_alter_68 : decode cX6_alter 68 = .ok (.ireturn, 1) := by decide +kernel
theorem dX6_ask_0 : decode cX6_ask 0 = .ok (.iload_n 1, 1) := by decide +kernel
theorem dX6_ask_1 : decode cX6_ask 1 = .ok (.ifCond .ne 33, 3) := by decide +kernel
theorem dX6_ask_4 : decode cX6_ask 4 = .ok (.iload_n 2, 1) := by decide +kernel
theorem dX6_ask_5 : decode cX6_ask 5 = .ok (.iconst 0, 1) := by decide +kernel
theorem dX6_ask_6 : decode cX6_ask 6 = .ok (.sipush 9999, 3) := by decide +kernel
theorem dX6_ask_9 : decode cX6_ask 9 = .ok (.invokestatic 72, 3) := by decide +kernel
theorem dX6_ask_12 : decode cX6_ask 12 = .ok (.ifCond .eq 22, 3) := by decide +kernel
theorem dX6_ask_15 : decode cX6_ask 15 = .ok (.aload_n 0, 1) := by decide +kernel
theorem dX6_ask_16 : decode cX6_ask 16 = .ok (.getfield 10, 3) := by decide +kernel
theorem dX6_ask_19 : decode cX6_ask 19 = .ok (.getfield 162, 3) := by decide +kernel
theorem dX6_ask_22 : decode cX6_ask 22 = .ok (.istore_n 3, 1) := by decide +kernel
theorem dX6_ask_23 : decode cX6_ask 23 = .ok (.aload_n 0, 1) := by decide +kernel
theorem dX6_ask_24 : decode cX6_ask 24 = .ok (.getfield 10, 3) := by decide +kernel
theorem dX6_ask_27 : decode cX6_ask 27 = .ok (.iload_n 2, 1) := by decide +kernel
theorem dX6_ask_28 : decode cX6_ask 28 = .ok (.putfield 162, 3) := by decide +kernel
theorem dX6_ask_31 : decode cX6_ask 31 = .ok (.goto 78, 3) := by decide +kernel
theorem dX6_ask_34 : decode cX6_ask 34 = .ok (.iload_n 1, 1) := by decide +kernel
theorem dX6_ask_35 : decode cX6_ask 35 = .ok (.iconst 1, 1) := by decide +kernel
theorem dX6_ask_36 : decode cX6_ask 36 = .ok (.if_icmp .ne 32, 3) := by decide +kernel
theorem dX6_ask_39 : decode cX6_ask 39 = .ok (.iload_n 2, 1) := by decide +kernel
theorem dX6_ask_40 : decode cX6_ask 40 = .ok (.iconst 1, 1) := by decide +kernel
theorem dX6_ask_41 : decode cX6_ask 41 = .ok (.bipush 50, 2) := by decide +kernel
theorem dX6_ask_43 : decode cX6_ask 43 = .ok (.invokestatic 72, 3) := by decide +kernel
theorem dX6_ask_46 : decode cX6_ask 46 = .ok (.ifCond .eq 22, 3) := by decide +kernel
theorem dX6_ask_49 : decode cX6_ask 49 = .ok (.aload_n 0, 1) := by decide +kernel
theorem dX6_ask_50 : decode cX6_ask 50 = .ok (.getfield 10, 3) := by decide +kernel
theorem dX6_ask_53 : decode cX6_ask 53 = .ok (.getfield 166, 3) := by decide +kernel
theorem dX6_ask_56 : decode cX6_ask 56 = .ok (.istore_n 3, 1) := by decide +kernel
theorem dX6_ask_57 : decode cX6_ask 57 = .ok (.aload_n 0, 1) := by decide +kernel
theorem dX6_ask_58 : decode cX6_ask 58 = .ok (.getfield 10, 3) := by decide +kernel
theorem dX6_ask_61 : decode cX6_ask 61 = .ok (.iload_n 2, 1) := by decide +kernel
theorem dX6_ask_62 : decode cX6_ask 62 = .ok (.putfield 166, 3) := by decide +kernel
theorem dX6_ask_65 : decode cX6_ask 65 = .ok (.goto 44, 3) := by decide +kernel
theorem dX6_ask_68 : decode cX6_ask 68 = .ok (.iload_n 1, 1) := by decide +kernel
theorem dX6_ask_69 : decode cX6_ask 69 = .ok (.iconst 2, 1) := by decide +kernel
theorem dX6_ask_70 : decode cX6_ask 70 = .ok (.if_icmp .ne 32, 3) := by decide +kernel
theorem dX6_ask_73 : decode cX6_ask 73 = .ok (.iload_n 2, 1) := by decide +kernel
theorem dX6_ask_74 : decode cX6_ask 74 = .ok (.iconst 0, 1) := by decide +kernel
theorem dX6_ask_75 : decode cX6_ask 75 = .ok (.bipush 10, 2) := by decide +kernel
theorem dX6_ask_77 : decode cX6_ask 77 = .ok (.invokestatic 72, 3) := by decide +kernel
theorem dX6_ask_80 : decode cX6_ask 80 = .ok (.ifCond .eq 22, 3) := by decide +kernel
theorem dX6_ask_83 : decode cX6_ask 83 = .ok (.aload_n 0, 1) := by decide +kernel
theorem dX6_ask_84 : decode cX6_ask 84 = .ok (.getfield 10, 3) := by decide +kernel
theorem dX6_ask_87 : decode cX6_ask 87 = .ok (.getfield 169, 3) := by decide +kernel
theorem dX6_ask_90 : decode cX6_ask 90 = .ok (.istore_n 3, 1) := by decide +kernel
theorem dX6_ask_91 : decode cX6_ask 91 = .ok (.aload_n 0, 1) := by decide +kernel
theorem dX6_ask_92 : decode cX6_ask 92 = .ok (.getfield 10, 3) := by decide +kernel
theorem dX6_ask_95 : decode cX6_ask 95 = .ok (.iload_n 2, 1) := by decide +kernel
theorem dX6_ask_96 : decode cX6_ask 96 = .ok (.putfield 169, 3) := by decide +kernel
theorem dX6_ask_99 : decode cX6_ask 99 = .ok (.goto 10, 3) := by decide +kernel
theorem dX6_ask_102 : decode cX6_ask 102 = .ok (.aload_n 0, 1) := by decide +kernel
theorem dX6_ask_103 : decode cX6_ask 103 = .ok (.bipush (-2), 2) := by decide +kernel
theorem dX6_ask_105 : decode cX6_ask 105 = .ok (.invokevirtual 76, 3) := by decide +kernel
theorem dX6_ask_108 : decode cX6_ask 108 = .ok (.istore_n 3, 1) := by decide +kernel
theorem dX6_ask_109 : decode cX6_ask 109 = .ok (.iload_n 3, 1) := by decide +kernel
theorem dX6_ask_110 : decode cX6_ask 110 = .ok (.ireturn, 1) := by decide +kernel
theorem dX6_back_0 : decode cX6_back 0 = .ok (.aload_n 0, 1) := by decide +kernel
theorem dX6_back_1 : decode cX6_back 1 = .ok (.getfield 64, 3) := by decide +kernel
theorem dX6_back_4 : decode cX6_back 4 = .ok (.ifCond .ne 10, 3) := by decide +kernel
theorem dX6_back_7 : decode cX6_back 7 = .ok (.aload_n 0, 1) := by decide +kernel
theorem dX6_back_8 : decode cX6_back 8 = .ok (.bipush (-5), 2) := by decide +kernel
theorem dX6_back_10 : decode cX6_back 10 = .ok (.invokevirtual 76, 3) := by decide +kernel
theorem dX6_back_13 : decode cX6_back 13 = .ok (.ireturn, 1) := by decide +kernel
theorem dX6_back_14 : decode cX6_back 14 = .ok (.aload_n 0, 1) := by decide +kernel
theorem dX6_back_15 : decode cX6_back 15 = .ok (.getfield 10, 3) := by decide +kernel
theorem dX6_back_18 : decode cX6_back 18 = .ok (.aload_n 0, 1) := by decide +kernel
theorem dX6_back_19 : decode cX6_back 19 = .ok (.getfield 16, 3) := by decide +kernel
theorem dX6_back_22 : decode cX6_back 22 = .ok (.invokevirtual 184, 3) := by decide +kernel
theorem dX6_back_25 : decode cX6_back 25 = .ok (.iconst 1, 1) := by decide +kernel
theorem dX6_back_26 : decode cX6_back 26 = .ok (.ireturn, 1) := by decide +kernel
theorem dX6_isBest_0 : decode cX6_isBest 0 = .ok (.iload_n 0, 1) := by decide +kernel
theorem dX6_isBest_1 : decode cX6_isBest 1 = .ok (.iconst 1, 1) := by decide +kernel
theorem dX6_isBest_2 : decode cX6_isBest 2 = .ok (.iconst 3, 1) := by decide +kernel
theorem dX6_isBest_3 : decode cX6_isBest 3 = .ok (.invokestatic 72, 3) := by decide +kernel
theorem dX6_isBest_6 : decode cX6_isBest 6 = .ok (.ireturn, 1) := by decide +kernel
theorem dX6_best_0 : decode cX6_best 0 = .ok (.iload_n 1, 1) := by decide +kernel
theorem dX6_best_1 : decode cX6_best 1 = .ok (.invokestatic 242, 3) := by decide +kernel
theorem dX6_best_4 : decode cX6_best 4 = .ok (.ifCond .eq 19, 3) := by decide +kernel
theorem dX6_best_7 : decode cX6_best 7 = .ok (.iload_n 2, 1) := by decide +kernel
theorem dX6_best_8 : decode cX6_best 8 = .ok (.iconst (-1), 1) := by decide +kernel
theorem dX6_best_9 : decode cX6_best 9 = .ok (.if_icmp .eq 21, 3) := by decide +kernel
theorem dX6_best_12 : decode cX6_best 12 = .ok (.aload_n 0, 1) := by decide +kernel
theorem dX6_best_13 : decode cX6_best 13 = .ok (.getfield 10, 3) := by decide +kernel
theorem dX6_best_16 : decode cX6_best 16 = .ok (.iload_n 2, 1) := by decide +kernel
theorem dX6_best_17 : decode cX6_best 17 = .ok (.invokevirtual 152, 3) := by decide +kernel
theorem dX6_best_20 : decode cX6_best 20 = .ok (.ifCond .ne 10, 3) := by decide +kernel
theorem dX6_best_23 : decode cX6_best 23 = .ok (.aload_n 0, 1) := by decide +kernel
theorem dX6_best_24 : decode cX6_best 24 = .ok (.bipush (-2), 2) := by decide +kernel
theorem dX6_best_26 : decode cX6_best 26 = .ok (.invokevirtual 76, 3) := by decide +kernel
theorem dX6_best_29 : decode cX6_best 29 = .ok (.ireturn, 1) := by decide +kernel
theorem dX6_best_30 : decode cX6_best 30 = .ok (.aload_n 0, 1) := by decide +kernel
theorem dX6_best_31 : decode cX6_best 31 = .ok (.getfield 10, 3) := by decide +kernel
theorem dX6_best_34 : decode cX6_best 34 = .ok (.iload_n 1, 1) := by decide +kernel
theorem dX6_best_35 : decode cX6_best 35 = .ok (.invokestatic 245, 3) := by decide +kernel
theorem dX6_best_38 : decode cX6_best 38 = .ok (.ifCond .ne 10, 3) := by decide +kernel
theorem dX6_best_41 : decode cX6_best 41 = .ok (.aload_n 0, 1) := by decide +kernel
theorem dX6_best_42 : decode cX6_best 42 = .ok (.bipush (-5), 2) := by decide +kernel
theorem dX6_best_44 : decode cX6_best 44 = .ok (.invokevirtual 76, 3) := by decide +kernel
theorem dX6_best_47 : decode cX6_best 47 = .ok (.ireturn, 1) := by decide +kernel
theorem dX6_best_48 : decode cX6_best 48 = .ok (.aload_n 0, 1) := by decide +kernel
theorem dX6_best_49 : decode cX6_best 49 = .ok (.getfield 53, 3) := by decide +kernel
theorem dX6_best_52 : decode cX6_best 52 = .ok (.aload_n 0, 1) := by decide +kernel
theorem dX6_best_53 : decode cX6_best 53 = .ok (.getfield 10, 3) := by decide +kernel
theorem dX6_best_56 : decode cX6_best 56 = .ok (.iload_n 1, 1) := by decide +kernel
theorem dX6_best_57 : decode cX6_best 57 = .ok (.invokevirtual 249, 3) := by decide +kernel
theorem dX6_best_60 : decode cX6_best 60 = .ok (.iload_n 2, 1) := by decide +kernel
theorem dX6_best_61 : decode cX6_best 61 = .ok (.iconst (-1), 1) := by decide +kernel
theorem dX6_best_62 : decode cX6_best 62 = .ok (.if_icmp .ne 13, 3) := by decide +kernel
theorem dX6_best_65 : decode cX6_best 65 = .ok (.aload_n 0, 1) := by decide +kernel
theorem dX6_best_66 : decode cX6_best 66 = .ok (.getfield 53, 3) := by decide +kernel
theorem dX6_best_69 : decode cX6_best 69 = .ok (.getfield 253, 3) := by decide +kernel
theorem dX6_best_72 : decode cX6_best 72 = .ok (.goto 12, 3) := by decide +kernel
theorem dX6_best_75 : decode cX6_best 75 = .ok (.aload_n 0, 1) := by decide +kernel
theorem dX6_best_76 : decode cX6_best 76 = .ok (.getfield 53, 3) := by decide +kernel
theorem dX6_best_79 : decode cX6_best 79 = .ok (.getfield 255, 3) := by decide +kernel
theorem dX6_best_82 : decode cX6_best 82 = .ok (.iload_n 2, 1) := by decide +kernel
theorem dX6_best_83 : decode cX6_best 83 = .ok (.iaload, 1) := by decide +kernel
theorem dX6_best_84 : decode cX6_best 84 = .ok (.ireturn, 1) := by decide +kernel
theorem dX6_bites_0 : decode cX6_bites 0 = .ok (.aload_n 0, 1) := by decide +kernel
theorem dX6_bites_1 : decode cX6_bites 1 = .ok (.getfield 10, 3) := by decide +kernel
theorem dX6_bites_4 : decode cX6_bites 4 = .ok (.iload_n 1, 1) := by decide +kernel
theorem dX6_bites_5 : decode cX6_bites 5 = .ok (.invokevirtual 152, 3) := by decide +kernel
theorem dX6_bites_8 : decode cX6_bites 8 = .ok (.ifCond .eq 14, 3) := by decide +kernel
theorem dX6_bites_11 : decode cX6_bites 11 = .ok (.aload_n 0, 1) := by decide +kernel
theorem dX6_bites_12 : decode cX6_bites 12 = .ok (.getfield 10, 3) := by decide +kernel
theorem dX6_bites_15 : decode cX6_bites 15 = .ok (.iload_n 1, 1) := by decide +kernel
theorem dX6_bites_16 : decode cX6_bites 16 = .ok (.invokevirtual 194, 3) := by decide +kernel
theorem dX6_bites_19 : decode cX6_bites 19 = .ok (.goto 9, 3) := by decide +kernel
theorem dX6_bites_22 : decode cX6_bites 22 = .ok (.aload_n 0, 1) := by decide +kernel
theorem dX6_bites_23 : decode cX6_bites 23 = .ok (.bipush (-2), 2) := by decide +kernel
theorem dX6_bites_25 : decode cX6_bites 25 = .ok (.invokevirtual 76, 3) := by decide +kernel
theorem dX6_bites_28 : decode cX6_bites 28 = .ok (.ireturn, 1) := by decide +kernel
theorem dX6_copy_0 : decode cX6_copy 0 = .ok (.aload_n 0, 1) := by decide +kernel
theorem dX6_copy_1 : decode cX6_copy 1 = .ok (.getfield 25, 3) := by decide +kernel
theorem dX6_copy_4 : decode cX6_copy 4 = .ok (.iload_n 1, 1) := by decide +kernel
theorem dX6_copy_5 : decode cX6_copy 5 = .ok (.iload_n 2, 1) := by decide +kernel
theorem dX6_copy_6 : decode cX6_copy 6 = .ok (.invokevirtual 95, 3) := by decide +kernel
theorem dX6_copy_9 : decode cX6_copy 9 = .ok (.istore 6, 2) := by decide +kernel
theorem dX6_copy_11 : decode cX6_copy 11 = .ok (.iload 6, 2) := by decide +kernel
theorem dX6_copy_13 : decode cX6_copy 13 = .ok (.ifCond .ne 36, 3) := by decide +kernel
theorem dX6_copy_16 : decode cX6_copy 16 = .ok (.aload_n 0, 1) := by decide +kernel
theorem dX6_copy_17 : decode cX6_copy 17 = .ok (.getfield 25, 3) := by decide +kernel
theorem dX6_copy_20 : decode cX6_copy 20 = .ok (.iload_n 1, 1) := by decide +kernel
theorem dX6_copy_21 : decode cX6_copy 21 = .ok (.iload_n 3, 1) := by decide +kernel
theorem dX6_copy_22 : decode cX6_copy 22 = .ok (.iload 5, 2) := by decide +kernel
theorem dX6_copy_24 : decode cX6_copy 24 = .ok (.invokevirtual 99, 3) := by decide +kernel
theorem dX6_copy_27 : decode cX6_copy 27 = .ok (.ifCond .eq 18, 3) := by decide +kernel
theorem dX6_copy_30 : decode cX6_copy 30 = .ok (.aload_n 0, 1) := by decide +kernel
theorem dX6_copy_31 : decode cX6_copy 31 = .ok (.getfield 25, 3) := by decide +kernel
theorem dX6_copy_34 : decode cX6_copy 34 = .ok (.iload_n 2, 1) := by decide +kernel
theorem dX6_copy_35 : decode cX6_copy 35 = .ok (.iload 4, 2) := by decide +kernel
theorem dX6_copy_37 : decode cX6_copy 37 = .ok (.iload 5, 2) := by decide +kernel
theorem dX6_copy_39 : decode cX6_copy 39 = .ok (.invokevirtual 99, 3) := by decide +kernel
theorem dX6_copy_42 : decode cX6_copy 42 = .ok (.ifCond .ne 7, 3) := by decide +kernel
theorem dX6_copy_45 : decode cX6_copy 45 = .ok (.bipush (-2), 2) := by decide +kernel
theorem dX6_copy_47 : decode cX6_copy 47 = .ok (.istore 6, 2) := by decide +kernel
theorem dX6_copy_49 : decode cX6_copy 49 = .ok (.iload 6, 2) := by decide +kernel
theorem dX6_copy_51 : decode cX6_copy 51 = .ok (.ifCond .eq 10, 3) := by decide +kernel
theorem dX6_copy_54 : decode cX6_copy 54 = .ok (.aload_n 0, 1) := by decide +kernel
theorem dX6_copy_55 : decode cX6_copy 55 = .ok (.iload 6, 2) := by decide +kernel
theorem dX6_copy_57 : decode cX6_copy 57 = .ok (.invokevirtual 76, 3) := by decide +kernel
theorem dX6_copy_60 : decode cX6_copy 60 = .ok (.ireturn, 1) := by decide +kernel
theorem dX6_copy_61 : decode cX6_copy 61 = .ok (.aload_n 0, 1) := by decide +kernel
theorem dX6_copy_62 : decode cX6_copy 62 = .ok (.getfield 25, 3) := by decide +kernel
theorem dX6_copy_65 : decode cX6_copy 65 = .ok (.iload_n 1, 1) := by decide +kernel
theorem dX6_copy_66 : decode cX6_copy 66 = .ok (.iload_n 2, 1) := by decide +kernel
theorem dX6_copy_67 : decode cX6_copy 67 = .ok (.iload_n 3, 1) := by decide +kernel
theorem dX6_copy_68 : decode cX6_copy 68 = .ok (.iload 4, 2) := by decide +kernel
theorem dX6_copy_70 : decode cX6_copy 70 = .ok (.iload 5, 2) := by decide +kernel
theorem dX6_copy_72 : decode cX6_copy 72 = .ok (.invokevirtual 102, 3) := by decide +kernel
theorem dX6_copy_75 : decode cX6_copy 75 = .ok (.iload 5, 2) := by decide +kernel
theorem dX6_copy_77 : decode cX6_copy 77 = .ok (.ireturn, 1) := by decide +kernel
theorem dX6_debt_0 : decode cX6_debt 0 = .ok (.iconst 0, 1) := by decide +kernel
theorem dX6_debt_1 : decode cX6_debt 1 = .ok (.iload_n 1, 1) := by decide +kernel
theorem dX6_debt_2 : decode cX6_debt 2 = .ok (.invokestatic 141, 3) := by decide +kernel
theorem dX6_debt_5 : decode cX6_debt 5 = .ok (.ifCond .eq 46, 3) := by decide +kernel
theorem dX6_debt_8 : decode cX6_debt 8 = .ok (.iconst 1, 1) := by decide +kernel
theorem dX6_debt_9 : decode cX6_debt 9 = .ok (.iload_n 2, 1) := by decide +kernel
theorem dX6_debt_10 : decode cX6_debt 10 = .ok (.invokestatic 141, 3) := by decide +kernel
theorem dX6_debt_13 : decode cX6_debt 13 = .ok (.ifCond .eq 38, 3) := by decide +kernel
theorem dX6_debt_16 : decode cX6_debt 16 = .ok (.iconst 2, 1) := by decide +kernel
theorem dX6_debt_17 : decode cX6_debt 17 = .ok (.iload_n 3, 1) := by decide +kernel
theorem dX6_debt_18 : decode cX6_debt 18 = .ok (.invokestatic 141, 3) := by decide +kernel
theorem dX6_debt_21 : decode cX6_debt 21 = .ok (.ifCond .eq 30, 3) := by decide +kernel
theorem dX6_debt_24 : decode cX6_debt 24 = .ok (.iconst 3, 1) := by decide +kernel
theorem dX6_debt_25 : decode cX6_debt 25 = .ok (.iload 4, 2) := by decide +kernel
theorem dX6_debt_27 : decode cX6_debt 27 = .ok (.invokestatic 141, 3) := by decide +kernel
theorem dX6_debt_30 : decode cX6_debt 30 = .ok (.ifCond .eq 21, 3) := by decide +kernel
theorem dX6_debt_33 : decode cX6_debt 33 = .ok (.iconst 4, 1) := by decide +kernel
theorem dX6_debt_34 : decode cX6_debt 34 = .ok (.iload 5, 2) := by decide +kernel
theorem dX6_debt_36 : decode cX6_debt 36 = .ok (.invokestatic 141, 3) := by decide +kernel
theorem dX6_debt_39 : decode cX6_debt 39 = .ok (.ifCond .eq 12, 3) := by decide +kernel
theorem dX6_debt_42 : decode cX6_debt 42 = .ok (.iconst 5, 1) := by decide +kernel
theorem dX6_debt_43 : decode cX6_debt 43 = .ok (.iload 6, 2) := by decide +kernel
theorem dX6_debt_45 : decode cX6_debt 45 = .ok (.invokestatic 141, 3) := by decide +kernel
theorem dX6_debt_48 : decode cX6_debt 48 = .ok (.ifCond .ne 10, 3) := by decide +kernel
theorem dX6_debt_51 : decode cX6_debt 51 = .ok (.aload_n 0, 1) := by decide +kernel
theorem dX6_debt_52 : decode cX6_debt 52 = .ok (.bipush (-2), 2) := by decide +kernel
theorem dX6_debt_54 : decode cX6_debt 54 = .ok (.invokevirtual 76, 3) := by decide +kernel
theorem dX6_debt_57 : decode cX6_debt 57 = .ok (.ireturn, 1) := by decide +kernel
theorem dX6_debt_58 : decode cX6_debt 58 = .ok (.aload_n 0, 1) := by decide +kernel
theorem dX6_debt_59 : decode cX6_debt 59 = .ok (.getfield 10, 3) := by decide +kernel
theorem dX6_debt_62 : decode cX6_debt 62 = .ok (.invokevirtual 144, 3) := by decide +kernel
theorem dX6_debt_65 : decode cX6_debt 65 = .ok (.ifCond .ne 10, 3) := by decide +kernel
theorem dX6_debt_68 : decode cX6_debt 68 = .ok (.aload_n 0, 1) := by decide +kernel
theorem dX6_debt_69 : decode cX6_debt 69 = .ok (.bipush (-6), 2) := by decide +kernel
theorem dX6_debt_71 : decode cX6_debt 71 = .ok (.invokevirtual 76, 3) := by decide +kernel
theorem dX6_debt_74 : decode cX6_debt 74 = .ok (.ireturn, 1) := by decide +kernel
theorem dX6_debt_75 : decode cX6_debt 75 = .ok (.aload_n 0, 1) := by decide +kernel
theorem dX6_debt_76 : decode cX6_debt 76 = .ok (.getfield 10, 3) := by decide +kernel
theorem dX6_debt_79 : decode cX6_debt 79 = .ok (.iload_n 1, 1) := by decide +kernel
theorem dX6_debt_80 : decode cX6_debt 80 = .ok (.iload_n 2, 1) := by decide +kernel
theorem dX6_debt_81 : decode cX6_debt 81 = .ok (.iload_n 3, 1) := by decide +kernel
theorem dX6_debt_82 : decode cX6_debt 82 = .ok (.iload 4, 2) := by decide +kernel
theorem dX6_debt_84 : decode cX6_debt 84 = .ok (.iload 5, 2) := by decide +kernel
theorem dX6_debt_86 : decode cX6_debt 86 = .ok (.iload 6, 2) := by decide +kernel
theorem dX6_debt_88 : decode cX6_debt 88 = .ok (.invokevirtual 148, 3) := by decide +kernel
theorem dX6_debt_91 : decode cX6_debt 91 = .ok (.ireturn, 1) := by decide +kernel
theorem dX6_debtOf_0 : decode cX6_debtOf 0 = .ok (.aload_n 0, 1) := by decide +kernel
theorem dX6_debtOf_1 : decode cX6_debtOf 1 = .ok (.getfield 10, 3) := by decide +kernel
theorem dX6_debtOf_4 : decode cX6_debtOf 4 = .ok (.iload_n 1, 1) := by decide +kernel
theorem dX6_debtOf_5 : decode cX6_debtOf 5 = .ok (.invokevirtual 152, 3) := by decide +kernel
theorem dX6_debtOf_8 : decode cX6_debtOf 8 = .ok (.ifCond .eq 13, 3) := by decide +kernel
theorem dX6_debtOf_11 : decode cX6_debtOf 11 = .ok (.iload_n 2, 1) := by decide +kernel
theorem dX6_debtOf_12 : decode cX6_debtOf 12 = .ok (.iconst 0, 1) := by decide +kernel
theorem dX6_debtOf_13 : decode cX6_debtOf 13 = .ok (.bipush 8, 2) := by decide +kernel
theorem dX6_debtOf_15 : decode cX6_debtOf 15 = .ok (.invokestatic 72, 3) := by decide +kernel
theorem dX6_debtOf_18 : decode cX6_debtOf 18 = .ok (.ifCond .ne 10, 3) := by decide +kernel
theorem dX6_debtOf_21 : decode cX6_debtOf 21 = .ok (.aload_n 0, 1) := by decide +kernel
theorem dX6_debtOf_22 : decode cX6_debtOf 22 = .ok (.bipush (-2), 2) := by decide +kernel
theorem dX6_debtOf_24 : decode cX6_debtOf 24 = .ok (.invokevirtual 76, 3) := by decide +kernel
theorem dX6_debtOf_27 : decode cX6_debtOf 27 = .ok (.ireturn, 1) := by decide +kernel
theorem dX6_debtOf_28 : decode cX6_debtOf 28 = .ok (.aload_n 0, 1) := by decide +kernel
theorem dX6_debtOf_29 : decode cX6_debtOf 29 = .ok (.getfield 10, 3) := by decide +kernel
theorem dX6_debtOf_32 : decode cX6_debtOf 32 = .ok (.getfield 155, 3) := by decide +kernel
theorem dX6_debtOf_35 : decode cX6_debtOf 35 = .ok (.iload_n 1, 1) := by decide +kernel
theorem dX6_debtOf_36 : decode cX6_debtOf 36 = .ok (.aaload, 1) := by decide +kernel
theorem dX6_debtOf_37 : decode cX6_debtOf 37 = .ok (.iload_n 2, 1) := by decide +kernel
theorem dX6_debtOf_38 : decode cX6_debtOf 38 = .ok (.iaload, 1) := by decide +kernel
theorem dX6_debtOf_39 : decode cX6_debtOf 39 = .ok (.ireturn, 1) := by decide +kernel
theorem dX6_element_0 : decode cX6_element 0 = .ok (.aload_n 0, 1) := by decide +kernel
theorem dX6_element_1 : decode cX6_element 1 = .ok (.getfield 25, 3) := by decide +kernel
theorem dX6_element_4 : decode cX6_element 4 = .ok (.iload_n 1, 1) := by decide +kernel
theorem dX6_element_5 : decode cX6_element 5 = .ok (.iload_n 2, 1) := by decide +kernel
theorem dX6_element_6 : decode cX6_element 6 = .ok (.invokevirtual 106, 3) := by decide +kernel
theorem dX6_element_9 : decode cX6_element 9 = .ok (.lreturn, 1) := by decide +kernel
theorem dX6_isRun_0 : decode cX6_isRun 0 = .ok (.iload_n 0, 1) := by decide +kernel
theorem dX6_isRun_1 : decode cX6_isRun 1 = .ok (.iconst 1, 1) := by decide +kernel
theorem dX6_isRun_2 : decode cX6_isRun 2 = .ok (.bipush 60, 2) := by decide +kernel
theorem dX6_isRun_4 : decode cX6_isRun 4 = .ok (.invokestatic 72, 3) := by decide +kernel
theorem dX6_isRun_7 : decode cX6_isRun 7 = .ok (.ireturn, 1) := by decide +kernel
theorem dX6_ruleTrouble_0 : decode cX6_ruleTrouble 0 = .ok (.iload_n 2, 1) := by decide +kernel
theorem dX6_ruleTrouble_1 : decode cX6_ruleTrouble 1 = .ok (.ifCond .eq 14, 3) := by decide +kernel
theorem dX6_ruleTrouble_4 : decode cX6_ruleTrouble 4 = .ok (.aload_n 0, 1) := by decide +kernel
theorem dX6_ruleTrouble_5 : decode cX6_ruleTrouble 5 = .ok (.getfield 25, 3) := by decide +kernel
theorem dX6_ruleTrouble_8 : decode cX6_ruleTrouble 8 = .ok (.iload_n 1, 1) := by decide +kernel
theorem dX6_ruleTrouble_9 : decode cX6_ruleTrouble 9 = .ok (.invokevirtual 240, 3) := by decide +kernel
theorem dX6_ruleTrouble_12 : decode cX6_ruleTrouble 12 = .ok (.goto 5, 3) := by decide +kernel
theorem dX6_ruleTrouble_15 : decode cX6_ruleTrouble 15 = .ok (.bipush (-2), 2) := by decide +kernel
theorem dX6_ruleTrouble_17 : decode cX6_ruleTrouble 17 = .ok (.ireturn, 1) := by decide +kernel
theorem dX6_enough_0 : decode cX6_enough 0 = .ok (.aload_n 0, 1) := by decide +kernel
theorem dX6_enough_1 : decode cX6_enough 1 = .ok (.iload_n 1, 1) := by decide +kernel
theorem dX6_enough_2 : decode cX6_enough 2 = .ok (.iload_n 2, 1) := by decide +kernel
theorem dX6_enough_3 : decode cX6_enough 3 = .ok (.invokestatic 212, 3) := by decide +kernel
theorem dX6_enough_6 : decode cX6_enough 6 = .ok (.invokevirtual 116, 3) := by decide +kernel
theorem dX6_enough_9 : decode cX6_enough 9 = .ok (.istore_n 3, 1) := by decide +kernel
theorem dX6_enough_10 : decode cX6_enough 10 = .ok (.iload_n 3, 1) := by decide +kernel
theorem dX6_enough_11 : decode cX6_enough 11 = .ok (.ifCond .eq 9, 3) := by decide +kernel
theorem dX6_enough_14 : decode cX6_enough 14 = .ok (.aload_n 0, 1) := by decide +kernel
theorem dX6_enough_15 : decode cX6_enough 15 = .ok (.iload_n 3, 1) := by decide +kernel
theorem dX6_enough_16 : decode cX6_enough 16 = .ok (.invokevirtual 76, 3) := by decide +kernel
theorem dX6_enough_19 : decode cX6_enough 19 = .ok (.ireturn, 1) := by decide +kernel
theorem dX6_enough_20 : decode cX6_enough 20 = .ok (.iconst 0, 1) := by decide +kernel
theorem dX6_enough_21 : decode cX6_enough 21 = .ok (.istore 4, 2) := by decide +kernel
theorem dX6_enough_23 : decode cX6_enough 23 = .ok (.iload 4, 2) := by decide +kernel
theorem dX6_enough_25 : decode cX6_enough 25 = .ok (.bipush 99, 2) := by decide +kernel
theorem dX6_enough_27 : decode cX6_enough 27 = .ok (.if_icmp .gt 62, 3) := by decide +kernel
theorem dX6_enough_30 : decode cX6_enough 30 = .ok (.aload_n 0, 1) := by decide +kernel
theorem dX6_enough_31 : decode cX6_enough 31 = .ok (.getfield 46, 3) := by decide +kernel
theorem dX6_enough_34 : decode cX6_enough 34 = .ok (.aload_n 0, 1) := by decide +kernel
theorem dX6_enough_35 : decode cX6_enough 35 = .ok (.getfield 10, 3) := by decide +kernel
theorem dX6_enough_38 : decode cX6_enough 38 = .ok (.invokevirtual 215, 3) := by decide +kernel
theorem dX6_enough_41 : decode cX6_enough 41 = .ok (.aload_n 0, 1) := by decide +kernel
theorem dX6_enough_42 : decode cX6_enough 42 = .ok (.getfield 46, 3) := by decide +kernel
theorem dX6_enough_45 : decode cX6_enough 45 = .ok (.getfield 225, 3) := by decide +kernel
theorem dX6_enough_48 : decode cX6_enough 48 = .ok (.getfield 159, 3) := by decide +kernel
theorem dX6_enough_51 : decode cX6_enough 51 = .ok (.iload 4, 2) := by decide +kernel
theorem dX6_enough_53 : decode cX6_enough 53 = .ok (.invokestatic 275, 3) := by decide +kernel
theorem dX6_enough_56 : decode cX6_enough 56 = .ok (.aload_n 0, 1) := by decide +kernel
theorem dX6_enough_57 : decode cX6_enough 57 = .ok (.getfield 46, 3) := by decide +kernel
theorem dX6_enough_60 : decode cX6_enough 60 = .ok (.aload_n 0, 1) := by decide +kernel
theorem dX6_enough_61 : decode cX6_enough 61 = .ok (.getfield 25, 3) := by decide +kernel
theorem dX6_enough_64 : decode cX6_enough 64 = .ok (.iload_n 1, 1) := by decide +kernel
theorem dX6_enough_65 : decode cX6_enough 65 = .ok (.iload_n 2, 1) := by decide +kernel
theorem dX6_enough_66 : decode cX6_enough 66 = .ok (.invokevirtual 218, 3) := by decide +kernel
theorem dX6_enough_69 : decode cX6_enough 69 = .ok (.aload_n 0, 1) := by decide +kernel
theorem dX6_enough_70 : decode cX6_enough 70 = .ok (.getfield 46, 3) := by decide +kernel
theorem dX6_enough_73 : decode cX6_enough 73 = .ok (.getfield 237, 3) := by decide +kernel
theorem dX6_enough_76 : decode cX6_enough 76 = .ok (.iconst (-1), 1) := by decide +kernel
theorem dX6_enough_77 : decode cX6_enough 77 = .ok (.if_icmp .eq 6, 3) := by decide +kernel
theorem dX6_enough_80 : decode cX6_enough 80 = .ok (.iload 4, 2) := by decide +kernel
theorem dX6_enough_82 : decode cX6_enough 82 = .ok (.ireturn, 1) := by decide +kernel
theorem dX6_enough_83 : decode cX6_enough 83 = .ok (.iinc 4 1, 3) := by decide +kernel
theorem dX6_enough_86 : decode cX6_enough 86 = .ok (.goto (-63), 3) := by decide +kernel
theorem dX6_enough_89 : decode cX6_enough 89 = .ok (.iconst (-1), 1) := by decide +kernel
theorem dX6_enough_90 : decode cX6_enough 90 = .ok (.ireturn, 1) := by decide +kernel
theorem dX6_feed_0 : decode cX6_feed 0 = .ok (.iload_n 2, 1) := by decide +kernel
theorem dX6_feed_1 : decode cX6_feed 1 = .ok (.iconst 1, 1) := by decide +kernel
theorem dX6_feed_2 : decode cX6_feed 2 = .ok (.iconst 4, 1) := by decide +kernel
theorem dX6_feed_3 : decode cX6_feed 3 = .ok (.invokestatic 72, 3) := by decide +kernel
theorem dX6_feed_6 : decode cX6_feed 6 = .ok (.ifCond .ne 10, 3) := by decide +kernel
theorem dX6_feed_9 : decode cX6_feed 9 = .ok (.aload_n 0, 1) := by decide +kernel
theorem dX6_feed_10 : decode cX6_feed 10 = .ok (.bipush (-2), 2) := by decide +kernel
theorem dX6_feed_12 : decode cX6_feed 12 = .ok (.invokevirtual 76, 3) := by decide +kernel
theorem dX6_feed_15 : decode cX6_feed 15 = .ok (.ireturn, 1) := by decide +kernel
theorem dX6_feed_16 : decode cX6_feed 16 = .ok (.aload_n 0, 1) := by decide +kernel
theorem dX6_feed_17 : decode cX6_feed 17 = .ok (.getfield 32, 3) := by decide +kernel
theorem dX6_feed_20 : decode cX6_feed 20 = .ok (.iload_n 2, 1) := by decide +kernel
theorem dX6_feed_21 : decode cX6_feed 21 = .ok (.invokevirtual 172, 3) := by decide +kernel
theorem dX6_feed_24 : decode cX6_feed 24 = .ok (.ifCond .ne 10, 3) := by decide +kernel
theorem dX6_feed_27 : decode cX6_feed 27 = .ok (.aload_n 0, 1) := by decide +kernel
theorem dX6_feed_28 : decode cX6_feed 28 = .ok (.bipush (-6), 2) := by decide +kernel
theorem dX6_feed_30 : decode cX6_feed 30 = .ok (.invokevirtual 76, 3) := by decide +kernel
theorem dX6_feed_33 : decode cX6_feed 33 = .ok (.ireturn, 1) := by decide +kernel
theorem dX6_feed_34 : decode cX6_feed 34 = .ok (.aload_n 0, 1) := by decide +kernel
theorem dX6_feed_35 : decode cX6_feed 35 = .ok (.getfield 32, 3) := by decide +kernel
theorem dX6_feed_38 : decode cX6_feed 38 = .ok (.iload_n 1, 1) := by decide +kernel
theorem dX6_feed_39 : decode cX6_feed 39 = .ok (.iload_n 2, 1) := by decide +kernel
theorem dX6_feed_40 : decode cX6_feed 40 = .ok (.invokevirtual 174, 3) := by decide +kernel
theorem dX6_feed_43 : decode cX6_feed 43 = .ok (.aload_n 0, 1) := by decide +kernel
theorem dX6_feed_44 : decode cX6_feed 44 = .ok (.getfield 32, 3) := by decide +kernel
theorem dX6_feed_47 : decode cX6_feed 47 = .ok (.invokevirtual 178, 3) := by decide +kernel
theorem dX6_feed_50 : decode cX6_feed 50 = .ok (.ireturn, 1) := by decide +kernel
theorem dX6_grows_0 : decode cX6_grows 0 = .ok (.aload_n 0, 1) := by decide +kernel
theorem dX6_grows_1 : decode cX6_grows 1 = .ok (.getfield 10, 3) := by decide +kernel
theorem dX6_grows_4 : decode cX6_grows 4 = .ok (.iload_n 1, 1) := by decide +kernel
theorem dX6_grows_5 : decode cX6_grows 5 = .ok (.invokevirtual 152, 3) := by decide +kernel
theorem dX6_grows_8 : decode cX6_grows 8 = .ok (.ifCond .eq 15, 3) := by decide +kernel
theorem dX6_grows_11 : decode cX6_grows 11 = .ok (.aload_n 0, 1) := by decide +kernel
theorem dX6_grows_12 : decode cX6_grows 12 = .ok (.getfield 10, 3) := by decide +kernel
theorem dX6_grows_15 : decode cX6_grows 15 = .ok (.iload_n 1, 1) := by decide +kernel
theorem dX6_grows_16 : decode cX6_grows 16 = .ok (.iconst 0, 1) := by decide +kernel
theorem dX6_grows_17 : decode cX6_grows 17 = .ok (.invokevirtual 191, 3) := by decide +kernel
theorem dX6_grows_20 : decode cX6_grows 20 = .ok (.goto 9, 3) := by decide +kernel
theorem dX6_grows_23 : decode cX6_grows 23 = .ok (.aload_n 0, 1) := by decide +kernel
theorem dX6_grows_24 : decode cX6_grows 24 = .ok (.bipush (-2), 2) := by decide +kernel
theorem dX6_grows_26 : decode cX6_grows 26 = .ok (.invokevirtual 76, 3) := by decide +kernel
theorem dX6_grows_29 : decode cX6_grows 29 = .ok (.ireturn, 1) := by decide +kernel
theorem dX6_hangs_0 : decode cX6_hangs 0 = .ok (.aload_n 0, 1) := by decide +kernel
theorem dX6_hangs_1 : decode cX6_hangs 1 = .ok (.iload_n 1, 1) := by decide +kernel
theorem dX6_hangs_2 : decode cX6_hangs 2 = .ok (.iload_n 2, 1) := by decide +kernel
theorem dX6_hangs_3 : decode cX6_hangs 3 = .ok (.invokestatic 212, 3) := by decide +kernel
theorem dX6_hangs_6 : decode cX6_hangs 6 = .ok (.invokevirtual 116, 3) := by decide +kernel
theorem dX6_hangs_9 : decode cX6_hangs 9 = .ok (.istore_n 3, 1) := by decide +kernel
theorem dX6_hangs_10 : decode cX6_hangs 10 = .ok (.iload_n 3, 1) := by decide +kernel
theorem dX6_hangs_11 : decode cX6_hangs 11 = .ok (.ifCond .ne 16, 3) := by decide +kernel
theorem dX6_hangs_14 : decode cX6_hangs 14 = .ok (.aload_n 0, 1) := by decide +kernel
theorem dX6_hangs_15 : decode cX6_hangs 15 = .ok (.getfield 10, 3) := by decide +kernel
theorem dX6_hangs_18 : decode cX6_hangs 18 = .ok (.invokevirtual 269, 3) := by decide +kernel
theorem dX6_hangs_21 : decode cX6_hangs 21 = .ok (.ifCond .ne 6, 3) := by decide +kernel
theorem dX6_hangs_24 : decode cX6_hangs 24 = .ok (.bipush (-5), 2) := by decide +kernel
theorem dX6_hangs_26 : decode cX6_hangs 26 = .ok (.istore_n 3, 1) := by decide +kernel
theorem dX6_hangs_27 : decode cX6_hangs 27 = .ok (.iload_n 3, 1) := by decide +kernel
theorem dX6_hangs_28 : decode cX6_hangs 28 = .ok (.ifCond .eq 9, 3) := by decide +kernel
theorem dX6_hangs_31 : decode cX6_hangs 31 = .ok (.aload_n 0, 1) := by decide +kernel
theorem dX6_hangs_32 : decode cX6_hangs 32 = .ok (.iload_n 3, 1) := by decide +kernel
theorem dX6_hangs_33 : decode cX6_hangs 33 = .ok (.invokevirtual 76, 3) := by decide +kernel
theorem dX6_hangs_36 : decode cX6_hangs 36 = .ok (.ireturn, 1) := by decide +kernel
theorem dX6_hangs_37 : decode cX6_hangs 37 = .ok (.iconst (-1), 1) := by decide +kernel
theorem dX6_hangs_38 : decode cX6_hangs 38 = .ok (.istore 4, 2) := by decide +kernel
theorem dX6_hangs_40 : decode cX6_hangs 40 = .ok (.iconst 0, 1) := by decide +kernel
theorem dX6_hangs_41 : decode cX6_hangs 41 = .ok (.istore 5, 2) := by decide +kernel
theorem dX6_hangs_43 : decode cX6_hangs 43 = .ok (.iconst 0, 1) := by decide +kernel
theorem dX6_hangs_44 : decode cX6_hangs 44 = .ok (.istore 6, 2) := by decide +kernel
theorem dX6_hangs_46 : decode cX6_hangs 46 = .ok (.iload 6, 2) := by decide +kernel
theorem dX6_hangs_48 : decode cX6_hangs 48 = .ok (.aload_n 0, 1) := by decide +kernel
theorem dX6_hangs_49 : decode cX6_hangs 49 = .ok (.getfield 10, 3) := by decide +kernel
theorem dX6_hangs_52 : decode cX6_hangs 52 = .ok (.getfield 209, 3) := by decide +kernel
theorem dX6_hangs_55 : decode cX6_hangs 55 = .ok (.if_icmp .ge 92, 3) := by decide +kernel
theorem dX6_hangs_58 : decode cX6_hangs 58 = .ok (.aload_n 0, 1) := by decide +kernel
theorem dX6_hangs_59 : decode cX6_hangs 59 = .ok (.getfield 10, 3) := by decide +kernel
theorem dX6_hangs_62 : decode cX6_hangs 62 = .ok (.iload 6, 2) := by decide +kernel
theorem dX6_hangs_64 : decode cX6_hangs 64 = .ok (.invokevirtual 265, 3) := by decide +kernel
theorem dX6_hangs_67 : decode cX6_hangs 67 = .ok (.ifCond .eq 74, 3) := by decide +kernel
theorem dX6_hangs_70 : decode cX6_hangs 70 = .ok (.aload_n 0, 1) := by decide +kernel
theorem dX6_hangs_71 : decode cX6_hangs 71 = .ok (.getfield 46, 3) := by decide +kernel
theorem dX6_hangs_74 : decode cX6_hangs 74 = .ok (.aload_n 0, 1) := by decide +kernel
theorem dX6_hangs_75 : decode cX6_hangs 75 = .ok (.getfield 10, 3) := by decide +kernel
theorem dX6_hangs_78 : decode cX6_hangs 78 = .ok (.invokevirtual 215, 3) := by decide +kernel
theorem dX6_hangs_81 : decode cX6_hangs 81 = .ok (.aload_n 0, 1) := by decide +kernel
theorem dX6_hangs_82 : decode cX6_hangs 82 = .ok (.getfield 46, 3) := by decide +kernel
theorem dX6_hangs_85 : decode cX6_hangs 85 = .ok (.getfield 225, 3) := by decide +kernel
theorem dX6_hangs_88 : decode cX6_hangs 88 = .ok (.getfield 155, 3) := by decide +kernel
theorem dX6_hangs_91 : decode cX6_hangs 91 = .ok (.iload 6, 2) := by decide +kernel
theorem dX6_hangs_93 : decode cX6_hangs 93 = .ok (.aaload, 1) := by decide +kernel
theorem dX6_hangs_94 : decode cX6_hangs 94 = .ok (.iconst 1, 1) := by decide +kernel
theorem dX6_hangs_95 : decode cX6_hangs 95 = .ok (.iconst 0, 1) := by decide +kernel
theorem dX6_hangs_96 : decode cX6_hangs 96 = .ok (.iastore, 1) := by decide +kernel
theorem dX6_hangs_97 : decode cX6_hangs 97 = .ok (.aload_n 0, 1) := by decide +kernel
theorem dX6_hangs_98 : decode cX6_hangs 98 = .ok (.getfield 46, 3) := by decide +kernel
theorem dX6_hangs_101 : decode cX6_hangs 101 = .ok (.aload_n 0, 1) := by decide +kernel
theorem dX6_hangs_102 : decode cX6_hangs 102 = .ok (.getfield 25, 3) := by decide +kernel
theorem dX6_hangs_105 : decode cX6_hangs 105 = .ok (.iload_n 1, 1) := by decide +kernel
theorem dX6_hangs_106 : decode cX6_hangs 106 = .ok (.iload_n 2, 1) := by decide +kernel
theorem dX6_hangs_107 : decode cX6_hangs 107 = .ok (.invokevirtual 218, 3) := by decide +kernel
theorem dX6_hangs_110 : decode cX6_hangs 110 = .ok (.iload 4, 2) := by decide +kernel
theorem dX6_hangs_112 : decode cX6_hangs 112 = .ok (.iconst (-1), 1) := by decide +kernel
theorem dX6_hangs_113 : decode cX6_hangs 113 = .ok (.if_icmp .eq 15, 3) := by decide +kernel
theorem dX6_hangs_116 : decode cX6_hangs 116 = .ok (.aload_n 0, 1) := by decide +kernel
theorem dX6_hangs_117 : decode cX6_hangs 117 = .ok (.getfield 46, 3) := by decide +kernel
theorem dX6_hangs_120 : decode cX6_hangs 120 = .ok (.invokevirtual 222, 3) := by decide +kernel
theorem dX6_hangs_123 : decode cX6_hangs 123 = .ok (.iload 5, 2) := by decide +kernel
theorem dX6_hangs_125 : decode cX6_hangs 125 = .ok (.if_icmp .ge 16, 3) := by decide +kernel
theorem dX6_hangs_128 : decode cX6_hangs 128 = .ok (.iload 6, 2) := by decide +kernel
theorem dX6_hangs_130 : decode cX6_hangs 130 = .ok (.istore 4, 2) := by decide +kernel
theorem dX6_hangs_132 : decode cX6_hangs 132 = .ok (.aload_n 0, 1) := by decide +kernel
theorem dX6_hangs_133 : decode cX6_hangs 133 = .ok (.getfield 46, 3) := by decide +kernel
theorem dX6_hangs_136 : decode cX6_hangs 136 = .ok (.invokevirtual 222, 3) := by decide +kernel
theorem dX6_hangs_139 : decode cX6_hangs 139 = .ok (.istore 5, 2) := by decide +kernel
theorem dX6_hangs_141 : decode cX6_hangs 141 = .ok (.iinc 6 1, 3) := by decide +kernel
theorem dX6_hangs_144 : decode cX6_hangs 144 = .ok (.goto (-98), 3) := by decide +kernel
theorem dX6_hangs_147 : decode cX6_hangs 147 = .ok (.iload 4, 2) := by decide +kernel
theorem dX6_hangs_149 : decode cX6_hangs 149 = .ok (.ireturn, 1) := by decide +kernel
theorem dX6_head_0 : decode cX6_head 0 = .ok (.iload_n 1, 1) := by decide +kernel
theorem dX6_head_1 : decode cX6_head 1 = .ok (.invokestatic 212, 3) := by decide +kernel
theorem dX6_head_4 : decode cX6_head 4 = .ok (.ifCond .ne 10, 3) := by decide +kernel
theorem dX6_head_7 : decode cX6_head 7 = .ok (.aload_n 0, 1) := by decide +kernel
theorem dX6_head_8 : decode cX6_head 8 = .ok (.bipush (-2), 2) := by decide +kernel
theorem dX6_head_10 : decode cX6_head 10 = .ok (.invokevirtual 76, 3) := by decide +kernel
theorem dX6_head_13 : decode cX6_head 13 = .ok (.ireturn, 1) := by decide +kernel
theorem dX6_head_14 : decode cX6_head 14 = .ok (.iconst (-1), 1) := by decide +kernel
theorem dX6_head_15 : decode cX6_head 15 = .ok (.istore_n 2, 1) := by decide +kernel
theorem dX6_head_16 : decode cX6_head 16 = .ok (.iconst 0, 1) := by decide +kernel
theorem dX6_head_17 : decode cX6_head 17 = .ok (.istore_n 3, 1) := by decide +kernel
theorem dX6_head_18 : decode cX6_head 18 = .ok (.iconst 0, 1) := by decide +kernel
theorem dX6_head_19 : decode cX6_head 19 = .ok (.istore 4, 2) := by decide +kernel
theorem dX6_head_21 : decode cX6_head 21 = .ok (.iload 4, 2) := by decide +kernel
theorem dX6_head_23 : decode cX6_head 23 = .ok (.bipush 8, 2) := by decide +kernel
theorem dX6_head_25 : decode cX6_head 25 = .ok (.if_icmp .ge 73, 3) := by decide +kernel
theorem dX6_head_28 : decode cX6_head 28 = .ok (.aload_n 0, 1) := by decide +kernel
theorem dX6_head_29 : decode cX6_head 29 = .ok (.getfield 25, 3) := by decide +kernel
theorem dX6_head_32 : decode cX6_head 32 = .ok (.iload 4, 2) := by decide +kernel
theorem dX6_head_34 : decode cX6_head 34 = .ok (.invokevirtual 240, 3) := by decide +kernel
theorem dX6_head_37 : decode cX6_head 37 = .ok (.ifCond .ne 55, 3) := by decide +kernel
theorem dX6_head_40 : decode cX6_head 40 = .ok (.aload_n 0, 1) := by decide +kernel
theorem dX6_head_41 : decode cX6_head 41 = .ok (.getfield 46, 3) := by decide +kernel
theorem dX6_head_44 : decode cX6_head 44 = .ok (.aload_n 0, 1) := by decide +kernel
theorem dX6_head_45 : decode cX6_head 45 = .ok (.getfield 10, 3) := by decide +kernel
theorem dX6_head_48 : decode cX6_head 48 = .ok (.invokevirtual 215, 3) := by decide +kernel
theorem dX6_head_51 : decode cX6_head 51 = .ok (.aload_n 0, 1) := by decide +kernel
theorem dX6_head_52 : decode cX6_head 52 = .ok (.getfield 46, 3) := by decide +kernel
theorem dX6_head_55 : decode cX6_head 55 = .ok (.aload_n 0, 1) := by decide +kernel
theorem dX6_head_56 : decode cX6_head 56 = .ok (.getfield 25, 3) := by decide +kernel
theorem dX6_head_59 : decode cX6_head 59 = .ok (.iload 4, 2) := by decide +kernel
theorem dX6_head_61 : decode cX6_head 61 = .ok (.iload_n 1, 1) := by decide +kernel
theorem dX6_head_62 : decode cX6_head 62 = .ok (.invokevirtual 218, 3) := by decide +kernel
theorem dX6_head_65 : decode cX6_head 65 = .ok (.iload_n 2, 1) := by decide +kernel
theorem dX6_head_66 : decode cX6_head 66 = .ok (.iconst (-1), 1) := by decide +kernel
theorem dX6_head_67 : decode cX6_head 67 = .ok (.if_icmp .eq 14, 3) := by decide +kernel
theorem dX6_head_70 : decode cX6_head 70 = .ok (.aload_n 0, 1) := by decide +kernel
theorem dX6_head_71 : decode cX6_head 71 = .ok (.getfield 46, 3) := by decide +kernel
theorem dX6_head_74 : decode cX6_head 74 = .ok (.invokevirtual 222, 3) := by decide +kernel
theorem dX6_head_77 : decode cX6_head 77 = .ok (.iload_n 3, 1) := by decide +kernel
theorem dX6_head_78 : decode cX6_head 78 = .ok (.if_icmp .ge 14, 3) := by decide +kernel
theorem dX6_head_81 : decode cX6_head 81 = .ok (.iload 4, 2) := by decide +kernel
theorem dX6_head_83 : decode cX6_head 83 = .ok (.istore_n 2, 1) := by decide +kernel
theorem dX6_head_84 : decode cX6_head 84 = .ok (.aload_n 0, 1) := by decide +kernel
theorem dX6_head_85 : decode cX6_head 85 = .ok (.getfield 46, 3) := by decide +kernel
theorem dX6_head_88 : decode cX6_head 88 = .ok (.invokevirtual 222, 3) := by decide +kernel
theorem dX6_head_91 : decode cX6_head 91 = .ok (.istore_n 3, 1) := by decide +kernel
theorem dX6_head_92 : decode cX6_head 92 = .ok (.iinc 4 1, 3) := by decide +kernel
theorem dX6_head_95 : decode cX6_head 95 = .ok (.goto (-74), 3) := by decide +kernel
theorem dX6_head_98 : decode cX6_head 98 = .ok (.iload_n 2, 1) := by decide +kernel
theorem dX6_head_99 : decode cX6_head 99 = .ok (.iconst (-1), 1) := by decide +kernel
theorem dX6_head_100 : decode cX6_head 100 = .ok (.if_icmp .ne 12, 3) := by decide +kernel
theorem dX6_head_103 : decode cX6_head 103 = .ok (.aload_n 0, 1) := by decide +kernel
theorem dX6_head_104 : decode cX6_head 104 = .ok (.bipush (-5), 2) := by decide +kernel
theorem dX6_head_106 : decode cX6_head 106 = .ok (.invokevirtual 76, 3) := by decide +kernel
theorem dX6_head_109 : decode cX6_head 109 = .ok (.goto 4, 3) := by decide +kernel
theorem dX6_head_112 : decode cX6_head 112 = .ok (.iload_n 2, 1) := by decide +kernel
theorem dX6_head_113 : decode cX6_head 113 = .ok (.ireturn, 1) := by decide +kernel
theorem dX6_holder_0 : decode cX6_holder 0 = .ok (.aload_n 0, 1) := by decide +kernel
theorem dX6_holder_1 : decode cX6_holder 1 = .ok (.iload_n 1, 1) := by decide +kernel
theorem dX6_holder_2 : decode cX6_holder 2 = .ok (.iload_n 2, 1) := by decide +kernel
theorem dX6_holder_3 : decode cX6_holder 3 = .ok (.invokestatic 212, 3) := by decide +kernel
theorem dX6_holder_6 : decode cX6_holder 6 = .ok (.ifCond .eq 18, 3) := by decide +kernel
theorem dX6_holder_9 : decode cX6_holder 9 = .ok (.aload_n 0, 1) := by decide +kernel
theorem dX6_holder_10 : decode cX6_holder 10 = .ok (.getfield 10, 3) := by decide +kernel
theorem dX6_holder_13 : decode cX6_holder 13 = .ok (.iload_n 3, 1) := by decide +kernel
theorem dX6_holder_14 : decode cX6_holder 14 = .ok (.invokevirtual 152, 3) := by decide +kernel
theorem dX6_holder_17 : decode cX6_holder 17 = .ok (.ifCond .eq 7, 3) := by decide +kernel
theorem dX6_holder_20 : decode cX6_holder 20 = .ok (.iconst 1, 1) := by decide +kernel
theorem dX6_holder_21 : decode cX6_holder 21 = .ok (.goto 4, 3) := by decide +kernel
theorem dX6_holder_24 : decode cX6_holder 24 = .ok (.iconst 0, 1) := by decide +kernel
theorem dX6_holder_25 : decode cX6_holder 25 = .ok (.invokevirtual 116, 3) := by decide +kernel
theorem dX6_holder_28 : decode cX6_holder 28 = .ok (.istore 4, 2) := by decide +kernel
theorem dX6_holder_30 : decode cX6_holder 30 = .ok (.iload 4, 2) := by decide +kernel
theorem dX6_holder_32 : decode cX6_holder 32 = .ok (.ifCond .eq 10, 3) := by decide +kernel
theorem dX6_holder_35 : decode cX6_holder 35 = .ok (.aload_n 0, 1) := by decide +kernel
theorem dX6_holder_36 : decode cX6_holder 36 = .ok (.iload 4, 2) := by decide +kernel
theorem dX6_holder_38 : decode cX6_holder 38 = .ok (.invokevirtual 76, 3) := by decide +kernel
theorem dX6_holder_41 : decode cX6_holder 41 = .ok (.ireturn, 1) := by decide +kernel
theorem dX6_holder_42 : decode cX6_holder 42 = .ok (.aload_n 0, 1) := by decide +kernel
theorem dX6_holder_43 : decode cX6_holder 43 = .ok (.getfield 46, 3) := by decide +kernel
theorem dX6_holder_46 : decode cX6_holder 46 = .ok (.aload_n 0, 1) := by decide +kernel
theorem dX6_holder_47 : decode cX6_holder 47 = .ok (.getfield 10, 3) := by decide +kernel
theorem dX6_holder_50 : decode cX6_holder 50 = .ok (.invokevirtual 215, 3) := by decide +kernel
theorem dX6_holder_53 : decode cX6_holder 53 = .ok (.aload_n 0, 1) := by decide +kernel
theorem dX6_holder_54 : decode cX6_holder 54 = .ok (.getfield 46, 3) := by decide +kernel
theorem dX6_holder_57 : decode cX6_holder 57 = .ok (.aload_n 0, 1) := by decide +kernel
theorem dX6_holder_58 : decode cX6_holder 58 = .ok (.getfield 25, 3) := by decide +kernel
theorem dX6_holder_61 : decode cX6_holder 61 = .ok (.iload_n 1, 1) := by decide +kernel
theorem dX6_holder_62 : decode cX6_holder 62 = .ok (.iload_n 2, 1) := by decide +kernel
theorem dX6_holder_63 : decode cX6_holder 63 = .ok (.invokevirtual 218, 3) := by decide +kernel
theorem dX6_holder_66 : decode cX6_holder 66 = .ok (.aload_n 0, 1) := by decide +kernel
theorem dX6_holder_67 : decode cX6_holder 67 = .ok (.getfield 46, 3) := by decide +kernel
theorem dX6_holder_70 : decode cX6_holder 70 = .ok (.getfield 225, 3) := by decide +kernel
theorem dX6_holder_73 : decode cX6_holder 73 = .ok (.getfield 155, 3) := by decide +kernel
theorem dX6_holder_76 : decode cX6_holder 76 = .ok (.iload_n 3, 1) := by decide +kernel
theorem dX6_holder_77 : decode cX6_holder 77 = .ok (.aaload, 1) := by decide +kernel
theorem dX6_holder_78 : decode cX6_holder 78 = .ok (.bipush 8, 2) := by decide +kernel
theorem dX6_holder_80 : decode cX6_holder 80 = .ok (.iaload, 1) := by decide +kernel
theorem dX6_holder_81 : decode cX6_holder 81 = .ok (.aload_n 0, 1) := by decide +kernel
theorem dX6_holder_82 : decode cX6_holder 82 = .ok (.getfield 10, 3) := by decide +kernel
theorem dX6_holder_85 : decode cX6_holder 85 = .ok (.getfield 155, 3) := by decide +kernel
theorem dX6_holder_88 : decode cX6_holder 88 = .ok (.iload_n 3, 1) := by decide +kernel
theorem dX6_holder_89 : decode cX6_holder 89 = .ok (.aaload, 1) := by decide +kernel
theorem dX6_holder_90 : decode cX6_holder 90 = .ok (.bipush 8, 2) := by decide +kernel
theorem dX6_holder_92 : decode cX6_holder 92 = .ok (.iaload, 1) := by decide +kernel
theorem dX6_holder_93 : decode cX6_holder 93 = .ok (.isub, 1) := by decide +kernel
theorem dX6_holder_94 : decode cX6_holder 94 = .ok (.ireturn, 1) := by decide +kernel
theorem dX6_holds_0 : decode cX6_holds 0 = .ok (.aload_n 0, 1) := by decide +kernel
theorem dX6_holds_1 : decode cX6_holds 1 = .ok (.getfield 25, 3) := by decide +kernel
theorem dX6_holds_4 : decode cX6_holds 4 = .ok (.iload_n 1, 1) := by decide +kernel
theorem dX6_holds_5 : decode cX6_holds 5 = .ok (.invokevirtual 110, 3) := by decide +kernel
theorem dX6_holds_8 : decode cX6_holds 8 = .ok (.ireturn, 1) := by decide +kernel
theorem dX6_image_0 : decode cX6_image 0 = .ok (.aload_n 0, 1) := by decide +kernel
theorem dX6_image_1 : decode cX6_image 1 = .ok (.getfield 16, 3) := by decide +kernel
theorem dX6_image_4 : decode cX6_image 4 = .ok (.aload_n 0, 1) := by decide +kernel
theorem dX6_image_5 : decode cX6_image 5 = .ok (.getfield 10, 3) := by decide +kernel
theorem dX6_image_8 : decode cX6_image 8 = .ok (.invokevirtual 184, 3) := by decide +kernel
theorem dX6_image_11 : decode cX6_image 11 = .ok (.aload_n 0, 1) := by decide +kernel
theorem dX6_image_12 : decode cX6_image 12 = .ok (.iconst 1, 1) := by decide +kernel
theorem dX6_image_13 : decode cX6_image 13 = .ok (.putfield 64, 3) := by decide +kernel
theorem dX6_image_16 : decode cX6_image 16 = .ok (.iconst 1, 1) := by decide +kernel
theorem dX6_image_17 : decode cX6_image 17 = .ok (.ireturn, 1) := by decide +kernel
theorem dX6_income_0 : decode cX6_income 0 = .ok (.iload_n 1, 1) := by decide +kernel
theorem dX6_income_1 : decode cX6_income 1 = .ok (.iconst 0, 1) := by decide +kernel
theorem dX6_income_2 : decode cX6_income 2 = .ok (.bipush 11, 2) := by decide +kernel
theorem dX6_income_4 : decode cX6_income 4 = .ok (.invokestatic 72, 3) := by decide +kernel
theorem dX6_income_7 : decode cX6_income 7 = .ok (.ifCond .eq 13, 3) := by decide +kernel
theorem dX6_income_10 : decode cX6_income 10 = .ok (.iload_n 2, 1) := by decide +kernel
theorem dX6_income_11 : decode cX6_income 11 = .ok (.iconst 0, 1) := by decide +kernel
theorem dX6_income_12 : decode cX6_income 12 = .ok (.bipush 99, 2) := by decide +kernel
theorem dX6_income_14 : decode cX6_income 14 = .ok (.invokestatic 72, 3) := by decide +kernel
theorem dX6_income_17 : decode cX6_income 17 = .ok (.ifCond .ne 10, 3) := by decide +kernel
theorem dX6_income_20 : decode cX6_income 20 = .ok (.aload_n 0, 1) := by decide +kernel
theorem dX6_income_21 : decode cX6_income 21 = .ok (.bipush (-2), 2) := by decide +kernel
theorem dX6_income_23 : decode cX6_income 23 = .ok (.invokevirtual 76, 3) := by decide +kernel
theorem dX6_income_26 : decode cX6_income 26 = .ok (.ireturn, 1) := by decide +kernel
theorem dX6_income_27 : decode cX6_income 27 = .ok (.aload_n 0, 1) := by decide +kernel
theorem dX6_income_28 : decode cX6_income 28 = .ok (.getfield 10, 3) := by decide +kernel
theorem dX6_income_31 : decode cX6_income 31 = .ok (.getfield 159, 3) := by decide +kernel
theorem dX6_income_34 : decode cX6_income 34 = .ok (.iload_n 1, 1) := by decide +kernel
theorem dX6_income_35 : decode cX6_income 35 = .ok (.iaload, 1) := by decide +kernel
theorem dX6_income_36 : decode cX6_income 36 = .ok (.istore_n 3, 1) := by decide +kernel
theorem dX6_income_37 : decode cX6_income 37 = .ok (.aload_n 0, 1) := by decide +kernel
theorem dX6_income_38 : decode cX6_income 38 = .ok (.getfield 10, 3) := by decide +kernel
theorem dX6_income_41 : decode cX6_income 41 = .ok (.getfield 159, 3) := by decide +kernel
theorem dX6_income_44 : decode cX6_income 44 = .ok (.iload_n 1, 1) := by decide +kernel
theorem dX6_income_45 : decode cX6_income 45 = .ok (.iload_n 2, 1) := by decide +kernel
theorem dX6_income_46 : decode cX6_income 46 = .ok (.iastore, 1) := by decide +kernel
theorem dX6_income_47 : decode cX6_income 47 = .ok (.iload_n 3, 1) := by decide +kernel
theorem dX6_income_48 : decode cX6_income 48 = .ok (.ireturn, 1) := by decide +kernel
theorem dX6_judgement_0 : decode cX6_judgement 0 = .ok (.lconst 0, 1) := by decide +kernel
theorem dX6_judgement_1 : decode cX6_judgement 1 = .ok (.lstore_n 2, 1) := by decide +kernel
theorem dX6_judgement_2 : decode cX6_judgement 2 = .ok (.iconst 0, 1) := by decide +kernel
theorem dX6_judgement_3 : decode cX6_judgement 3 = .ok (.istore 4, 2) := by decide +kernel
theorem dX6_judgement_5 : decode cX6_judgement 5 = .ok (.iload 4, 2) := by decide +kernel
theorem dX6_judgement_7 : decode cX6_judgement 7 = .ok (.aload_n 0, 1) := by decide +kernel
theorem dX6_judgement_8 : decode cX6_judgement 8 = .ok (.getfield 10, 3) := by decide +kernel
theorem dX6_judgement_11 : decode cX6_judgement 11 = .ok (.getfield 209, 3) := by decide +kernel
theorem dX6_judgement_14 : decode cX6_judgement 14 = .ok (.if_icmp .ge 55, 3) := by decide +kernel
theorem dX6_judgement_17 : decode cX6_judgement 17 = .ok (.aload_n 0, 1) := by decide +kernel
theorem dX6_judgement_18 : decode cX6_judgement 18 = .ok (.getfield 25, 3) := by decide +kernel
theorem dX6_judgement_21 : decode cX6_judgement 21 = .ok (.iload_n 1, 1) := by decide +kernel
theorem dX6_judgement_22 : decode cX6_judgement 22 = .ok (.iload 4, 2) := by decide +kernel
theorem dX6_judgement_24 : decode cX6_judgement 24 = .ok (.invokevirtual 106, 3) := by decide +kernel
theorem dX6_judgement_27 : decode cX6_judgement 27 = .ok (.lstore 5, 2) := by decide +kernel
theorem dX6_judgement_29 : decode cX6_judgement 29 = .ok (.lload 5, 2) := by decide +kernel
theorem dX6_judgement_31 : decode cX6_judgement 31 = .ok (.lconst 0, 1) := by decide +kernel
theorem dX6_judgement_32 : decode cX6_judgement 32 = .ok (.lcmp, 1) := by decide +kernel
theorem dX6_judgement_33 : decode cX6_judgement 33 = .ok (.ifCond .lt 22, 3) := by decide +kernel
theorem dX6_judgement_36 : decode cX6_judgement 36 = .ok (.lload 5, 2) := by decide +kernel
theorem dX6_judgement_38 : decode cX6_judgement 38 = .ok (.aload_n 0, 1) := by decide +kernel
theorem dX6_judgement_39 : decode cX6_judgement 39 = .ok (.getfield 10, 3) := by decide +kernel
theorem dX6_judgement_42 : decode cX6_judgement 42 = .ok (.getfield 155, 3) := by decide +kernel
theorem dX6_judgement_45 : decode cX6_judgement 45 = .ok (.iload 4, 2) := by decide +kernel
theorem dX6_judgement_47 : decode cX6_judgement 47 = .ok (.aaload, 1) := by decide +kernel
theorem dX6_judgement_48 : decode cX6_judgement 48 = .ok (.iconst 1, 1) := by decide +kernel
theorem dX6_judgement_49 : decode cX6_judgement 49 = .ok (.iaload, 1) := by decide +kernel
theorem dX6_judgement_50 : decode cX6_judgement 50 = .ok (.i2l, 1) := by decide +kernel
theorem dX6_judgement_51 : decode cX6_judgement 51 = .ok (.lcmp, 1) := by decide +kernel
theorem dX6_judgement_52 : decode cX6_judgement 52 = .ok (.ifCond .le 6, 3) := by decide +kernel
theorem dX6_judgement_55 : decode cX6_judgement 55 = .ok (.iload 4, 2) := by decide +kernel
theorem dX6_judgement_57 : decode cX6_judgement 57 = .ok (.ireturn, 1) := by decide +kernel
theorem dX6_judgement_58 : decode cX6_judgement 58 = .ok (.lload_n 2, 1) := by decide +kernel
theorem dX6_judgement_59 : decode cX6_judgement 59 = .ok (.lload 5, 2) := by decide +kernel
theorem dX6_judgement_61 : decode cX6_judgement 61 = .ok (.ladd, 1) := by decide +kernel
theorem dX6_judgement_62 : decode cX6_judgement 62 = .ok (.lstore_n 2, 1) := by decide +kernel
theorem dX6_judgement_63 : decode cX6_judgement 63 = .ok (.iinc 4 1, 3) := by decide +kernel
theorem dX6_judgement_66 : decode cX6_judgement 66 = .ok (.goto (-61), 3) := by decide +kernel
theorem dX6_judgement_69 : decode cX6_judgement 69 = .ok (.lload_n 2, 1) := by decide +kernel
theorem dX6_judgement_70 : decode cX6_judgement 70 = .ok (.aload_n 0, 1) := by decide +kernel
theorem dX6_judgement_71 : decode cX6_judgement 71 = .ok (.getfield 10, 3) := by decide +kernel
theorem dX6_judgement_74 : decode cX6_judgement 74 = .ok (.invokevirtual 290, 3) := by decide +kernel
theorem dX6_judgement_77 : decode cX6_judgement 77 = .ok (.i2l, 1) := by decide +kernel
theorem dX6_judgement_78 : decode cX6_judgement 78 = .ok (.lcmp, 1) := by decide +kernel
theorem dX6_judgement_79 : decode cX6_judgement 79 = .ok (.ifCond .le 8, 3) := by decide +kernel
theorem dX6_judgement_82 : decode cX6_judgement 82 = .ok (.bipush 9, 2) := by decide +kernel
theorem dX6_judgement_84 : decode cX6_judgement 84 = .ok (.goto 4, 3) := by decide +kernel
theorem dX6_judgement_87 : decode cX6_judgement 87 = .ok (.iconst (-1), 1) := by decide +kernel
theorem dX6_judgement_88 : decode cX6_judgement 88 = .ok (.ireturn, 1) := by decide +kernel
theorem dX6_judge_0 : decode cX6_judge 0 = .ok (.aload_n 0, 1) := by decide +kernel
theorem dX6_judge_1 : decode cX6_judge 1 = .ok (.getfield 25, 3) := by decide +kernel
theorem dX6_judge_4 : decode cX6_judge 4 = .ok (.iload_n 1, 1) := by decide +kernel
theorem dX6_judge_5 : decode cX6_judge 5 = .ok (.invokevirtual 84, 3) := by decide +kernel
theorem dX6_judge_8 : decode cX6_judge 8 = .ok (.istore_n 2, 1) := by decide +kernel
theorem dX6_judge_9 : decode cX6_judge 9 = .ok (.iload_n 2, 1) := by decide +kernel
theorem dX6_judge_10 : decode cX6_judge 10 = .ok (.ifCond .ne 11, 3) := by decide +kernel
theorem dX6_judge_13 : decode cX6_judge 13 = .ok (.aload_n 0, 1) := by decide +kernel
theorem dX6_judge_14 : decode cX6_judge 14 = .ok (.iload_n 1, 1) := by decide +kernel
theorem dX6_judge_15 : decode cX6_judge 15 = .ok (.invokevirtual 206, 3) := by decide +kernel
theorem dX6_judge_18 : decode cX6_judge 18 = .ok (.goto 8, 3) := by decide +kernel
theorem dX6_judge_21 : decode cX6_judge 21 = .ok (.aload_n 0, 1) := by decide +kernel
theorem dX6_judge_22 : decode cX6_judge 22 = .ok (.iload_n 2, 1) := by decide +kernel
theorem dX6_judge_23 : decode cX6_judge 23 = .ok (.invokevirtual 76, 3) := by decide +kernel
theorem dX6_judge_26 : decode cX6_judge 26 = .ok (.ireturn, 1) := by decide +kernel
theorem dX6_life_0 : decode cX6_life 0 = .ok (.aload_n 0, 1) := by decide +kernel
theorem dX6_life_1 : decode cX6_life 1 = .ok (.getfield 19, 3) := by decide +kernel
theorem dX6_life_4 : decode cX6_life 4 = .ok (.aload_n 0, 1) := by decide +kernel
theorem dX6_life_5 : decode cX6_life 5 = .ok (.getfield 10, 3) := by decide +kernel
theorem dX6_life_8 : decode cX6_life 8 = .ok (.invokevirtual 184, 3) := by decide +kernel
theorem dX6_life_11 : decode cX6_life 11 = .ok (.aload_n 0, 1) := by decide +kernel
theorem dX6_life_12 : decode cX6_life 12 = .ok (.getfield 32, 3) := by decide +kernel
theorem dX6_life_15 : decode cX6_life 15 = .ok (.aload_n 0, 1) := by decide +kernel
theorem dX6_life_16 : decode cX6_life 16 = .ok (.getfield 19, 3) := by decide +kernel
theorem dX6_life_19 : decode cX6_life 19 = .ok (.invokevirtual 188, 3) := by decide +kernel
theorem dX6_life_22 : decode cX6_life 22 = .ok (.istore_n 1, 1) := by decide +kernel
theorem dX6_life_23 : decode cX6_life 23 = .ok (.aload_n 0, 1) := by decide +kernel
theorem dX6_life_24 : decode cX6_life 24 = .ok (.getfield 32, 3) := by decide +kernel
theorem dX6_life_27 : decode cX6_life 27 = .ok (.invokevirtual 181, 3) := by decide +kernel
theorem dX6_life_30 : decode cX6_life 30 = .ok (.iload_n 1, 1) := by decide +kernel
theorem dX6_life_31 : decode cX6_life 31 = .ok (.ifCond .ge 13, 3) := by decide +kernel
theorem dX6_life_34 : decode cX6_life 34 = .ok (.aload_n 0, 1) := by decide +kernel
theorem dX6_life_35 : decode cX6_life 35 = .ok (.bipush (-2), 2) := by decide +kernel
theorem dX6_life_37 : decode cX6_life 37 = .ok (.invokevirtual 76, 3) := by decide +kernel
theorem dX6_life_40 : decode cX6_life 40 = .ok (.pop, 1) := by decide +kernel
theorem dX6_life_41 : decode cX6_life 41 = .ok (.goto 14, 3) := by decide +kernel
theorem dX6_life_44 : decode cX6_life 44 = .ok (.aload_n 0, 1) := by decide +kernel
theorem dX6_life_45 : decode cX6_life 45 = .ok (.getfield 10, 3) := by decide +kernel
theorem dX6_life_48 : decode cX6_life 48 = .ok (.aload_n 0, 1) := by decide +kernel
theorem dX6_life_49 : decode cX6_life 49 = .ok (.getfield 19, 3) := by decide +kernel
theorem dX6_life_52 : decode cX6_life 52 = .ok (.invokevirtual 184, 3) := by decide +kernel
theorem dX6_life_55 : decode cX6_life 55 = .ok (.iload_n 1, 1) := by decide +kernel
theorem dX6_life_56 : decode cX6_life 56 = .ok (.ireturn, 1) := by decide +kernel
theorem dX6_lose_0 : decode cX6_lose 0 = .ok (.aload_n 0, 1) := by decide +kernel
theorem dX6_lose_1 : decode cX6_lose 1 = .ok (.iload_n 1, 1) := by decide +kernel
theorem dX6_lose_2 : decode cX6_lose 2 = .ok (.iload_n 2, 1) := by decide +kernel
theorem dX6_lose_3 : decode cX6_lose 3 = .ok (.invokestatic 242, 3) := by decide +kernel
theorem dX6_lose_6 : decode cX6_lose 6 = .ok (.invokevirtual 116, 3) := by decide +kernel
theorem dX6_lose_9 : decode cX6_lose 9 = .ok (.istore_n 3, 1) := by decide +kernel
theorem dX6_lose_10 : decode cX6_lose 10 = .ok (.iload_n 3, 1) := by decide +kernel
theorem dX6_lose_11 : decode cX6_lose 11 = .ok (.ifCond .ne 17, 3) := by decide +kernel
theorem dX6_lose_14 : decode cX6_lose 14 = .ok (.aload_n 0, 1) := by decide +kernel
theorem dX6_lose_15 : decode cX6_lose 15 = .ok (.getfield 10, 3) := by decide +kernel
theorem dX6_lose_18 : decode cX6_lose 18 = .ok (.iload_n 2, 1) := by decide +kernel
theorem dX6_lose_19 : decode cX6_lose 19 = .ok (.invokestatic 245, 3) := by decide +kernel
theorem dX6_lose_22 : decode cX6_lose 22 = .ok (.ifCond .ne 6, 3) := by decide +kernel
theorem dX6_lose_25 : decode cX6_lose 25 = .ok (.bipush (-5), 2) := by decide +kernel
theorem dX6_lose_27 : decode cX6_lose 27 = .ok (.istore_n 3, 1) := by decide +kernel
theorem dX6_lose_28 : decode cX6_lose 28 = .ok (.iload_n 3, 1) := by decide +kernel
theorem dX6_lose_29 : decode cX6_lose 29 = .ok (.ifCond .eq 13, 3) := by decide +kernel
theorem dX6_lose_32 : decode cX6_lose 32 = .ok (.aload_n 0, 1) := by decide +kernel
theorem dX6_lose_33 : decode cX6_lose 33 = .ok (.iload_n 3, 1) := by decide +kernel
theorem dX6_lose_34 : decode cX6_lose 34 = .ok (.invokevirtual 76, 3) := by decide +kernel
theorem dX6_lose_37 : decode cX6_lose 37 = .ok (.sipush 1000, 3) := by decide +kernel
theorem dX6_lose_40 : decode cX6_lose 40 = .ok (.isub, 1) := by decide +kernel
theorem dX6_lose_41 : decode cX6_lose 41 = .ok (.ireturn, 1) := by decide +kernel
theorem dX6_lose_42 : decode cX6_lose 42 = .ok (.aload_n 0, 1) := by decide +kernel
theorem dX6_lose_43 : decode cX6_lose 43 = .ok (.getfield 46, 3) := by decide +kernel
theorem dX6_lose_46 : decode cX6_lose 46 = .ok (.aload_n 0, 1) := by decide +kernel
theorem dX6_lose_47 : decode cX6_lose 47 = .ok (.getfield 10, 3) := by decide +kernel
theorem dX6_lose_50 : decode cX6_lose 50 = .ok (.invokevirtual 215, 3) := by decide +kernel
theorem dX6_lose_53 : decode cX6_lose 53 = .ok (.aload_n 0, 1) := by decide +kernel
theorem dX6_lose_54 : decode cX6_lose 54 = .ok (.getfield 46, 3) := by decide +kernel
theorem dX6_lose_57 : decode cX6_lose 57 = .ok (.aload_n 0, 1) := by decide +kernel
theorem dX6_lose_58 : decode cX6_lose 58 = .ok (.getfield 25, 3) := by decide +kernel
theorem dX6_lose_61 : decode cX6_lose 61 = .ok (.iload_n 1, 1) := by decide +kernel
theorem dX6_lose_62 : decode cX6_lose 62 = .ok (.iload_n 2, 1) := by decide +kernel
theorem dX6_lose_63 : decode cX6_lose 63 = .ok (.invokevirtual 218, 3) := by decide +kernel
theorem dX6_lose_66 : decode cX6_lose 66 = .ok (.aload_n 0, 1) := by decide +kernel
theorem dX6_lose_67 : decode cX6_lose 67 = .ok (.getfield 53, 3) := by decide +kernel
theorem dX6_lose_70 : decode cX6_lose 70 = .ok (.aload_n 0, 1) := by decide +kernel
theorem dX6_lose_71 : decode cX6_lose 71 = .ok (.getfield 10, 3) := by decide +kernel
theorem dX6_lose_74 : decode cX6_lose 74 = .ok (.iload_n 2, 1) := by decide +kernel
theorem dX6_lose_75 : decode cX6_lose 75 = .ok (.invokevirtual 249, 3) := by decide +kernel
theorem dX6_lose_78 : decode cX6_lose 78 = .ok (.aload_n 0, 1) := by decide +kernel
theorem dX6_lose_79 : decode cX6_lose 79 = .ok (.getfield 46, 3) := by decide +kernel
theorem dX6_lose_82 : decode cX6_lose 82 = .ok (.invokevirtual 222, 3) := by decide +kernel
theorem dX6_lose_85 : decode cX6_lose 85 = .ok (.aload_n 0, 1) := by decide +kernel
theorem dX6_lose_86 : decode cX6_lose 86 = .ok (.getfield 53, 3) := by decide +kernel
theorem dX6_lose_89 : decode cX6_lose 89 = .ok (.getfield 253, 3) := by decide +kernel
theorem dX6_lose_92 : decode cX6_lose 92 = .ok (.isub, 1) := by decide +kernel
theorem dX6_lose_93 : decode cX6_lose 93 = .ok (.ireturn, 1) := by decide +kernel
theorem dX6_offer_0 : decode cX6_offer 0 = .ok (.iload_n 2, 1) := by decide +kernel
theorem dX6_offer_1 : decode cX6_offer 1 = .ok (.invokestatic 212, 3) := by decide +kernel
theorem dX6_offer_4 : decode cX6_offer 4 = .ok (.ifCond .eq 42, 3) := by decide +kernel
theorem dX6_offer_7 : decode cX6_offer 7 = .ok (.aload_n 0, 1) := by decide +kernel
theorem dX6_offer_8 : decode cX6_offer 8 = .ok (.getfield 10, 3) := by decide +kernel
theorem dX6_offer_11 : decode cX6_offer 11 = .ok (.iload_n 3, 1) := by decide +kernel
theorem dX6_offer_12 : decode cX6_offer 12 = .ok (.invokevirtual 152, 3) := by decide +kernel
theorem dX6_offer_15 : decode cX6_offer 15 = .ok (.ifCond .eq 31, 3) := by decide +kernel
theorem dX6_offer_18 : decode cX6_offer 18 = .ok (.iload 4, 2) := by decide +kernel
theorem dX6_offer_20 : decode cX6_offer 20 = .ok (.iconst 0, 1) := by decide +kernel
theorem dX6_offer_21 : decode cX6_offer 21 = .ok (.sipush 9999, 3) := by decide +kernel
theorem dX6_offer_24 : decode cX6_offer 24 = .ok (.invokestatic 72, 3) := by decide +kernel
theorem dX6_offer_27 : decode cX6_offer 27 = .ok (.ifCond .eq 19, 3) := by decide +kernel
theorem dX6_offer_30 : decode cX6_offer 30 = .ok (.iload 4, 2) := by decide +kernel
theorem dX6_offer_32 : decode cX6_offer 32 = .ok (.aload_n 0, 1) := by decide +kernel
theorem dX6_offer_33 : decode cX6_offer 33 = .ok (.getfield 10, 3) := by decide +kernel
theorem dX6_offer_36 : decode cX6_offer 36 = .ok (.getfield 162, 3) := by decide +kernel
theorem dX6_offer_39 : decode cX6_offer 39 = .ok (.if_icmp .gt 7, 3) := by decide +kernel
theorem dX6_offer_42 : decode cX6_offer 42 = .ok (.iconst 1, 1) := by decide +kernel
theorem dX6_offer_43 : decode cX6_offer 43 = .ok (.goto 4, 3) := by decide +kernel
theorem dX6_offer_46 : decode cX6_offer 46 = .ok (.iconst 0, 1) := by decide +kernel
theorem dX6_offer_47 : decode cX6_offer 47 = .ok (.istore 5, 2) := by decide +kernel
theorem dX6_offer_49 : decode cX6_offer 49 = .ok (.aload_n 0, 1) := by decide +kernel
theorem dX6_offer_50 : decode cX6_offer 50 = .ok (.iload_n 1, 1) := by decide +kernel
theorem dX6_offer_51 : decode cX6_offer 51 = .ok (.iload 5, 2) := by decide +kernel
theorem dX6_offer_53 : decode cX6_offer 53 = .ok (.invokevirtual 116, 3) := by decide +kernel
theorem dX6_offer_56 : decode cX6_offer 56 = .ok (.istore 6, 2) := by decide +kernel
theorem dX6_offer_58 : decode cX6_offer 58 = .ok (.iload 6, 2) := by decide +kernel
theorem dX6_offer_60 : decode cX6_offer 60 = .ok (.ifCond .ne 18, 3) := by decide +kernel
theorem dX6_offer_63 : decode cX6_offer 63 = .ok (.aload_n 0, 1) := by decide +kernel
theorem dX6_offer_64 : decode cX6_offer 64 = .ok (.getfield 10, 3) := by decide +kernel
theorem dX6_offer_67 : decode cX6_offer 67 = .ok (.iload_n 3, 1) := by decide +kernel
theorem dX6_offer_68 : decode cX6_offer 68 = .ok (.invokevirtual 265, 3) := by decide +kernel
theorem dX6_offer_71 : decode cX6_offer 71 = .ok (.ifCond .ne 7, 3) := by decide +kernel
theorem dX6_offer_74 : decode cX6_offer 74 = .ok (.bipush (-5), 2) := by decide +kernel
theorem dX6_offer_76 : decode cX6_offer 76 = .ok (.istore 6, 2) := by decide +kernel
theorem dX6_offer_78 : decode cX6_offer 78 = .ok (.iload 6, 2) := by decide +kernel
theorem dX6_offer_80 : decode cX6_offer 80 = .ok (.ifCond .eq 14, 3) := by decide +kernel
theorem dX6_offer_83 : decode cX6_offer 83 = .ok (.aload_n 0, 1) := by decide +kernel
theorem dX6_offer_84 : decode cX6_offer 84 = .ok (.iload 6, 2) := by decide +kernel
theorem dX6_offer_86 : decode cX6_offer 86 = .ok (.invokevirtual 76, 3) := by decide +kernel
theorem dX6_offer_89 : decode cX6_offer 89 = .ok (.ldc_w 268, 3) := by decide +kernel
theorem dX6_offer_92 : decode cX6_offer 92 = .ok (.isub, 1) := by decide +kernel
theorem dX6_offer_93 : decode cX6_offer 93 = .ok (.ireturn, 1) := by decide +kernel
theorem dX6_offer_94 : decode cX6_offer 94 = .ok (.aload_n 0, 1) := by decide +kernel
theorem dX6_offer_95 : decode cX6_offer 95 = .ok (.getfield 46, 3) := by decide +kernel
theorem dX6_offer_98 : decode cX6_offer 98 = .ok (.aload_n 0, 1) := by decide +kernel
theorem dX6_offer_99 : decode cX6_offer 99 = .ok (.getfield 10, 3) := by decide +kernel
theorem dX6_offer_102 : decode cX6_offer 102 = .ok (.invokevirtual 215, 3) := by decide +kernel
theorem dX6_offer_105 : decode cX6_offer 105 = .ok (.aload_n 0, 1) := by decide +kernel
theorem dX6_offer_106 : decode cX6_offer 106 = .ok (.getfield 46, 3) := by decide +kernel
theorem dX6_offer_109 : decode cX6_offer 109 = .ok (.aload_n 0, 1) := by decide +kernel
theorem dX6_offer_110 : decode cX6_offer 110 = .ok (.getfield 25, 3) := by decide +kernel
theorem dX6_offer_113 : decode cX6_offer 113 = .ok (.iload_n 1, 1) := by decide +kernel
theorem dX6_offer_114 : decode cX6_offer 114 = .ok (.iload_n 2, 1) := by decide +kernel
theorem dX6_offer_115 : decode cX6_offer 115 = .ok (.invokevirtual 218, 3) := by decide +kernel
theorem dX6_offer_118 : decode cX6_offer 118 = .ok (.aload_n 0, 1) := by decide +kernel
theorem dX6_offer_119 : decode cX6_offer 119 = .ok (.getfield 46, 3) := by decide +kernel
theorem dX6_offer_122 : decode cX6_offer 122 = .ok (.invokevirtual 222, 3) := by decide +kernel
theorem dX6_offer_125 : decode cX6_offer 125 = .ok (.aload_n 0, 1) := by decide +kernel
theorem dX6_offer_126 : decode cX6_offer 126 = .ok (.getfield 46, 3) := by decide +kernel
theorem dX6_offer_129 : decode cX6_offer 129 = .ok (.getfield 234, 3) := by decide +kernel
theorem dX6_offer_132 : decode cX6_offer 132 = .ok (.iadd, 1) := by decide +kernel
theorem dX6_offer_133 : decode cX6_offer 133 = .ok (.istore 7, 2) := by decide +kernel
theorem dX6_offer_135 : decode cX6_offer 135 = .ok (.aload_n 0, 1) := by decide +kernel
theorem dX6_offer_136 : decode cX6_offer 136 = .ok (.getfield 46, 3) := by decide +kernel
theorem dX6_offer_139 : decode cX6_offer 139 = .ok (.aload_n 0, 1) := by decide +kernel
theorem dX6_offer_140 : decode cX6_offer 140 = .ok (.getfield 10, 3) := by decide +kernel
theorem dX6_offer_143 : decode cX6_offer 143 = .ok (.invokevirtual 215, 3) := by decide +kernel
theorem dX6_offer_146 : decode cX6_offer 146 = .ok (.aload_n 0, 1) := by decide +kernel
theorem dX6_offer_147 : decode cX6_offer 147 = .ok (.getfield 46, 3) := by decide +kernel
theorem dX6_offer_150 : decode cX6_offer 150 = .ok (.getfield 225, 3) := by decide +kernel
theorem dX6_offer_153 : decode cX6_offer 153 = .ok (.dup, 1) := by decide +kernel
theorem dX6_offer_154 : decode cX6_offer 154 = .ok (.getfield 162, 3) := by decide +kernel
theorem dX6_offer_157 : decode cX6_offer 157 = .ok (.iload 4, 2) := by decide +kernel
theorem dX6_offer_159 : decode cX6_offer 159 = .ok (.isub, 1) := by decide +kernel
theorem dX6_offer_160 : decode cX6_offer 160 = .ok (.putfield 162, 3) := by decide +kernel
theorem dX6_offer_163 : decode cX6_offer 163 = .ok (.aload_n 0, 1) := by decide +kernel
theorem dX6_offer_164 : decode cX6_offer 164 = .ok (.getfield 46, 3) := by decide +kernel
theorem dX6_offer_167 : decode cX6_offer 167 = .ok (.getfield 225, 3) := by decide +kernel
theorem dX6_offer_170 : decode cX6_offer 170 = .ok (.getfield 155, 3) := by decide +kernel
theorem dX6_offer_173 : decode cX6_offer 173 = .ok (.iload_n 3, 1) := by decide +kernel
theorem dX6_offer_174 : decode cX6_offer 174 = .ok (.aaload, 1) := by decide +kernel
theorem dX6_offer_175 : decode cX6_offer 175 = .ok (.iconst 1, 1) := by decide +kernel
theorem dX6_offer_176 : decode cX6_offer 176 = .ok (.iconst 0, 1) := by decide +kernel
theorem dX6_offer_177 : decode cX6_offer 177 = .ok (.iastore, 1) := by decide +kernel
theorem dX6_offer_178 : decode cX6_offer 178 = .ok (.aload_n 0, 1) := by decide +kernel
theorem dX6_offer_179 : decode cX6_offer 179 = .ok (.getfield 46, 3) := by decide +kernel
theorem dX6_offer_182 : decode cX6_offer 182 = .ok (.aload_n 0, 1) := by decide +kernel
theorem dX6_offer_183 : decode cX6_offer 183 = .ok (.getfield 25, 3) := by decide +kernel
theorem dX6_offer_186 : decode cX6_offer 186 = .ok (.iload_n 1, 1) := by decide +kernel
theorem dX6_offer_187 : decode cX6_offer 187 = .ok (.iload_n 2, 1) := by decide +kernel
theorem dX6_offer_188 : decode cX6_offer 188 = .ok (.invokevirtual 218, 3) := by decide +kernel
theorem dX6_offer_191 : decode cX6_offer 191 = .ok (.iload 7, 2) := by decide +kernel
theorem dX6_offer_193 : decode cX6_offer 193 = .ok (.aload_n 0, 1) := by decide +kernel
theorem dX6_offer_194 : decode cX6_offer 194 = .ok (.getfield 46, 3) := by decide +kernel
theorem dX6_offer_197 : decode cX6_offer 197 = .ok (.invokevirtual 222, 3) := by decide +kernel
theorem dX6_offer_200 : decode cX6_offer 200 = .ok (.aload_n 0, 1) := by decide +kernel
theorem dX6_offer_201 : decode cX6_offer 201 = .ok (.getfield 46, 3) := by decide +kernel
theorem dX6_offer_204 : decode cX6_offer 204 = .ok (.getfield 234, 3) := by decide +kernel
theorem dX6_offer_207 : decode cX6_offer 207 = .ok (.iadd, 1) := by decide +kernel
theorem dX6_offer_208 : decode cX6_offer 208 = .ok (.iload 4, 2) := by decide +kernel
theorem dX6_offer_210 : decode cX6_offer 210 = .ok (.iadd, 1) := by decide +kernel
theorem dX6_offer_211 : decode cX6_offer 211 = .ok (.isub, 1) := by decide +kernel
theorem dX6_offer_212 : decode cX6_offer 212 = .ok (.ireturn, 1) := by decide +kernel
theorem dX6_one_0 : decode cX6_one 0 = .ok (.aload_n 0, 1) := by decide +kernel
theorem dX6_one_1 : decode cX6_one 1 = .ok (.iload_n 1, 1) := by decide +kernel
theorem dX6_one_2 : decode cX6_one 2 = .ok (.iload_n 2, 1) := by decide +kernel
theorem dX6_one_3 : decode cX6_one 3 = .ok (.invokestatic 212, 3) := by decide +kernel
theorem dX6_one_6 : decode cX6_one 6 = .ok (.ifCond .eq 15, 3) := by decide +kernel
theorem dX6_one_9 : decode cX6_one 9 = .ok (.iconst 2, 1) := by decide +kernel
theorem dX6_one_10 : decode cX6_one 10 = .ok (.iload_n 3, 1) := by decide +kernel
theorem dX6_one_11 : decode cX6_one 11 = .ok (.invokestatic 141, 3) := by decide +kernel
theorem dX6_one_14 : decode cX6_one 14 = .ok (.ifCond .eq 7, 3) := by decide +kernel
theorem dX6_one_17 : decode cX6_one 17 = .ok (.iconst 1, 1) := by decide +kernel
theorem dX6_one_18 : decode cX6_one 18 = .ok (.goto 4, 3) := by decide +kernel
theorem dX6_one_21 : decode cX6_one 21 = .ok (.iconst 0, 1) := by decide +kernel
theorem dX6_one_22 : decode cX6_one 22 = .ok (.invokevirtual 116, 3) := by decide +kernel
theorem dX6_one_25 : decode cX6_one 25 = .ok (.istore 4, 2) := by decide +kernel
theorem dX6_one_27 : decode cX6_one 27 = .ok (.iload 4, 2) := by decide +kernel
theorem dX6_one_29 : decode cX6_one 29 = .ok (.ifCond .ne 17, 3) := by decide +kernel
theorem dX6_one_32 : decode cX6_one 32 = .ok (.aload_n 0, 1) := by decide +kernel
theorem dX6_one_33 : decode cX6_one 33 = .ok (.getfield 10, 3) := by decide +kernel
theorem dX6_one_36 : decode cX6_one 36 = .ok (.invokevirtual 269, 3) := by decide +kernel
theorem dX6_one_39 : decode cX6_one 39 = .ok (.ifCond .ne 7, 3) := by decide +kernel
theorem dX6_one_42 : decode cX6_one 42 = .ok (.bipush (-5), 2) := by decide +kernel
theorem dX6_one_44 : decode cX6_one 44 = .ok (.istore 4, 2) := by decide +kernel
theorem dX6_one_46 : decode cX6_one 46 = .ok (.iload 4, 2) := by decide +kernel
theorem dX6_one_48 : decode cX6_one 48 = .ok (.ifCond .eq 10, 3) := by decide +kernel
theorem dX6_one_51 : decode cX6_one 51 = .ok (.aload_n 0, 1) := by decide +kernel
theorem dX6_one_52 : decode cX6_one 52 = .ok (.iload 4, 2) := by decide +kernel
theorem dX6_one_54 : decode cX6_one 54 = .ok (.invokevirtual 76, 3) := by decide +kernel
theorem dX6_one_57 : decode cX6_one 57 = .ok (.ireturn, 1) := by decide +kernel
theorem dX6_one_58 : decode cX6_one 58 = .ok (.aload_n 0, 1) := by decide +kernel
theorem dX6_one_59 : decode cX6_one 59 = .ok (.getfield 46, 3) := by decide +kernel
theorem dX6_one_62 : decode cX6_one 62 = .ok (.aload_n 0, 1) := by decide +kernel
theorem dX6_one_63 : decode cX6_one 63 = .ok (.getfield 10, 3) := by decide +kernel
theorem dX6_one_66 : decode cX6_one 66 = .ok (.invokevirtual 215, 3) := by decide +kernel
theorem dX6_one_69 : decode cX6_one 69 = .ok (.aload_n 0, 1) := by decide +kernel
theorem dX6_one_70 : decode cX6_one 70 = .ok (.getfield 46, 3) := by decide +kernel
theorem dX6_one_73 : decode cX6_one 73 = .ok (.getfield 225, 3) := by decide +kernel
theorem dX6_one_76 : decode cX6_one 76 = .ok (.iload_n 3, 1) := by decide +kernel
theorem dX6_one_77 : decode cX6_one 77 = .ok (.invokevirtual 272, 3) := by decide +kernel
theorem dX6_one_80 : decode cX6_one 80 = .ok (.pop, 1) := by decide +kernel
theorem dX6_one_81 : decode cX6_one 81 = .ok (.aload_n 0, 1) := by decide +kernel
theorem dX6_one_82 : decode cX6_one 82 = .ok (.getfield 46, 3) := by decide +kernel
theorem dX6_one_85 : decode cX6_one 85 = .ok (.aload_n 0, 1) := by decide +kernel
theorem dX6_one_86 : decode cX6_one 86 = .ok (.getfield 25, 3) := by decide +kernel
theorem dX6_one_89 : decode cX6_one 89 = .ok (.iload_n 1, 1) := by decide +kernel
theorem dX6_one_90 : decode cX6_one 90 = .ok (.iload_n 2, 1) := by decide +kernel
theorem dX6_one_91 : decode cX6_one 91 = .ok (.invokevirtual 218, 3) := by decide +kernel
theorem dX6_one_94 : decode cX6_one 94 = .ok (.aload_n 0, 1) := by decide +kernel
theorem dX6_one_95 : decode cX6_one 95 = .ok (.getfield 46, 3) := by decide +kernel
theorem dX6_one_98 : decode cX6_one 98 = .ok (.invokevirtual 222, 3) := by decide +kernel
theorem dX6_one_101 : decode cX6_one 101 = .ok (.ireturn, 1) := by decide +kernel
theorem dX6_pay_0 : decode cX6_pay 0 = .ok (.aload_n 0, 1) := by decide +kernel
theorem dX6_pay_1 : decode cX6_pay 1 = .ok (.getfield 25, 3) := by decide +kernel
theorem dX6_pay_4 : decode cX6_pay 4 = .ok (.iload_n 1, 1) := by decide +kernel
theorem dX6_pay_5 : decode cX6_pay 5 = .ok (.invokevirtual 84, 3) := by decide +kernel
theorem dX6_pay_8 : decode cX6_pay 8 = .ok (.istore_n 2, 1) := by decide +kernel
theorem dX6_pay_9 : decode cX6_pay 9 = .ok (.iload_n 2, 1) := by decide +kernel
theorem dX6_pay_10 : decode cX6_pay 10 = .ok (.ifCond .ne 15, 3) := by decide +kernel
theorem dX6_pay_13 : decode cX6_pay 13 = .ok (.aload_n 0, 1) := by decide +kernel
theorem dX6_pay_14 : decode cX6_pay 14 = .ok (.iload_n 1, 1) := by decide +kernel
theorem dX6_pay_15 : decode cX6_pay 15 = .ok (.invokevirtual 206, 3) := by decide +kernel
theorem dX6_pay_18 : decode cX6_pay 18 = .ok (.iconst (-1), 1) := by decide +kernel
theorem dX6_pay_19 : decode cX6_pay 19 = .ok (.if_icmp .eq 6, 3) := by decide +kernel
theorem dX6_pay_22 : decode cX6_pay 22 = .ok (.bipush (-5), 2) := by decide +kernel
theorem dX6_pay_24 : decode cX6_pay 24 = .ok (.istore_n 2, 1) := by decide +kernel
theorem dX6_pay_25 : decode cX6_pay 25 = .ok (.iload_n 2, 1) := by decide +kernel
theorem dX6_pay_26 : decode cX6_pay 26 = .ok (.ifCond .eq 9, 3) := by decide +kernel
theorem dX6_pay_29 : decode cX6_pay 29 = .ok (.aload_n 0, 1) := by decide +kernel
theorem dX6_pay_30 : decode cX6_pay 30 = .ok (.iload_n 2, 1) := by decide +kernel
theorem dX6_pay_31 : decode cX6_pay 31 = .ok (.invokevirtual 76, 3) := by decide +kernel
theorem dX6_pay_34 : decode cX6_pay 34 = .ok (.ireturn, 1) := by decide +kernel
theorem dX6_pay_35 : decode cX6_pay 35 = .ok (.iconst 0, 1) := by decide +kernel
theorem dX6_pay_36 : decode cX6_pay 36 = .ok (.istore_n 3, 1) := by decide +kernel
theorem dX6_pay_37 : decode cX6_pay 37 = .ok (.iload_n 3, 1) := by decide +kernel
theorem dX6_pay_38 : decode cX6_pay 38 = .ok (.aload_n 0, 1) := by decide +kernel
theorem dX6_pay_39 : decode cX6_pay 39 = .ok (.getfield 10, 3) := by decide +kernel
theorem dX6_pay_42 : decode cX6_pay 42 = .ok (.getfield 209, 3) := by decide +kernel
theorem dX6_pay_45 : decode cX6_pay 45 = .ok (.if_icmp .ge 25, 3) := by decide +kernel
theorem dX6_pay_48 : decode cX6_pay 48 = .ok (.aload_n 0, 1) := by decide +kernel
theorem dX6_pay_49 : decode cX6_pay 49 = .ok (.getfield 57, 3) := by decide +kernel
theorem dX6_pay_52 : decode cX6_pay 52 = .ok (.iload_n 3, 1) := by decide +kernel
theorem dX6_pay_53 : decode cX6_pay 53 = .ok (.aload_n 0, 1) := by decide +kernel
theorem dX6_pay_54 : decode cX6_pay 54 = .ok (.getfield 25, 3) := by decide +kernel
theorem dX6_pay_57 : decode cX6_pay 57 = .ok (.iload_n 1, 1) := by decide +kernel
theorem dX6_pay_58 : decode cX6_pay 58 = .ok (.iload_n 3, 1) := by decide +kernel
theorem dX6_pay_59 : decode cX6_pay 59 = .ok (.invokevirtual 106, 3) := by decide +kernel
theorem dX6_pay_62 : decode cX6_pay 62 = .ok (.l2i, 1) := by decide +kernel
theorem dX6_pay_63 : decode cX6_pay 63 = .ok (.iastore, 1) := by decide +kernel
theorem dX6_pay_64 : decode cX6_pay 64 = .ok (.iinc 3 1, 3) := by decide +kernel
theorem dX6_pay_67 : decode cX6_pay 67 = .ok (.goto (-30), 3) := by decide +kernel
theorem dX6_pay_70 : decode cX6_pay 70 = .ok (.aload_n 0, 1) := by decide +kernel
theorem dX6_pay_71 : decode cX6_pay 71 = .ok (.getfield 10, 3) := by decide +kernel
theorem dX6_pay_74 : decode cX6_pay 74 = .ok (.aload_n 0, 1) := by decide +kernel
theorem dX6_pay_75 : decode cX6_pay 75 = .ok (.getfield 57, 3) := by decide +kernel
theorem dX6_pay_78 : decode cX6_pay 78 = .ok (.iconst 1, 1) := by decide +kernel
theorem dX6_pay_79 : decode cX6_pay 79 = .ok (.invokevirtual 202, 3) := by decide +kernel
theorem dX6_pay_82 : decode cX6_pay 82 = .ok (.ireturn, 1) := by decide +kernel
theorem dX6_pays_0 : decode cX6_pays 0 = .ok (.aload_n 0, 1) := by decide +kernel
theorem dX6_pays_1 : decode cX6_pays 1 = .ok (.iload_n 1, 1) := by decide +kernel
theorem dX6_pays_2 : decode cX6_pays 2 = .ok (.aload_n 0, 1) := by decide +kernel
theorem dX6_pays_3 : decode cX6_pays 3 = .ok (.getfield 10, 3) := by decide +kernel
theorem dX6_pays_6 : decode cX6_pays 6 = .ok (.iload_n 2, 1) := by decide +kernel
theorem dX6_pays_7 : decode cX6_pays 7 = .ok (.invokevirtual 152, 3) := by decide +kernel
theorem dX6_pays_10 : decode cX6_pays 10 = .ok (.invokevirtual 116, 3) := by decide +kernel
theorem dX6_pays_13 : decode cX6_pays 13 = .ok (.istore_n 3, 1) := by decide +kernel
theorem dX6_pays_14 : decode cX6_pays 14 = .ok (.iload_n 3, 1) := by decide +kernel
theorem dX6_pays_15 : decode cX6_pays 15 = .ok (.ifCond .eq 9, 3) := by decide +kernel
theorem dX6_pays_18 : decode cX6_pays 18 = .ok (.aload_n 0, 1) := by decide +kernel
theorem dX6_pays_19 : decode cX6_pays 19 = .ok (.iload_n 3, 1) := by decide +kernel
theorem dX6_pays_20 : decode cX6_pays 20 = .ok (.invokevirtual 76, 3) := by decide +kernel
theorem dX6_pays_23 : decode cX6_pays 23 = .ok (.ireturn, 1) := by decide +kernel
theorem dX6_pays_24 : decode cX6_pays 24 = .ok (.aload_n 0, 1) := by decide +kernel
theorem dX6_pays_25 : decode cX6_pays 25 = .ok (.getfield 39, 3) := by decide +kernel
theorem dX6_pays_28 : decode cX6_pays 28 = .ok (.aload_n 0, 1) := by decide +kernel
theorem dX6_pays_29 : decode cX6_pays 29 = .ok (.getfield 25, 3) := by decide +kernel
theorem dX6_pays_32 : decode cX6_pays 32 = .ok (.iload_n 1, 1) := by decide +kernel
theorem dX6_pays_33 : decode cX6_pays 33 = .ok (.invokevirtual 120, 3) := by decide +kernel
theorem dX6_pays_36 : decode cX6_pays 36 = .ok (.aload_n 0, 1) := by decide +kernel
theorem dX6_pays_37 : decode cX6_pays 37 = .ok (.getfield 25, 3) := by decide +kernel
theorem dX6_pays_40 : decode cX6_pays 40 = .ok (.iload_n 1, 1) := by decide +kernel
theorem dX6_pays_41 : decode cX6_pays 41 = .ok (.invokevirtual 126, 3) := by decide +kernel
theorem dX6_pays_44 : decode cX6_pays 44 = .ok (.aload_n 0, 1) := by decide +kernel
theorem dX6_pays_45 : decode cX6_pays 45 = .ok (.getfield 10, 3) := by decide +kernel
theorem dX6_pays_48 : decode cX6_pays 48 = .ok (.invokevirtual 197, 3) := by decide +kernel
theorem dX6_pays_51 : decode cX6_pays 51 = .ok (.aload_n 0, 1) := by decide +kernel
theorem dX6_pays_52 : decode cX6_pays 52 = .ok (.getfield 39, 3) := by decide +kernel
theorem dX6_pays_55 : decode cX6_pays 55 = .ok (.getfield 201, 3) := by decide +kernel
theorem dX6_pays_58 : decode cX6_pays 58 = .ok (.iload_n 2, 1) := by decide +kernel
theorem dX6_pays_59 : decode cX6_pays 59 = .ok (.iaload, 1) := by decide +kernel
theorem dX6_pays_60 : decode cX6_pays 60 = .ok (.ireturn, 1) := by decide +kernel
theorem dX6_quiet_0 : decode cX6_quiet 0 = .ok (.aload_n 0, 1) := by decide +kernel
theorem dX6_quiet_1 : decode cX6_quiet 1 = .ok (.iload_n 1, 1) := by decide +kernel
theorem dX6_quiet_2 : decode cX6_quiet 2 = .ok (.iload_n 2, 1) := by decide +kernel
theorem dX6_quiet_3 : decode cX6_quiet 3 = .ok (.invokestatic 212, 3) := by decide +kernel
theorem dX6_quiet_6 : decode cX6_quiet 6 = .ok (.invokevirtual 116, 3) := by decide +kernel
theorem dX6_quiet_9 : decode cX6_quiet 9 = .ok (.istore_n 3, 1) := by decide +kernel
theorem dX6_quiet_10 : decode cX6_quiet 10 = .ok (.iload_n 3, 1) := by decide +kernel
theorem dX6_quiet_11 : decode cX6_quiet 11 = .ok (.ifCond .eq 9, 3) := by decide +kernel
theorem dX6_quiet_14 : decode cX6_quiet 14 = .ok (.aload_n 0, 1) := by decide +kernel
theorem dX6_quiet_15 : decode cX6_quiet 15 = .ok (.iload_n 3, 1) := by decide +kernel
theorem dX6_quiet_16 : decode cX6_quiet 16 = .ok (.invokevirtual 76, 3) := by decide +kernel
theorem dX6_quiet_19 : decode cX6_quiet 19 = .ok (.ireturn, 1) := by decide +kernel
theorem dX6_quiet_20 : decode cX6_quiet 20 = .ok (.aload_n 0, 1) := by decide +kernel
theorem dX6_quiet_21 : decode cX6_quiet 21 = .ok (.getfield 46, 3) := by decide +kernel
theorem dX6_quiet_24 : decode cX6_quiet 24 = .ok (.aload_n 0, 1) := by decide +kernel
theorem dX6_quiet_25 : decode cX6_quiet 25 = .ok (.getfield 10, 3) := by decide +kernel
theorem dX6_quiet_28 : decode cX6_quiet 28 = .ok (.invokevirtual 215, 3) := by decide +kernel
theorem dX6_quiet_31 : decode cX6_quiet 31 = .ok (.aload_n 0, 1) := by decide +kernel
theorem dX6_quiet_32 : decode cX6_quiet 32 = .ok (.getfield 46, 3) := by decide +kernel
theorem dX6_quiet_35 : decode cX6_quiet 35 = .ok (.aload_n 0, 1) := by decide +kernel
theorem dX6_quiet_36 : decode cX6_quiet 36 = .ok (.getfield 25, 3) := by decide +kernel
theorem dX6_quiet_39 : decode cX6_quiet 39 = .ok (.iload_n 1, 1) := by decide +kernel
theorem dX6_quiet_40 : decode cX6_quiet 40 = .ok (.iload_n 2, 1) := by decide +kernel
theorem dX6_quiet_41 : decode cX6_quiet 41 = .ok (.invokevirtual 218, 3) := by decide +kernel
theorem dX6_quiet_44 : decode cX6_quiet 44 = .ok (.aload_n 0, 1) := by decide +kernel
theorem dX6_quiet_45 : decode cX6_quiet 45 = .ok (.getfield 46, 3) := by decide +kernel
theorem dX6_quiet_48 : decode cX6_quiet 48 = .ok (.invokevirtual 222, 3) := by decide +kernel
theorem dX6_quiet_51 : decode cX6_quiet 51 = .ok (.istore 4, 2) := by decide +kernel
theorem dX6_quiet_53 : decode cX6_quiet 53 = .ok (.iconst (-1), 1) := by decide +kernel
theorem dX6_quiet_54 : decode cX6_quiet 54 = .ok (.istore 5, 2) := by decide +kernel
theorem dX6_quiet_56 : decode cX6_quiet 56 = .ok (.iconst 0, 1) := by decide +kernel
theorem dX6_quiet_57 : decode cX6_quiet 57 = .ok (.istore 6, 2) := by decide +kernel
theorem dX6_quiet_59 : decode cX6_quiet 59 = .ok (.iload 6, 2) := by decide +kernel
theorem dX6_quiet_61 : decode cX6_quiet 61 = .ok (.aload_n 0, 1) := by decide +kernel
theorem dX6_quiet_62 : decode cX6_quiet 62 = .ok (.getfield 10, 3) := by decide +kernel
theorem dX6_quiet_65 : decode cX6_quiet 65 = .ok (.getfield 209, 3) := by decide +kernel
theorem dX6_quiet_68 : decode cX6_quiet 68 = .ok (.if_icmp .ge 82, 3) := by decide +kernel
theorem dX6_quiet_71 : decode cX6_quiet 71 = .ok (.aload_n 0, 1) := by decide +kernel
theorem dX6_quiet_72 : decode cX6_quiet 72 = .ok (.getfield 10, 3) := by decide +kernel
theorem dX6_quiet_75 : decode cX6_quiet 75 = .ok (.iload 6, 2) := by decide +kernel
theorem dX6_quiet_77 : decode cX6_quiet 77 = .ok (.invokevirtual 258, 3) := by decide +kernel
theorem dX6_quiet_80 : decode cX6_quiet 80 = .ok (.ifCond .eq 64, 3) := by decide +kernel
theorem dX6_quiet_83 : decode cX6_quiet 83 = .ok (.aload_n 0, 1) := by decide +kernel
theorem dX6_quiet_84 : decode cX6_quiet 84 = .ok (.getfield 46, 3) := by decide +kernel
theorem dX6_quiet_87 : decode cX6_quiet 87 = .ok (.aload_n 0, 1) := by decide +kernel
theorem dX6_quiet_88 : decode cX6_quiet 88 = .ok (.getfield 10, 3) := by decide +kernel
theorem dX6_quiet_91 : decode cX6_quiet 91 = .ok (.invokevirtual 215, 3) := by decide +kernel
theorem dX6_quiet_94 : decode cX6_quiet 94 = .ok (.aload_n 0, 1) := by decide +kernel
theorem dX6_quiet_95 : decode cX6_quiet 95 = .ok (.getfield 46, 3) := by decide +kernel
theorem dX6_quiet_98 : decode cX6_quiet 98 = .ok (.getfield 225, 3) := by decide +kernel
theorem dX6_quiet_101 : decode cX6_quiet 101 = .ok (.iload 6, 2) := by decide +kernel
theorem dX6_quiet_103 : decode cX6_quiet 103 = .ok (.invokevirtual 261, 3) := by decide +kernel
theorem dX6_quiet_106 : decode cX6_quiet 106 = .ok (.aload_n 0, 1) := by decide +kernel
theorem dX6_quiet_107 : decode cX6_quiet 107 = .ok (.getfield 46, 3) := by decide +kernel
theorem dX6_quiet_110 : decode cX6_quiet 110 = .ok (.aload_n 0, 1) := by decide +kernel
theorem dX6_quiet_111 : decode cX6_quiet 111 = .ok (.getfield 25, 3) := by decide +kernel
theorem dX6_quiet_114 : decode cX6_quiet 114 = .ok (.iload_n 1, 1) := by decide +kernel
theorem dX6_quiet_115 : decode cX6_quiet 115 = .ok (.iload_n 2, 1) := by decide +kernel
theorem dX6_quiet_116 : decode cX6_quiet 116 = .ok (.invokevirtual 218, 3) := by decide +kernel
theorem dX6_quiet_119 : decode cX6_quiet 119 = .ok (.aload_n 0, 1) := by decide +kernel
theorem dX6_quiet_120 : decode cX6_quiet 120 = .ok (.getfield 46, 3) := by decide +kernel
theorem dX6_quiet_123 : decode cX6_quiet 123 = .ok (.invokevirtual 222, 3) := by decide +kernel
theorem dX6_quiet_126 : decode cX6_quiet 126 = .ok (.iload 4, 2) := by decide +kernel
theorem dX6_quiet_128 : decode cX6_quiet 128 = .ok (.if_icmp .ge 16, 3) := by decide +kernel
theorem dX6_quiet_131 : decode cX6_quiet 131 = .ok (.aload_n 0, 1) := by decide +kernel
theorem dX6_quiet_132 : decode cX6_quiet 132 = .ok (.getfield 46, 3) := by decide +kernel
theorem dX6_quiet_135 : decode cX6_quiet 135 = .ok (.invokevirtual 222, 3) := by decide +kernel
theorem dX6_quiet_138 : decode cX6_quiet 138 = .ok (.istore 4, 2) := by decide +kernel
theorem dX6_quiet_140 : decode cX6_quiet 140 = .ok (.iload 6, 2) := by decide +kernel
theorem dX6_quiet_142 : decode cX6_quiet 142 = .ok (.istore 5, 2) := by decide +kernel
theorem dX6_quiet_144 : decode cX6_quiet 144 = .ok (.iinc 6 1, 3) := by decide +kernel
theorem dX6_quiet_147 : decode cX6_quiet 147 = .ok (.goto (-88), 3) := by decide +kernel
theorem dX6_quiet_150 : decode cX6_quiet 150 = .ok (.iload 5, 2) := by decide +kernel
theorem dX6_quiet_152 : decode cX6_quiet 152 = .ok (.ireturn, 1) := by decide +kernel
theorem dX6_row_0 : decode cX6_row 0 = .ok (.iload_n 1, 1) := by decide +kernel
theorem dX6_row_1 : decode cX6_row 1 = .ok (.invokestatic 68, 3) := by decide +kernel
theorem dX6_row_4 : decode cX6_row 4 = .ok (.ifCond .eq 22, 3) := by decide +kernel
theorem dX6_row_7 : decode cX6_row 7 = .ok (.iload_n 2, 1) := by decide +kernel
theorem dX6_row_8 : decode cX6_row 8 = .ok (.iconst 0, 1) := by decide +kernel
theorem dX6_row_9 : decode cX6_row 9 = .ok (.iconst 4, 1) := by decide +kernel
theorem dX6_row_10 : decode cX6_row 10 = .ok (.invokestatic 72, 3) := by decide +kernel
theorem dX6_row_13 : decode cX6_row 13 = .ok (.ifCond .eq 13, 3) := by decide +kernel
theorem dX6_row_16 : decode cX6_row 16 = .ok (.iload_n 3, 1) := by decide +kernel
theorem dX6_row_17 : decode cX6_row 17 = .ok (.iconst 0, 1) := by decide +kernel
theorem dX6_row_18 : decode cX6_row 18 = .ok (.bipush 40, 2) := by decide +kernel
theorem dX6_row_20 : decode cX6_row 20 = .ok (.invokestatic 72, 3) := by decide +kernel
theorem dX6_row_23 : decode cX6_row 23 = .ok (.ifCond .ne 10, 3) := by decide +kernel
theorem dX6_row_26 : decode cX6_row 26 = .ok (.aload_n 0, 1) := by decide +kernel
theorem dX6_row_27 : decode cX6_row 27 = .ok (.bipush (-2), 2) := by decide +kernel
theorem dX6_row_29 : decode cX6_row 29 = .ok (.invokevirtual 76, 3) := by decide +kernel
theorem dX6_row_32 : decode cX6_row 32 = .ok (.ireturn, 1) := by decide +kernel
theorem dX6_row_33 : decode cX6_row 33 = .ok (.aload_n 0, 1) := by decide +kernel
theorem dX6_row_34 : decode cX6_row 34 = .ok (.getfield 25, 3) := by decide +kernel
theorem dX6_row_37 : decode cX6_row 37 = .ok (.iload_n 1, 1) := by decide +kernel
theorem dX6_row_38 : decode cX6_row 38 = .ok (.iload_n 2, 1) := by decide +kernel
theorem dX6_row_39 : decode cX6_row 39 = .ok (.iload_n 3, 1) := by decide +kernel
theorem dX6_row_40 : decode cX6_row 40 = .ok (.invokevirtual 80, 3) := by decide +kernel
theorem dX6_row_43 : decode cX6_row 43 = .ok (.iconst 1, 1) := by decide +kernel
theorem dX6_row_44 : decode cX6_row 44 = .ok (.ireturn, 1) := by decide +kernel
theorem dX6_rule_0 : decode cX6_rule 0 = .ok (.iload_n 1, 1) := by decide +kernel
theorem dX6_rule_1 : decode cX6_rule 1 = .ok (.invokestatic 68, 3) := by decide +kernel
theorem dX6_rule_4 : decode cX6_rule 4 = .ok (.ifCond .eq 23, 3) := by decide +kernel
theorem dX6_rule_7 : decode cX6_rule 7 = .ok (.iload_n 2, 1) := by decide +kernel
theorem dX6_rule_8 : decode cX6_rule 8 = .ok (.iconst 1, 1) := by decide +kernel
theorem dX6_rule_9 : decode cX6_rule 9 = .ok (.bipush 6, 2) := by decide +kernel
theorem dX6_rule_11 : decode cX6_rule 11 = .ok (.invokestatic 72, 3) := by decide +kernel
theorem dX6_rule_14 : decode cX6_rule 14 = .ok (.ifCond .eq 13, 3) := by decide +kernel
theorem dX6_rule_17 : decode cX6_rule 17 = .ok (.iload_n 3, 1) := by decide +kernel
theorem dX6_rule_18 : decode cX6_rule 18 = .ok (.iconst 0, 1) := by decide +kernel
theorem dX6_rule_19 : decode cX6_rule 19 = .ok (.bipush 99, 2) := by decide +kernel
theorem dX6_rule_21 : decode cX6_rule 21 = .ok (.invokestatic 72, 3) := by decide +kernel
theorem dX6_rule_24 : decode cX6_rule 24 = .ok (.ifCond .ne 10, 3) := by decide +kernel
theorem dX6_rule_27 : decode cX6_rule 27 = .ok (.aload_n 0, 1) := by decide +kernel
theorem dX6_rule_28 : decode cX6_rule 28 = .ok (.bipush (-2), 2) := by decide +kernel
theorem dX6_rule_30 : decode cX6_rule 30 = .ok (.invokevirtual 76, 3) := by decide +kernel
theorem dX6_rule_33 : decode cX6_rule 33 = .ok (.ireturn, 1) := by decide +kernel
theorem dX6_rule_34 : decode cX6_rule 34 = .ok (.aload_n 0, 1) := by decide +kernel
theorem dX6_rule_35 : decode cX6_rule 35 = .ok (.getfield 25, 3) := by decide +kernel
theorem dX6_rule_38 : decode cX6_rule 38 = .ok (.iload_n 1, 1) := by decide +kernel
theorem dX6_rule_39 : decode cX6_rule 39 = .ok (.iload_n 2, 1) := by decide +kernel
theorem dX6_rule_40 : decode cX6_rule 40 = .ok (.iload_n 3, 1) := by decide +kernel
theorem dX6_rule_41 : decode cX6_rule 41 = .ok (.invokevirtual 113, 3) := by decide +kernel
theorem dX6_rule_44 : decode cX6_rule 44 = .ok (.iconst 1, 1) := by decide +kernel
theorem dX6_rule_45 : decode cX6_rule 45 = .ok (.ireturn, 1) := by decide +kernel
theorem dX6_run_0 : decode cX6_run 0 = .ok (.aload_n 0, 1) := by decide +kernel
theorem dX6_run_1 : decode cX6_run 1 = .ok (.iload_n 1, 1) := by decide +kernel
theorem dX6_run_2 : decode cX6_run 2 = .ok (.iload_n 2, 1) := by decide +kernel
theorem dX6_run_3 : decode cX6_run 3 = .ok (.invokestatic 212, 3) := by decide +kernel
theorem dX6_run_6 : decode cX6_run 6 = .ok (.ifCond .eq 16, 3) := by decide +kernel
theorem dX6_run_9 : decode cX6_run 9 = .ok (.iload_n 3, 1) := by decide +kernel
theorem dX6_run_10 : decode cX6_run 10 = .ok (.iconst 0, 1) := by decide +kernel
theorem dX6_run_11 : decode cX6_run 11 = .ok (.iconst 5, 1) := by decide +kernel
theorem dX6_run_12 : decode cX6_run 12 = .ok (.invokestatic 72, 3) := by decide +kernel
theorem dX6_run_15 : decode cX6_run 15 = .ok (.ifCond .eq 7, 3) := by decide +kernel
theorem dX6_run_18 : decode cX6_run 18 = .ok (.iconst 1, 1) := by decide +kernel
theorem dX6_run_19 : decode cX6_run 19 = .ok (.goto 4, 3) := by decide +kernel
theorem dX6_run_22 : decode cX6_run 22 = .ok (.iconst 0, 1) := by decide +kernel
theorem dX6_run_23 : decode cX6_run 23 = .ok (.invokevirtual 116, 3) := by decide +kernel
theorem dX6_run_26 : decode cX6_run 26 = .ok (.istore 4, 2) := by decide +kernel
theorem dX6_run_28 : decode cX6_run 28 = .ok (.iload 4, 2) := by decide +kernel
theorem dX6_run_30 : decode cX6_run 30 = .ok (.ifCond .eq 10, 3) := by decide +kernel
theorem dX6_run_33 : decode cX6_run 33 = .ok (.aload_n 0, 1) := by decide +kernel
theorem dX6_run_34 : decode cX6_run 34 = .ok (.iload 4, 2) := by decide +kernel
theorem dX6_run_36 : decode cX6_run 36 = .ok (.invokevirtual 76, 3) := by decide +kernel
theorem dX6_run_39 : decode cX6_run 39 = .ok (.ireturn, 1) := by decide +kernel
theorem dX6_run_40 : decode cX6_run 40 = .ok (.aload_n 0, 1) := by decide +kernel
theorem dX6_run_41 : decode cX6_run 41 = .ok (.getfield 46, 3) := by decide +kernel
theorem dX6_run_44 : decode cX6_run 44 = .ok (.aload_n 0, 1) := by decide +kernel
theorem dX6_run_45 : decode cX6_run 45 = .ok (.getfield 10, 3) := by decide +kernel
theorem dX6_run_48 : decode cX6_run 48 = .ok (.invokevirtual 215, 3) := by decide +kernel
theorem dX6_run_51 : decode cX6_run 51 = .ok (.aload_n 0, 1) := by decide +kernel
theorem dX6_run_52 : decode cX6_run 52 = .ok (.getfield 46, 3) := by decide +kernel
theorem dX6_run_55 : decode cX6_run 55 = .ok (.aload_n 0, 1) := by decide +kernel
theorem dX6_run_56 : decode cX6_run 56 = .ok (.getfield 25, 3) := by decide +kernel
theorem dX6_run_59 : decode cX6_run 59 = .ok (.iload_n 1, 1) := by decide +kernel
theorem dX6_run_60 : decode cX6_run 60 = .ok (.iload_n 2, 1) := by decide +kernel
theorem dX6_run_61 : decode cX6_run 61 = .ok (.invokevirtual 218, 3) := by decide +kernel
theorem dX6_run_64 : decode cX6_run 64 = .ok (.iload_n 3, 1) := by decide +kernel
theorem dX6_run_65 : decode cX6_run 65 = .ok (.tableswitch 81 0 4 #[35, 43, 54, 65, 73], 35) := by decide +kernel
theorem dX6_run_100 : decode cX6_run 100 = .ok (.aload_n 0, 1) := by decide +kernel
theorem dX6_run_101 : decode cX6_run 101 = .ok (.getfield 46, 3) := by decide +kernel
theorem dX6_run_104 : decode cX6_run 104 = .ok (.invokevirtual 222, 3) := by decide +kernel
theorem dX6_run_107 : decode cX6_run 107 = .ok (.ireturn, 1) := by decide +kernel
theorem dX6_run_108 : decode cX6_run 108 = .ok (.aload_n 0, 1) := by decide +kernel
theorem dX6_run_109 : decode cX6_run 109 = .ok (.getfield 46, 3) := by decide +kernel
theorem dX6_run_112 : decode cX6_run 112 = .ok (.getfield 225, 3) := by decide +kernel
theorem dX6_run_115 : decode cX6_run 115 = .ok (.getfield 228, 3) := by decide +kernel
theorem dX6_run_118 : decode cX6_run 118 = .ok (.ireturn, 1) := by decide +kernel
theorem dX6_run_119 : decode cX6_run 119 = .ok (.aload_n 0, 1) := by decide +kernel
theorem dX6_run_120 : decode cX6_run 120 = .ok (.getfield 46, 3) := by decide +kernel
theorem dX6_run_123 : decode cX6_run 123 = .ok (.getfield 225, 3) := by decide +kernel
theorem dX6_run_126 : decode cX6_run 126 = .ok (.invokevirtual 231, 3) := by decide +kernel
theorem dX6_run_129 : decode cX6_run 129 = .ok (.ireturn, 1) := by decide +kernel
theorem dX6_run_130 : decode cX6_run 130 = .ok (.aload_n 0, 1) := by decide +kernel
theorem dX6_run_131 : decode cX6_run 131 = .ok (.getfield 46, 3) := by decide +kernel
theorem dX6_run_134 : decode cX6_run 134 = .ok (.getfield 234, 3) := by decide +kernel
theorem dX6_run_137 : decode cX6_run 137 = .ok (.ireturn, 1) := by decide +kernel
theorem dX6_run_138 : decode cX6_run 138 = .ok (.aload_n 0, 1) := by decide +kernel
theorem dX6_run_139 : decode cX6_run 139 = .ok (.getfield 46, 3) := by decide +kernel
theorem dX6_run_142 : decode cX6_run 142 = .ok (.getfield 237, 3) := by decide +kernel
theorem dX6_run_145 : decode cX6_run 145 = .ok (.ireturn, 1) := by decide +kernel
theorem dX6_run_146 : decode cX6_run 146 = .ok (.aload_n 0, 1) := by decide +kernel
theorem dX6_run_147 : decode cX6_run 147 = .ok (.getfield 46, 3) := by decide +kernel
theorem dX6_run_150 : decode cX6_run 150 = .ok (.getfield 225, 3) := by decide +kernel
theorem dX6_run_153 : decode cX6_run 153 = .ok (.getfield 162, 3) := by decide +kernel
theorem dX6_run_156 : decode cX6_run 156 = .ok (.ireturn, 1) := by decide +kernel
theorem dX6_says_0 : decode cX6_says 0 = .ok (.aload_n 0, 1) := by decide +kernel
theorem dX6_says_1 : decode cX6_says 1 = .ok (.iload_n 1, 1) := by decide +kernel
theorem dX6_says_2 : decode cX6_says 2 = .ok (.iload_n 2, 1) := by decide +kernel
theorem dX6_says_3 : decode cX6_says 3 = .ok (.iconst 0, 1) := by decide +kernel
theorem dX6_says_4 : decode cX6_says 4 = .ok (.bipush 6, 2) := by decide +kernel
theorem dX6_says_6 : decode cX6_says 6 = .ok (.invokestatic 72, 3) := by decide +kernel
theorem dX6_says_9 : decode cX6_says 9 = .ok (.invokevirtual 116, 3) := by decide +kernel
theorem dX6_says_12 : decode cX6_says 12 = .ok (.istore_n 3, 1) := by decide +kernel
theorem dX6_says_13 : decode cX6_says 13 = .ok (.iload_n 3, 1) := by decide +kernel
theorem dX6_says_14 : decode cX6_says 14 = .ok (.ifCond .ne 21, 3) := by decide +kernel
theorem dX6_says_17 : decode cX6_says 17 = .ok (.aload_n 0, 1) := by decide +kernel
theorem dX6_says_18 : decode cX6_says 18 = .ok (.getfield 25, 3) := by decide +kernel
theorem dX6_says_21 : decode cX6_says 21 = .ok (.iload_n 1, 1) := by decide +kernel
theorem dX6_says_22 : decode cX6_says 22 = .ok (.invokevirtual 120, 3) := by decide +kernel
theorem dX6_says_25 : decode cX6_says 25 = .ok (.iload_n 2, 1) := by decide +kernel
theorem dX6_says_26 : decode cX6_says 26 = .ok (.invokestatic 123, 3) := by decide +kernel
theorem dX6_says_29 : decode cX6_says 29 = .ok (.ifCond .ne 6, 3) := by decide +kernel
theorem dX6_says_32 : decode cX6_says 32 = .ok (.bipush (-3), 2) := by decide +kernel
theorem dX6_says_34 : decode cX6_says 34 = .ok (.istore_n 3, 1) := by decide +kernel
theorem dX6_says_35 : decode cX6_says 35 = .ok (.iload_n 3, 1) := by decide +kernel
theorem dX6_says_36 : decode cX6_says 36 = .ok (.ifCond .eq 9, 3) := by decide +kernel
theorem dX6_says_39 : decode cX6_says 39 = .ok (.aload_n 0, 1) := by decide +kernel
theorem dX6_says_40 : decode cX6_says 40 = .ok (.iload_n 3, 1) := by decide +kernel
theorem dX6_says_41 : decode cX6_says 41 = .ok (.invokevirtual 76, 3) := by decide +kernel
theorem dX6_says_44 : decode cX6_says 44 = .ok (.ireturn, 1) := by decide +kernel
theorem dX6_says_45 : decode cX6_says 45 = .ok (.iload_n 2, 1) := by decide +kernel
theorem dX6_says_46 : decode cX6_says 46 = .ok (.lookupswitch 59 #[(0, 34), (4, 43), (5, 51)], 34) := by decide +kernel
theorem dX6_says_80 : decode cX6_says 80 = .ok (.aload_n 0, 1) := by decide +kernel
theorem dX6_says_81 : decode cX6_says 81 = .ok (.getfield 25, 3) := by decide +kernel
theorem dX6_says_84 : decode cX6_says 84 = .ok (.iload_n 1, 1) := by decide +kernel
theorem dX6_says_85 : decode cX6_says 85 = .ok (.invokevirtual 126, 3) := by decide +kernel
theorem dX6_says_88 : decode cX6_says 88 = .ok (.ireturn, 1) := by decide +kernel
theorem dX6_says_89 : decode cX6_says 89 = .ok (.aload_n 0, 1) := by decide +kernel
theorem dX6_says_90 : decode cX6_says 90 = .ok (.getfield 10, 3) := by decide +kernel
theorem dX6_says_93 : decode cX6_says 93 = .ok (.invokestatic 129, 3) := by decide +kernel
theorem dX6_says_96 : decode cX6_says 96 = .ok (.ireturn, 1) := by decide +kernel
theorem dX6_says_97 : decode cX6_says 97 = .ok (.aload_n 0, 1) := by decide +kernel
theorem dX6_says_98 : decode cX6_says 98 = .ok (.getfield 10, 3) := by decide +kernel
theorem dX6_says_101 : decode cX6_says 101 = .ok (.invokevirtual 133, 3) := by decide +kernel
theorem dX6_says_104 : decode cX6_says 104 = .ok (.ireturn, 1) := by decide +kernel
theorem dX6_says_105 : decode cX6_says 105 = .ok (.aload_n 0, 1) := by decide +kernel
theorem dX6_says_106 : decode cX6_says 106 = .ok (.getfield 39, 3) := by decide +kernel
theorem dX6_says_109 : decode cX6_says 109 = .ok (.aload_n 0, 1) := by decide +kernel
theorem dX6_says_110 : decode cX6_says 110 = .ok (.getfield 25, 3) := by decide +kernel
theorem dX6_says_113 : decode cX6_says 113 = .ok (.iload_n 1, 1) := by decide +kernel
theorem dX6_says_114 : decode cX6_says 114 = .ok (.invokevirtual 120, 3) := by decide +kernel
theorem dX6_says_117 : decode cX6_says 117 = .ok (.aload_n 0, 1) := by decide +kernel
theorem dX6_says_118 : decode cX6_says 118 = .ok (.getfield 10, 3) := by decide +kernel
theorem dX6_says_121 : decode cX6_says 121 = .ok (.invokevirtual 137, 3) := by decide +kernel
theorem dX6_says_124 : decode cX6_says 124 = .ok (.ireturn, 1) := by decide +kernel
theorem dX6_seed_0 : decode cX6_seed 0 = .ok (.aload_n 0, 1) := by decide +kernel
theorem dX6_seed_1 : decode cX6_seed 1 = .ok (.getfield 10, 3) := by decide +kernel
theorem dX6_seed_4 : decode cX6_seed 4 = .ok (.getfield 281, 3) := by decide +kernel
theorem dX6_seed_7 : decode cX6_seed 7 = .ok (.istore_n 2, 1) := by decide +kernel
theorem dX6_seed_8 : decode cX6_seed 8 = .ok (.aload_n 0, 1) := by decide +kernel
theorem dX6_seed_9 : decode cX6_seed 9 = .ok (.getfield 10, 3) := by decide +kernel
theorem dX6_seed_12 : decode cX6_seed 12 = .ok (.iload_n 1, 1) := by decide +kernel
theorem dX6_seed_13 : decode cX6_seed 13 = .ok (.putfield 281, 3) := by decide +kernel
theorem dX6_seed_16 : decode cX6_seed 16 = .ok (.iload_n 2, 1) := by decide +kernel
theorem dX6_seed_17 : decode cX6_seed 17 = .ok (.ireturn, 1) := by decide +kernel
theorem dX6_set_0 : decode cX6_set 0 = .ok (.aload_n 0, 1) := by decide +kernel
theorem dX6_set_1 : decode cX6_set 1 = .ok (.getfield 25, 3) := by decide +kernel
theorem dX6_set_4 : decode cX6_set 4 = .ok (.iload_n 1, 1) := by decide +kernel
theorem dX6_set_5 : decode cX6_set 5 = .ok (.invokevirtual 84, 3) := by decide +kernel
theorem dX6_set_8 : decode cX6_set 8 = .ok (.istore 5, 2) := by decide +kernel
theorem dX6_set_10 : decode cX6_set 10 = .ok (.iload 5, 2) := by decide +kernel
theorem dX6_set_12 : decode cX6_set 12 = .ok (.ifCond .ne 19, 3) := by decide +kernel
theorem dX6_set_15 : decode cX6_set 15 = .ok (.aload_n 0, 1) := by decide +kernel
theorem dX6_set_16 : decode cX6_set 16 = .ok (.getfield 25, 3) := by decide +kernel
theorem dX6_set_19 : decode cX6_set 19 = .ok (.iload_n 1, 1) := by decide +kernel
theorem dX6_set_20 : decode cX6_set 20 = .ok (.iload_n 2, 1) := by decide +kernel
theorem dX6_set_21 : decode cX6_set 21 = .ok (.invokevirtual 87, 3) := by decide +kernel
theorem dX6_set_24 : decode cX6_set 24 = .ok (.ifCond .ne 7, 3) := by decide +kernel
theorem dX6_set_27 : decode cX6_set 27 = .ok (.bipush (-2), 2) := by decide +kernel
theorem dX6_set_29 : decode cX6_set 29 = .ok (.istore 5, 2) := by decide +kernel
theorem dX6_set_31 : decode cX6_set 31 = .ok (.iload 5, 2) := by decide +kernel
theorem dX6_set_33 : decode cX6_set 33 = .ok (.ifCond .eq 10, 3) := by decide +kernel
theorem dX6_set_36 : decode cX6_set 36 = .ok (.aload_n 0, 1) := by decide +kernel
theorem dX6_set_37 : decode cX6_set 37 = .ok (.iload 5, 2) := by decide +kernel
theorem dX6_set_39 : decode cX6_set 39 = .ok (.invokevirtual 76, 3) := by decide +kernel
theorem dX6_set_42 : decode cX6_set 42 = .ok (.ireturn, 1) := by decide +kernel
theorem dX6_set_43 : decode cX6_set 43 = .ok (.aload_n 0, 1) := by decide +kernel
theorem dX6_set_44 : decode cX6_set 44 = .ok (.getfield 25, 3) := by decide +kernel
theorem dX6_set_47 : decode cX6_set 47 = .ok (.iload_n 1, 1) := by decide +kernel
theorem dX6_set_48 : decode cX6_set 48 = .ok (.iload_n 2, 1) := by decide +kernel
theorem dX6_set_49 : decode cX6_set 49 = .ok (.lload_n 3, 1) := by decide +kernel
theorem dX6_set_50 : decode cX6_set 50 = .ok (.invokevirtual 91, 3) := by decide +kernel
theorem dX6_set_53 : decode cX6_set 53 = .ok (.iconst 1, 1) := by decide +kernel
theorem dX6_set_54 : decode cX6_set 54 = .ok (.ireturn, 1) := by decide +kernel
theorem dX6_status_0 : decode cX6_status 0 = .ok (.iload_n 1, 1) := by decide +kernel
theorem dX6_status_1 : decode cX6_status 1 = .ok (.tableswitch 147 0 10 #[59, 67, 75, 83, 91, 99, 107, 115, 123, 131, 139], 59) := by decide +kernel
theorem dX6_status_60 : decode cX6_status 60 = .ok (.aload_n 0, 1) := by decide +kernel
theorem dX6_status_61 : decode cX6_status 61 = .ok (.getfield 10, 3) := by decide +kernel
theorem dX6_status_64 : decode cX6_status 64 = .ok (.getfield 209, 3) := by decide +kernel
theorem dX6_status_67 : decode cX6_status 67 = .ok (.ireturn, 1) := by decide +kernel
theorem dX6_status_68 : decode cX6_status 68 = .ok (.aload_n 0, 1) := by decide +kernel
theorem dX6_status_69 : decode cX6_status 69 = .ok (.getfield 10, 3) := by decide +kernel
theorem dX6_status_72 : decode cX6_status 72 = .ok (.invokevirtual 269, 3) := by decide +kernel
theorem dX6_status_75 : decode cX6_status 75 = .ok (.ireturn, 1) := by decide +kernel
theorem dX6_status_76 : decode cX6_status 76 = .ok (.aload_n 0, 1) := by decide +kernel
theorem dX6_status_77 : decode cX6_status 77 = .ok (.getfield 10, 3) := by decide +kernel
theorem dX6_status_80 : decode cX6_status 80 = .ok (.getfield 284, 3) := by decide +kernel
theorem dX6_status_83 : decode cX6_status 83 = .ok (.ireturn, 1) := by decide +kernel
theorem dX6_status_84 : decode cX6_status 84 = .ok (.aload_n 0, 1) := by decide +kernel
theorem dX6_status_85 : decode cX6_status 85 = .ok (.getfield 10, 3) := by decide +kernel
theorem dX6_status_88 : decode cX6_status 88 = .ok (.getfield 162, 3) := by decide +kernel
theorem dX6_status_91 : decode cX6_status 91 = .ok (.ireturn, 1) := by decide +kernel
theorem dX6_status_92 : decode cX6_status 92 = .ok (.aload_n 0, 1) := by decide +kernel
theorem dX6_status_93 : decode cX6_status 93 = .ok (.getfield 10, 3) := by decide +kernel
theorem dX6_status_96 : decode cX6_status 96 = .ok (.getfield 228, 3) := by decide +kernel
theorem dX6_status_99 : decode cX6_status 99 = .ok (.ireturn, 1) := by decide +kernel
theorem dX6_status_100 : decode cX6_status 100 = .ok (.aload_n 0, 1) := by decide +kernel
theorem dX6_status_101 : decode cX6_status 101 = .ok (.getfield 10, 3) := by decide +kernel
theorem dX6_status_104 : decode cX6_status 104 = .ok (.invokevirtual 231, 3) := by decide +kernel
theorem dX6_status_107 : decode cX6_status 107 = .ok (.ireturn, 1) := by decide +kernel
theorem dX6_status_108 : decode cX6_status 108 = .ok (.aload_n 0, 1) := by decide +kernel
theorem dX6_status_109 : decode cX6_status 109 = .ok (.getfield 32, 3) := by decide +kernel
theorem dX6_status_112 : decode cX6_status 112 = .ok (.invokevirtual 178, 3) := by decide +kernel
theorem dX6_status_115 : decode cX6_status 115 = .ok (.ireturn, 1) := by decide +kernel
theorem dX6_status_116 : decode cX6_status 116 = .ok (.aload_n 0, 1) := by decide +kernel
theorem dX6_status_117 : decode cX6_status 117 = .ok (.getfield 10, 3) := by decide +kernel
theorem dX6_status_120 : decode cX6_status 120 = .ok (.getfield 281, 3) := by decide +kernel
theorem dX6_status_123 : decode cX6_status 123 = .ok (.ireturn, 1) := by decide +kernel
theorem dX6_status_124 : decode cX6_status 124 = .ok (.aload_n 0, 1) := by decide +kernel
theorem dX6_status_125 : decode cX6_status 125 = .ok (.getfield 25, 3) := by decide +kernel
theorem dX6_status_128 : decode cX6_status 128 = .ok (.invokevirtual 287, 3) := by decide +kernel
theorem dX6_status_131 : decode cX6_status 131 = .ok (.ireturn, 1) := by decide +kernel
theorem dX6_status_132 : decode cX6_status 132 = .ok (.aload_n 0, 1) := by decide +kernel
theorem dX6_status_133 : decode cX6_status 133 = .ok (.getfield 10, 3) := by decide +kernel
theorem dX6_status_136 : decode cX6_status 136 = .ok (.getfield 166, 3) := by decide +kernel
theorem dX6_status_139 : decode cX6_status 139 = .ok (.ireturn, 1) := by decide +kernel
theorem dX6_status_140 : decode cX6_status 140 = .ok (.aload_n 0, 1) := by decide +kernel
theorem dX6_status_141 : decode cX6_status 141 = .ok (.getfield 10, 3) := by decide +kernel
theorem dX6_status_144 : decode cX6_status 144 = .ok (.getfield 169, 3) := by decide +kernel
theorem dX6_status_147 : decode cX6_status 147 = .ok (.ireturn, 1) := by decide +kernel
theorem dX6_status_148 : decode cX6_status 148 = .ok (.iload_n 1, 1) := by decide +kernel
theorem dX6_status_149 : decode cX6_status 149 = .ok (.bipush 12, 2) := by decide +kernel
theorem dX6_status_151 : decode cX6_status 151 = .ok (.bipush 16, 2) := by decide +kernel
theorem dX6_status_153 : decode cX6_status 153 = .ok (.invokestatic 72, 3) := by decide +kernel
theorem dX6_status_156 : decode cX6_status 156 = .ok (.ifCond .eq 15, 3) := by decide +kernel
theorem dX6_status_159 : decode cX6_status 159 = .ok (.aload_n 0, 1) := by decide +kernel
theorem dX6_status_160 : decode cX6_status 160 = .ok (.getfield 61, 3) := by decide +kernel
theorem dX6_status_163 : decode cX6_status 163 = .ok (.iload_n 1, 1) := by decide +kernel
theorem dX6_status_164 : decode cX6_status 164 = .ok (.bipush 12, 2) := by decide +kernel
theorem dX6_status_166 : decode cX6_status 166 = .ok (.isub, 1) := by decide +kernel
theorem dX6_status_167 : decode cX6_status 167 = .ok (.iaload, 1) := by decide +kernel
theorem dX6_status_168 : decode cX6_status 168 = .ok (.goto 4, 3) := by decide +kernel
theorem dX6_status_171 : decode cX6_status 171 = .ok (.iconst (-1), 1) := by decide +kernel
theorem dX6_status_172 : decode cX6_status 172 = .ok (.ireturn, 1) := by decide +kernel
theorem dX6_weeks_0 : decode cX6_weeks 0 = .ok (.aload_n 0, 1) := by decide +kernel
theorem dX6_weeks_1 : decode cX6_weeks 1 = .ok (.iload_n 1, 1) := by decide +kernel
theorem dX6_weeks_2 : decode cX6_weeks 2 = .ok (.iload_n 2, 1) := by decide +kernel
theorem dX6_weeks_3 : decode cX6_weeks 3 = .ok (.iconst 1, 1) := by decide +kernel
theorem dX6_weeks_4 : decode cX6_weeks 4 = .ok (.bipush 20, 2) := by decide +kernel
theorem dX6_weeks_6 : decode cX6_weeks 6 = .ok (.invokestatic 72, 3) := by decide +kernel
theorem dX6_weeks_9 : decode cX6_weeks 9 = .ok (.invokevirtual 116, 3) := by decide +kernel
theorem dX6_weeks_12 : decode cX6_weeks 12 = .ok (.istore_n 3, 1) := by decide +kernel
theorem dX6_weeks_13 : decode cX6_weeks 13 = .ok (.iload_n 3, 1) := by decide +kernel
theorem dX6_weeks_14 : decode cX6_weeks 14 = .ok (.ifCond .eq 9, 3) := by decide +kernel
theorem dX6_weeks_17 : decode cX6_weeks 17 = .ok (.aload_n 0, 1) := by decide +kernel
theorem dX6_weeks_18 : decode cX6_weeks 18 = .ok (.iload_n 3, 1) := by decide +kernel
theorem dX6_weeks_19 : decode cX6_weeks 19 = .ok (.invokevirtual 76, 3) := by decide +kernel
theorem dX6_weeks_22 : decode cX6_weeks 22 = .ok (.ireturn, 1) := by decide +kernel
theorem dX6_weeks_23 : decode cX6_weeks 23 = .ok (.iconst 0, 1) := by decide +kernel
theorem dX6_weeks_24 : decode cX6_weeks 24 = .ok (.istore 4, 2) := by decide +kernel
theorem dX6_weeks_26 : decode cX6_weeks 26 = .ok (.iconst 0, 1) := by decide +kernel
theorem dX6_weeks_27 : decode cX6_weeks 27 = .ok (.istore 5, 2) := by decide +kernel
theorem dX6_weeks_29 : decode cX6_weeks 29 = .ok (.iload 5, 2) := by decide +kernel
theorem dX6_weeks_31 : decode cX6_weeks 31 = .ok (.iload_n 2, 1) := by decide +kernel
theorem dX6_weeks_32 : decode cX6_weeks 32 = .ok (.if_icmp .ge 56, 3) := by decide +kernel
theorem dX6_weeks_35 : decode cX6_weeks 35 = .ok (.aload_n 0, 1) := by decide +kernel
theorem dX6_weeks_36 : decode cX6_weeks 36 = .ok (.getfield 39, 3) := by decide +kernel
theorem dX6_weeks_39 : decode cX6_weeks 39 = .ok (.aload_n 0, 1) := by decide +kernel
theorem dX6_weeks_40 : decode cX6_weeks 40 = .ok (.getfield 25, 3) := by decide +kernel
theorem dX6_weeks_43 : decode cX6_weeks 43 = .ok (.iload_n 1, 1) := by decide +kernel
theorem dX6_weeks_44 : decode cX6_weeks 44 = .ok (.invokevirtual 120, 3) := by decide +kernel
theorem dX6_weeks_47 : decode cX6_weeks 47 = .ok (.aload_n 0, 1) := by decide +kernel
theorem dX6_weeks_48 : decode cX6_weeks 48 = .ok (.getfield 25, 3) := by decide +kernel
theorem dX6_weeks_51 : decode cX6_weeks 51 = .ok (.iload_n 1, 1) := by decide +kernel
theorem dX6_weeks_52 : decode cX6_weeks 52 = .ok (.invokevirtual 126, 3) := by decide +kernel
theorem dX6_weeks_55 : decode cX6_weeks 55 = .ok (.aload_n 0, 1) := by decide +kernel
theorem dX6_weeks_56 : decode cX6_weeks 56 = .ok (.getfield 10, 3) := by decide +kernel
theorem dX6_weeks_59 : decode cX6_weeks 59 = .ok (.invokevirtual 197, 3) := by decide +kernel
theorem dX6_weeks_62 : decode cX6_weeks 62 = .ok (.iload 4, 2) := by decide +kernel
theorem dX6_weeks_64 : decode cX6_weeks 64 = .ok (.aload_n 0, 1) := by decide +kernel
theorem dX6_weeks_65 : decode cX6_weeks 65 = .ok (.getfield 10, 3) := by decide +kernel
theorem dX6_weeks_68 : decode cX6_weeks 68 = .ok (.aload_n 0, 1) := by decide +kernel
theorem dX6_weeks_69 : decode cX6_weeks 69 = .ok (.getfield 39, 3) := by decide +kernel
theorem dX6_weeks_72 : decode cX6_weeks 72 = .ok (.getfield 201, 3) := by decide +kernel
theorem dX6_weeks_75 : decode cX6_weeks 75 = .ok (.iconst 1, 1) := by decide +kernel
theorem dX6_weeks_76 : decode cX6_weeks 76 = .ok (.invokevirtual 202, 3) := by decide +kernel
theorem dX6_weeks_79 : decode cX6_weeks 79 = .ok (.iadd, 1) := by decide +kernel
theorem dX6_weeks_80 : decode cX6_weeks 80 = .ok (.istore 4, 2) := by decide +kernel
theorem dX6_weeks_82 : decode cX6_weeks 82 = .ok (.iinc 5 1, 3) := by decide +kernel
theorem dX6_weeks_85 : decode cX6_weeks 85 = .ok (.goto (-56), 3) := by decide +kernel
theorem dX6_weeks_88 : decode cX6_weeks 88 = .ok (.iload 4, 2) := by decide +kernel
theorem dX6_weeks_90 : decode cX6_weeks 90 = .ok (.ireturn, 1) := by decide +kernel
theorem dX6_wipe_0 : decode cX6_wipe 0 = .ok (.aload_n 0, 1) := by decide +kernel
theorem dX6_wipe_1 : decode cX6_wipe 1 = .ok (.getfield 32, 3) := by decide +kernel
theorem dX6_wipe_4 : decode cX6_wipe 4 = .ok (.invokevirtual 178, 3) := by decide +kernel
theorem dX6_wipe_7 : decode cX6_wipe 7 = .ok (.istore_n 1, 1) := by decide +kernel
theorem dX6_wipe_8 : decode cX6_wipe 8 = .ok (.aload_n 0, 1) := by decide +kernel
theorem dX6_wipe_9 : decode cX6_wipe 9 = .ok (.getfield 32, 3) := by decide +kernel
theorem dX6_wipe_12 : decode cX6_wipe 12 = .ok (.invokevirtual 181, 3) := by decide +kernel
theorem dX6_wipe_15 : decode cX6_wipe 15 = .ok (.iload_n 1, 1) := by decide +kernel
theorem dX6_wipe_16 : decode cX6_wipe 16 = .ok (.ireturn, 1) := by decide +kernel
theorem dX6_write_0 : decode cX6_write 0 = .ok (.aload_n 0, 1) := by decide +kernel
theorem dX6_write_1 : decode cX6_write 1 = .ok (.getfield 10, 3) := by decide +kernel
theorem dX6_write_4 : decode cX6_write 4 = .ok (.iload_n 1, 1) := by decide +kernel
theorem dX6_write_5 : decode cX6_write 5 = .ok (.invokevirtual 152, 3) := by decide +kernel
theorem dX6_write_8 : decode cX6_write 8 = .ok (.ifCond .ne 10, 3) := by decide +kernel
theorem dX6_write_11 : decode cX6_write 11 = .ok (.aload_n 0, 1) := by decide +kernel
theorem dX6_write_12 : decode cX6_write 12 = .ok (.bipush (-2), 2) := by decide +kernel
theorem dX6_write_14 : decode cX6_write 14 = .ok (.invokevirtual 76, 3) := by decide +kernel
theorem dX6_write_17 : decode cX6_write 17 = .ok (.ireturn, 1) := by decide +kernel
theorem dX6_write_18 : decode cX6_write 18 = .ok (.aload_n 0, 1) := by decide +kernel
theorem dX6_write_19 : decode cX6_write 19 = .ok (.getfield 10, 3) := by decide +kernel
theorem dX6_write_22 : decode cX6_write 22 = .ok (.iload_n 1, 1) := by decide +kernel
theorem dX6_write_23 : decode cX6_write 23 = .ok (.invokevirtual 258, 3) := by decide +kernel
theorem dX6_write_26 : decode cX6_write 26 = .ok (.ifCond .ne 10, 3) := by decide +kernel
theorem dX6_write_29 : decode cX6_write 29 = .ok (.aload_n 0, 1) := by decide +kernel
theorem dX6_write_30 : decode cX6_write 30 = .ok (.bipush (-5), 2) := by decide +kernel
theorem dX6_write_32 : decode cX6_write 32 = .ok (.invokevirtual 76, 3) := by decide +kernel
theorem dX6_write_35 : decode cX6_write 35 = .ok (.ireturn, 1) := by decide +kernel
theorem dX6_write_36 : decode cX6_write 36 = .ok (.aload_n 0, 1) := by decide +kernel
theorem dX6_write_37 : decode cX6_write 37 = .ok (.getfield 10, 3) := by decide +kernel
theorem dX6_write_40 : decode cX6_write 40 = .ok (.getfield 155, 3) := by decide +kernel
theorem dX6_write_43 : decode cX6_write 43 = .ok (.iload_n 1, 1) := by decide +kernel
theorem dX6_write_44 : decode cX6_write 44 = .ok (.aaload, 1) := by decide +kernel
theorem dX6_write_45 : decode cX6_write 45 = .ok (.bipush 6, 2) := by decide +kernel
theorem dX6_write_47 : decode cX6_write 47 = .ok (.iaload, 1) := by decide +kernel
theorem dX6_write_48 : decode cX6_write 48 = .ok (.istore_n 2, 1) := by decide +kernel
theorem dX6_write_49 : decode cX6_write 49 = .ok (.aload_n 0, 1) := by decide +kernel
theorem dX6_write_50 : decode cX6_write 50 = .ok (.getfield 10, 3) := by decide +kernel
theorem dX6_write_53 : decode cX6_write 53 = .ok (.iload_n 1, 1) := by decide +kernel
theorem dX6_write_54 : decode cX6_write 54 = .ok (.invokevirtual 261, 3) := by decide +kernel
theorem dX6_write_57 : decode cX6_write 57 = .ok (.iload_n 2, 1) := by decide +kernel
theorem dX6_write_58 : decode cX6_write 58 = .ok (.ireturn, 1) := by decide +kernel
